/-! 43: extract over an archive whose first k1 nodes are good -/
section
variable {kd pr nm md sz tg dt ct' kd' pr' nm' md' sz' tg' dt' a : Nat → Int32} {P : Nat → List Int32} {c k : Nat}
theorem rt_E_S (hb : ∀ j, ta_by (a j)) (hc : c ≤ 8) (hk : k < c) (hs32 : ∀ i, i < c → ta_n (sz i) ≤ 32) (E : rt_E c k kd pr nm md sz tg dt ct' kd' pr' nm' md' sz' tg' dt') (G : rt_G a kd md sz tg dt P k) {o : Nat} (ho : o = ta_of sz k) {x1 x2 x3 : Int32} {s : Nat} (e1 : x1 = kd k) (e2 : x2 = md k) (e3 : x3 = sz k) (es : s = ta_n (sz k)) :
    rt_E c (k + 1) kd pr nm md sz tg dt (upd ct' 1 (nI (k + 1))) (upd kd' (8 + k) x1) (upd pr' (8 + k) (pr k)) (upd nm' (8 + k) (nm k)) (upd md' (8 + k) x2) (upd sz' (8 + k) x3) (upd tg' (8 + k) (tg k)) (ta_wr dt' (32 * (8 + k)) (ta_sg a (o + 64) s)) := by
  obtain ⟨h1, h2, h3, h4, h5, h6⟩ := E
  have s32 := hs32 k hk
  refine ⟨by rw [pk_un (by decide)]; exact h1, pk_us, fun i hi => ?_, fun j hj => ?_, fun i hi => ?_, ta_wr_by h6 (fun x hx => by obtain ⟨q, _, e⟩ := ta_sg_mem.mp hx; rw [← e]; exact hb _)⟩
  · have := h3 i hi
    refine ⟨by rw [pk_un (by omega)]; exact this.1, by rw [pk_un (by omega)]; exact this.2.1, by rw [pk_un (by omega)]; exact this.2.2.1, by rw [pk_un (by omega)]; exact this.2.2.2.1, by rw [pk_un (by omega)]; exact this.2.2.2.2.1, by rw [pk_un (by omega)]; exact this.2.2.2.2.2⟩
  · rw [ta_wr_out (by omega)]; exact h4 j hj
  · rcases Nat.lt_or_ge i k with y | y
    · have := h5 i y
      have i32 := hs32 i (by omega)
      refine ⟨by rw [pk_un (by omega)]; exact this.1, by rw [pk_un (by omega)]; exact this.2.1, by rw [pk_un (by omega)]; exact this.2.2.1, by rw [pk_un (by omega)]; exact this.2.2.2.1, by rw [pk_un (by omega)]; exact this.2.2.2.2.1, by rw [pk_un (by omega)]; exact this.2.2.2.2.2.1, fun q hq => ?_⟩
      rw [ta_wr_out (by omega)]
      exact this.2.2.2.2.2.2 q hq
    · have e : i = k := by omega
      subst e
      refine ⟨by rw [pk_us]; exact e1, pk_us, pk_us, by rw [pk_us]; exact e2, by rw [pk_us]; exact e3, pk_us, fun q hq => ?_⟩
      rw [ta_wr_in (by rw [ta_sg_len, es]; exact hq), List.getD_eq_getElem?_getD, ta_sg_get (by rw [es]; exact hq), ho]
      exact (G.2 (by omega)).1 q hq
theorem rt_run (T : ta_Tr 0 c kd pr nm P) (X : ∀ i, i < c → ta_Nx 0 kd sz tg i) (hc : c ≤ 8) (htg : ∀ i, i < c → kd i ≠ 2 → tg i = -1) (hft : ∀ i, i < c → ta_ft kd tg P i) (hb : ∀ j, ta_by (a j)) {k1 L : Nat} (hk1 : k1 ≤ c) (hG : ∀ i, i < k1 → rt_G a kd md sz tg dt P i) (hL : L ≤ 768) (hLc : ta_of sz c + 128 ≤ L) {post : Int32 → St2 → Prop} {fe : Int32}
    (hS : ∀ ct' kd' pr' nm' md' sz' tg' dt', rt_E c k1 kd pr nm md sz tg dt ct' kd' pr' nm' md' sz' tg' dt' → ∃ r e, ta_Stop a L 8 k1 kd' tg' P (k1 + ta_fc sz k1) r e ∧ ∀ fp fn ft pa, post r (nI 8, nI 12, nI L, e, fp, fn, ft, ct', kd', pr', nm', md', sz', tg', dt', a, pa)) :
    ∀ n k ct' kd' pr' nm' md' sz' tg' dt' fp fn ft pa, k ≤ k1 → k1 < k + n → rt_E c k kd pr nm md sz tg dt ct' kd' pr' nm' md' sz' tg' dt' → wX_extract_9 post n (nI (k + ta_fc sz k)) (nI 8) (nI 12) (nI L) fe fp fn ft ct' kd' pr' nm' md' sz' tg' dt' a pa := by
  have hs32 : ∀ i, i < c → ta_n (sz i) ≤ 32 := fun i hi => by
    obtain ⟨_, _, ⟨s, s1, s2⟩, _⟩ := X i hi
    rw [Nat.zero_add] at s2
    unfold ta_n
    rw [s2, nI_clamp (by omega)]; exact s1
  intro n
  induction n with
  | zero => intro k ct' kd' pr' nm' md' sz' tg' dt' fp fn ft pa _ g; omega
  | succ n ih =>
    intro k ct' kd' pr' nm' md' sz' tg' dt' fp fn ft pa g1 g2 E
    have T8 := rt_E_Tr T (by omega) E
    have X8 := rt_E_Nx X (by omega) E
    have eo : ta_of sz k = 64 * (k + ta_fc sz k) := rfl
    have hmo := rt_of_mono sz (show k ≤ c by omega)
    rcases Nat.lt_or_ge k k1 with y | y
    · have hm1 := rt_of_mono sz (show k + 1 ≤ c by omega)
      obtain ⟨Go, o1, o2, o3, o4, o5⟩ := rt_go T X hc htg (by omega) E hb (hft k (by omega)) (hG k y) (L := L) (by omega)
      refine xa_step T8 E.2.1 X8 (mn := 8) (mb := 12) (by omega) (by omega) (by omega) (by omega) hb (by omega) (fun r e hSt => (ta_Stop_Go T8 hSt Go).elim) (fun nd nv t hGo _ pa' => ?_)
      obtain ⟨q1, q2, q3⟩ := ta_Go_u T8 Go hGo
      subst q1 q2 q3
      have E2 := rt_E_S (P := P) hb hc (by omega) hs32 E (hG k y) (o := 64 * (k + ta_fc sz k)) rfl o3 (show nI (ta_ov a (64 * (k + ta_fc sz k) + 12) 3) = md k by rw [o1]; exact o4) (show nI (ta_ov a (64 * (k + ta_fc sz k) + 16) 3) = sz k by rw [o2]; exact o5) o2
      have := ih (k + 1) _ _ _ _ _ _ _ _ (pr k) (nm k) (tg k) pa' (by omega) (by omega) E2
      have eb : (if ta_ov a (64 * (k + ta_fc sz k) + 16) 3 = 0 then k + ta_fc sz k + 1 else k + ta_fc sz k + 2) = k + 1 + ta_fc sz (k + 1) := by
        rw [o2]
        by_cases w : ta_n (sz k) = 0
        · rw [if_pos w, ta_fc_z w]; omega
        · rw [if_neg w, ta_fc_p (by omega)]; omega
      rw [eb]
      exact this
    · have ek : k = k1 := by omega
      subst ek
      obtain ⟨r, e, hSt, hp⟩ := hS _ _ _ _ _ _ _ _ E
      refine xa_step T8 E.2.1 X8 (mn := 8) (mb := 12) (by omega) (by omega) (by omega) (by omega) hb (by omega) (fun r' e' hSt' fp' fn' ft' pa' => ?_) (fun nd nv t hGo => (ta_Stop_Go T8 hSt hGo).elim)
      obtain ⟨q1, q2⟩ := ta_Stop_u T8 hSt hSt'
      subst q1 q2
      exact hp fp' fn' ft' pa'
end
/-! a changed byte -/
def rt_sN (a : Nat → Int32) (o : Nat) : Nat → Nat
  | 0 => 0
  | n + 1 => rt_sN a o n + (if 20 ≤ n ∧ n < 26 then 32 else ta_n (a (o + n)))
theorem rt_sN_cs {a : Nat → Int32} {o : Nat} (hb : ∀ j, ta_by (a j)) : ∀ n, ta_cs a o n = nI (rt_sN a o n) ∧ rt_sN a o n ≤ 255 * n := by
  intro n
  induction n with
  | zero => exact ⟨rfl, Nat.le_refl _⟩
  | succ n ih =>
    obtain ⟨q, q1, q2⟩ := hb (o + n)
    have en : ta_n (a (o + n)) = q := by unfold ta_n; rw [q2, nI_clamp (by omega)]
    have e : rt_sN a o (n + 1) = rt_sN a o n + (if 20 ≤ n ∧ n < 26 then 32 else ta_n (a (o + n))) := rfl
    have e' : ta_cs a o (n + 1) = ta_cs a o n + (if 20 ≤ n ∧ n < 26 then 32 else a (o + n)) := rfl
    rw [e, e', ih.1]
    by_cases w : 20 ≤ n ∧ n < 26
    · rw [if_pos w, if_pos w]
      exact ⟨nI_add _ 32, by omega⟩
    · rw [if_neg w, if_neg w, en, q2, nI_add]
      exact ⟨rfl, by omega⟩
theorem rt_sN_upd {a : Nat → Int32} {o j : Nat} {x : Int32} (hj : ¬ (20 ≤ j ∧ j < 26)) : ∀ n, rt_sN (upd a (o + j) x) o n + (if j < n then ta_n (a (o + j)) else 0) = rt_sN a o n + (if j < n then ta_n x else 0) := by
  intro n
  induction n with
  | zero => rw [if_neg (by omega), if_neg (by omega)]; rfl
  | succ n ih =>
    show rt_sN (upd a (o + j) x) o n + (if 20 ≤ n ∧ n < 26 then 32 else ta_n (upd a (o + j) x (o + n))) + _ = rt_sN a o n + (if 20 ≤ n ∧ n < 26 then 32 else ta_n (a (o + n))) + _
    rcases Nat.lt_trichotomy j n with w | w | w
    · rw [if_pos w, if_pos w] at ih
      rw [if_pos (show j < n + 1 by omega), if_pos (show j < n + 1 by omega), pk_un (by omega)]
      omega
    · subst w
      rw [if_neg (by omega), if_neg (by omega)] at ih
      rw [if_pos (show j < j + 1 by omega), if_pos (show j < j + 1 by omega), if_neg hj, if_neg hj, pk_us]
      omega
    · rw [if_neg (by omega), if_neg (by omega)] at ih
      rw [if_neg (show ¬ j < n + 1 by omega), if_neg (show ¬ j < n + 1 by omega), pk_un (by omega)]
      omega
theorem rt_cs_skip {a : Nat → Int32} {o j : Nat} {x : Int32} (hj : 20 ≤ j ∧ j < 26) : ∀ n, ta_cs (upd a (o + j) x) o n = ta_cs a o n := by
  intro n
  induction n with
  | zero => rfl
  | succ n ih =>
    show ta_cs (upd a (o + j) x) o n + (if 20 ≤ n ∧ n < 26 then 32 else upd a (o + j) x (o + n)) = ta_cs a o n + (if 20 ≤ n ∧ n < 26 then 32 else a (o + n))
    rw [ih]
    by_cases w : 20 ≤ n ∧ n < 26
    · rw [if_pos w, if_pos w]
    · rw [if_neg w, if_neg w, pk_un (by omega)]
theorem rt_ov_inj {a b : Nat → Int32} {o : Nat} : ∀ d, ta_od a o d → ta_od b o d → ta_ov a o d = ta_ov b o d → ∀ k, k < d → a (o + k) = b (o + k) := by
  intro d
  induction d with
  | zero => intro _ _ _ k hk; omega
  | succ d ih =>
    intro ha hb h k hk
    obtain ⟨m, m1, m2, m3⟩ := ta_dg (ha d (by omega))
    obtain ⟨m', n1, n2, n3⟩ := ta_dg (hb d (by omega))
    have h : ta_ov a o d * 8 + (ta_n (a (o + d)) - 48) = ta_ov b o d * 8 + (ta_n (b (o + d)) - 48) := h
    rw [m3, n3] at h
    rcases Nat.lt_or_ge k d with y | y
    · exact ih (fun i hi => ha i (by omega)) (fun i hi => hb i (by omega)) (by omega) k y
    · rw [show k = d by omega, m2, n2, show m = m' by omega]
/-- a header with one byte changed has a wrong checksum -/
theorem rt_bad {a : Nat → Int32} {o j : Nat} {x : Int32} (hb : ∀ j, ta_by (a j)) (hx : ta_by x) (h : ta_Ck a o) (hj : j < 64) (hne : a (o + j) ≠ x) : ¬ ta_Ck (upd a (o + j) x) o := by
  rintro ⟨⟨g1, g2⟩, g3⟩
  obtain ⟨⟨h1, h2⟩, h3⟩ := h
  have hb' := ta_upd_by (o := o + j) hb hx
  have l1 := ta_ov_lt 5 h1
  have l2 := ta_ov_lt 5 g1
  by_cases w : 20 ≤ j ∧ j < 26
  · rw [rt_cs_skip w, ← h3] at g3
    have ev := (nI_eq (by omega) (by omega)).mp g3
    rcases Nat.lt_or_ge j 25 with y | y
    · have := rt_ov_inj 5 g1 h1 ev (j - 20) (by omega)
      rw [show o + 20 + (j - 20) = o + j by omega, pk_us] at this
      exact hne this.symm
    · rw [show o + 20 + 5 = o + j by omega, pk_us] at g2
      rw [show o + 20 + 5 = o + j by omega] at h2
      exact hne (h2.trans g2.symm)
  · have hd : ∀ k, k < 6 → upd a (o + j) x (o + 20 + k) = a (o + 20 + k) := fun k hk => pk_un (by omega)
    have ev : ta_ov (upd a (o + j) x) (o + 20) 5 = ta_ov a (o + 20) 5 := by
      have : ∀ d, d ≤ 5 → ta_ov (upd a (o + j) x) (o + 20) d = ta_ov a (o + 20) d := by
        intro d
        induction d with
        | zero => intro _; rfl
        | succ d ih =>
          intro hd5
          show ta_ov (upd a (o + j) x) (o + 20) d * 8 + (ta_n (upd a (o + j) x (o + 20 + d)) - 48) = ta_ov a (o + 20) d * 8 + (ta_n (a (o + 20 + d)) - 48)
          rw [ih (by omega), hd d (by omega)]
      exact this 5 (Nat.le_refl _)
    rw [ev, h3] at g3
    obtain ⟨s1, s2⟩ := rt_sN_cs (o := o) hb 64
    obtain ⟨t1, t2⟩ := rt_sN_cs (o := o) hb' 64
    rw [s1, t1] at g3
    have es := (nI_eq (by omega) (by omega)).mp g3
    have eu := rt_sN_upd (a := a) (o := o) (j := j) (x := x) w 64
    rw [if_pos hj, if_pos hj] at eu
    obtain ⟨p, p1, p2⟩ := hb (o + j)
    obtain ⟨q, q1, q2⟩ := hx
    have ep : ta_n (a (o + j)) = p := by unfold ta_n; rw [p2, nI_clamp (by omega)]
    have eq : ta_n x = q := by unfold ta_n; rw [q2, nI_clamp (by omega)]
    rw [ep, eq] at eu
    exact hne (by rw [p2, q2, show p = q by omega])
