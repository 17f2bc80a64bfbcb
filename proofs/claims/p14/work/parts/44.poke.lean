/-! 44: how extract ends: over what create wrote, and over it with one byte changed -/
section
variable {kd pr nm md sz tg dt ct' kd' pr' nm' md' sz' tg' dt' a : Nat → Int32} {P : Nat → List Int32} {c k : Nat}
theorem rt_loc (sz : Nat → Int32) {p : Nat} : ∀ c, p < ta_of sz c → ∃ k, k < c ∧ ta_of sz k ≤ p ∧ p < ta_of sz (k + 1) := by
  intro c
  induction c with
  | zero => intro h; exact absurd h (Nat.not_lt_zero _)
  | succ c ih =>
    intro h
    rcases Nat.lt_or_ge p (ta_of sz c) with y | y
    · obtain ⟨k, h1, h2, h3⟩ := ih y
      exact ⟨k, by omega, h2, h3⟩
    · exact ⟨c, by omega, y, h⟩
theorem rt_G_cg {b : Nat → Int32} (h : rt_G a kd md sz tg dt P k) (e : ∀ j, ta_of sz k ≤ j → j < ta_of sz (k + 1) → b j = a j) : rt_G b kd md sz tg dt P k := by
  obtain ⟨⟨m, s, m1, s1, m2, s2, H⟩, D⟩ := h
  have eS := rt_of_S sz k
  refine ⟨⟨m, s, m1, s1, m2, s2, rt_H_cg H (fun j hj => e _ (by omega) (by omega))⟩, fun w => ?_⟩
  rw [if_pos w] at eS
  have s32 : ta_n (sz k) ≤ 32 := by unfold ta_n; rw [s2, nI_clamp (by omega)]; exact s1
  obtain ⟨d1, d2⟩ := D w
  exact ⟨fun q hq => by rw [e _ (by omega) (by omega)]; exact d1 q hq, fun q h1 h2 => by rw [e _ (by omega) (by omega)]; exact d2 q h1 h2⟩
theorem rt_ok {L : Nat} (hz : ∀ j, j < 128 → a (ta_of sz c + j) = 0) (hL : L = ta_of sz c + 128) : ta_Stop a L 8 c kd' tg' P (c + ta_fc sz c) (nI c) (-1) := by
  have eo : ta_of sz c = 64 * (c + ta_fc sz c) := rfl
  rw [eo] at hz hL
  refine Or.inr (Or.inl ⟨by omega, fun j hj => hz j (by omega), Or.inr (Or.inr ⟨by omega, fun j hj => ?_, rfl, rfl⟩)⟩)
  have := hz (64 + j) (by omega)
  rwa [show 64 * (c + ta_fc sz c) + (64 + j) = 64 * (c + ta_fc sz c + 1) + j by omega] at this
theorem rt_Ck {m s : Nat} {L K : List Int32} {ty : Int32} {o : Nat} (hb : ∀ j, ta_by (a j)) (h : rt_H a o L K m s ty) : ta_Ck a o := by
  obtain ⟨_, _, _, _, _, h6, h7, _⟩ := h
  obtain ⟨n, n1, n2⟩ := ta_cs_by (o := o) hb 64 (by omega)
  rw [n2] at h6
  obtain ⟨c1, c2⟩ := rt_ov 5 n a (o + 20) (by omega) (by omega) h6
  exact ⟨⟨c1, h7⟩, by rw [c2, n2]⟩
theorem rt_poke (T : ta_Tr 0 c kd pr nm P) (X : ∀ i, i < c → ta_Nx 0 kd sz tg i) (hc : c ≤ 8) (htg : ∀ i, i < c → kd i ≠ 2 → tg i = -1) (hft : ∀ i, i < c → ta_ft kd tg P i) (hb : ∀ j, ta_by (a j)) (hG : ∀ i, i < c → rt_G a kd md sz tg dt P i) (hz : ∀ j, j < 128 → a (ta_of sz c + j) = 0) {L p : Nat} {x : Int32} (hL : L = ta_of sz c + 128) (hp : p < L) (hx : ta_by x) (hne : a p ≠ x)
    (hex : ∀ i, i < c → 0 < ta_n (sz i) → ¬ (ta_of sz i + 64 ≤ p ∧ p < ta_of sz i + 64 + ta_n (sz i))) :
    ∃ k1, k1 ≤ c ∧ (∀ i, i < k1 → rt_G (upd a p x) kd md sz tg dt P i) ∧ ∀ ct' kd' pr' nm' md' sz' tg' dt', rt_E c k1 kd pr nm md sz tg dt ct' kd' pr' nm' md' sz' tg' dt' → ∃ r e, ta_Stop (upd a p x) L 8 k1 kd' tg' P (k1 + ta_fc sz k1) r e ∧ r < 0 := by
  have hb' := ta_upd_by (o := p) hb hx
  rcases Nat.lt_or_ge p (ta_of sz c) with y | y
  · obtain ⟨k, k1, k2, k3⟩ := rt_loc sz c y
    have eS := rt_of_S sz k
    have eo : ta_of sz k = 64 * (k + ta_fc sz k) := rfl
    have hmo := rt_of_mono sz (show k + 1 ≤ c by omega)
    refine ⟨k, by omega, fun i hi => rt_G_cg (hG i (by omega)) (fun j h1 h2 => pk_un ?_), fun ct' kd' pr' nm' md' sz' tg' dt' E => ?_⟩
    · have := rt_of_mono sz (show i + 1 ≤ k by omega)
      omega
    · obtain ⟨⟨m, s, m1, s1, m2, s2, H⟩, D⟩ := hG k k1
      have en : ta_n (sz k) = s := by unfold ta_n; rw [s2, nI_clamp (by omega)]
      rw [eo] at H
      have hmg := H.2.2.2.2.2.2.2.2.2.1
      rcases Nat.lt_or_ge p (ta_of sz k + 64) with w | w
      · obtain ⟨j, rfl⟩ : ∃ j, p = 64 * (k + ta_fc sz k) + j := ⟨p - 64 * (k + ta_fc sz k), by omega⟩
        have bad := rt_bad hb hx (rt_Ck hb H) (show j < 64 by omega) hne
        refine ⟨-15, _, Or.inr (Or.inr (Or.inl ⟨by omega, fun zz => ?_, Or.inl ⟨bad, rfl⟩, by decide, rfl⟩)), by decide⟩
        by_cases q : j = 39
        · have h1 := zz 40 (by omega)
          have h2 := hmg 1 (by omega)
          rw [pk_un (by omega)] at h1
          rw [show 64 * (k + ta_fc sz k) + 39 + 1 = 64 * (k + ta_fc sz k) + 40 by omega, h1] at h2
          exact absurd h2 (by decide)
        · have h1 := zz 39 (by omega)
          have h2 := hmg 0 (by omega)
          rw [pk_un (by omega)] at h1
          rw [Nat.add_zero, h1] at h2
          exact absurd h2 (by decide)
      · have hs0 : 0 < ta_n (sz k) := by
          rcases Nat.eq_zero_or_pos (ta_n (sz k)) with q | q
          · rw [if_neg (by omega)] at eS; omega
          · exact q
        rw [if_pos hs0] at eS
        have hq := hex k k1 hs0
        have H' : rt_H (upd a p x) (64 * (k + ta_fc sz k)) (P k) (ta_lk kd tg P k) m s (ta_ty (kd k)) := rt_H_cg H (fun j hj => pk_un (by omega))
        obtain ⟨x1, _, _, x4⟩ := X k k1
        simp only [Nat.zero_add] at x1 x4
        obtain ⟨t1, t2, t3, t4⟩ := rt_ty3 x1
        obtain ⟨f1, f2, f3⟩ := rt_HF hb' H' m1 s1 t1 (fun q => by
          have := x4 (t2 q)
          rw [s2] at this
          exact (nI_eq (b := 0) (by omega) (by omega)).mp this)
        have hEF := rt_EF T X hc htg k1 E (hft k k1) H'
        refine ⟨-21, _, Or.inr (Or.inr (Or.inr (Or.inr ⟨by omega, fun zz => ?_, f1, ⟨_, _, _, hEF⟩, by rw [f3]; omega, Or.inr ⟨by omega, fun zz => ?_, rfl, rfl⟩⟩))), by decide⟩
        · have h1 := zz 39 (by omega)
          have h2 := hmg 0 (by omega)
          rw [pk_un (by omega)] at h1
          rw [Nat.add_zero, h1] at h2
          exact absurd h2 (by decide)
        · rw [f3] at zz
          have h1 := zz (p - (64 * (k + ta_fc sz k + 1) + s)) (by omega)
          rw [show 64 * (k + ta_fc sz k + 1) + s + (p - (64 * (k + ta_fc sz k + 1) + s)) = p by omega, pk_us] at h1
          obtain ⟨_, d2⟩ := D hs0
          have h2 := d2 (p - (ta_of sz k + 64)) (by omega) (by omega)
          rw [show ta_of sz k + 64 + (p - (ta_of sz k + 64)) = p by omega] at h2
          exact hne (h2.trans h1.symm)
  · have eo : ta_of sz c = 64 * (c + ta_fc sz c) := rfl
    have hp0 : a p = 0 := by
      have := hz (p - ta_of sz c) (by omega)
      rwa [show ta_of sz c + (p - ta_of sz c) = p by omega] at this
    have hx0 : x ≠ 0 := fun z => hne (hp0.trans z.symm)
    refine ⟨c, Nat.le_refl _, fun i hi => rt_G_cg (hG i hi) (fun j h1 h2 => pk_un ?_), fun ct' kd' pr' nm' md' sz' tg' dt' E => ?_⟩
    · have := rt_of_mono sz (show i + 1 ≤ c by omega)
      omega
    · rcases Nat.lt_or_ge p (ta_of sz c + 64) with w | w
      · have nz : ¬ ta_z (upd a p x) (64 * (c + ta_fc sz c)) 64 := fun zz => by
          have h1 := zz (p - 64 * (c + ta_fc sz c)) (by omega)
          rw [show 64 * (c + ta_fc sz c) + (p - 64 * (c + ta_fc sz c)) = p by omega, pk_us] at h1
          exact hx0 h1
        have bad : ¬ ta_Ck (upd a p x) (64 * (c + ta_fc sz c)) := fun ck => by
          by_cases q : p = 64 * (c + ta_fc sz c) + 20
          · have h1 := (ck.1.1 1 (by omega)).1
            have h2 := hz 21 (by omega)
            rw [pk_un (by omega)] at h1
            rw [eo] at h2
            rw [show 64 * (c + ta_fc sz c) + 20 + 1 = 64 * (c + ta_fc sz c) + 21 by omega, h2] at h1
            exact absurd h1 (by decide)
          · have h1 := (ck.1.1 0 (by omega)).1
            have h2 := hz 20 (by omega)
            rw [pk_un (by omega)] at h1
            rw [eo] at h2
            rw [Nat.add_zero, h2] at h1
            exact absurd h1 (by decide)
        exact ⟨-15, _, Or.inr (Or.inr (Or.inl ⟨by omega, nz, Or.inl ⟨bad, rfl⟩, by decide, rfl⟩)), by decide⟩
      · refine ⟨-14, _, Or.inr (Or.inl ⟨by omega, fun j hj => ?_, Or.inr (Or.inl ⟨by omega, fun zz => ?_, rfl, rfl⟩)⟩), by decide⟩
        · rw [pk_un (by omega)]
          exact hz j (by omega)
        · have h1 := zz (p - 64 * (c + ta_fc sz c + 1)) (by omega)
          rw [show 64 * (c + ta_fc sz c + 1) + (p - 64 * (c + ta_fc sz c + 1)) = p by omega, pk_us] at h1
          exact hx0 h1
end
