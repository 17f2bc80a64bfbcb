/-! 47: the comparison of the two trees, and what stands around it -/
/-- both trees, c nodes each, the extracted ones the source's -/
def rt_Q (c : Nat) (ct kd pr nm md sz tg dt : Nat → Int32) (P : Nat → List Int32) : Prop :=
  ct 0 = nI c ∧ ct 1 = nI c ∧ rt_S c kd pr nm md sz tg dt P ∧ (∀ i, i < c → ta_Nx 8 kd sz tg i) ∧
  (∀ i, i < c → kd (8 + i) = kd i ∧ pr (8 + i) = pr i ∧ nm (8 + i) = nm i ∧ md (8 + i) = md i ∧ sz (8 + i) = sz i ∧ tg (8 + i) = tg i ∧ ∀ q, q < ta_n (sz i) → dt (32 * (8 + i) + q) = dt (32 * i + q))
theorem rt_Q_E {c : Nat} {kd pr nm md sz tg dt ct' kd' pr' nm' md' sz' tg' dt' : Nat → Int32} {P : Nat → List Int32} (hc : c ≤ 8) (S : rt_S c kd pr nm md sz tg dt P) (E : rt_E c c kd pr nm md sz tg dt ct' kd' pr' nm' md' sz' tg' dt') : rt_Q c ct' kd' pr' nm' md' sz' tg' dt' P := by
  have S' := rt_S_E hc S E
  have X8 := rt_E_Nx S.2.1 (Nat.le_refl c) E
  obtain ⟨e1, e2, e3, e4, e5, e6⟩ := E
  refine ⟨e1, e2, S', X8, fun i hi => ?_⟩
  obtain ⟨a1, a2, a3, a4, a5, a6, a7⟩ := e5 i hi
  obtain ⟨b1, b2, b3, b4, b5, b6⟩ := e3 i (by omega)
  obtain ⟨s, s1, s2, s3⟩ := rt_s32 S.2.1 i hi
  refine ⟨by rw [a1, b1], by rw [a2, b2], by rw [a3, b3], by rw [a4, b4], by rw [a5, b5], by rw [a6, b6], fun q hq => ?_⟩
  rw [b5] at hq
  rw [a7 q hq, e4 _ (by omega)]
section
variable {fl fe fp fn ft : Int32} {ct kd pr nm md sz tg dt ar pa : Nat → Int32} {P : Nat → List Int32} {c : Nat}
theorem rt_448 {post : Int32 → Prop} {J : Int32 → Prop} {L kc ks i : Nat} {xs : Nat → Int32} {x2 x4 : Int32} (hc : c ≤ 8) (Q : rt_Q c ct kd pr nm md sz tg dt P) (hi : i < c) (h : J (nI (i + 1))) :
    ∀ n q, q ≤ 33 → 33 < q + n → wL_law_448 post L xs J x2 x4 (nI i) kc ks (nI 8) (nI 12) fl fe fp fn ft ct kd pr nm md sz tg dt ar pa n (nI q) := by
  obtain ⟨q1, q2, S, X8, q5⟩ := Q
  have X := S.2.1
  obtain ⟨f, f1, f2, f3, f4⟩ := ta_own (t := 0) hc X hi
  have o0 : rt_o kd tg 0 i f := f3
  have o1 : rt_o kd tg 1 i f := by
    obtain ⟨a1, _, _, _, _, a6, _⟩ := q5 i hi
    rw [Nat.mul_zero, Nat.zero_add] at f3
    show (kd (8 + i) = 2 ∧ tg (8 + i) = nI f) ∨ (kd (8 + i) ≠ 2 ∧ f = i)
    rw [a1, a6]; exact f3
  intro n
  induction n with
  | zero => intro q _ g; omega
  | succ n ih =>
    intro q g1 g2
    refine pk_lt 32 q (fun g => nm_r (nI_1 i) h) (fun g => ?_)
    refine xa_nodeByte (t := 1) (by omega) q2 hc X8 hi f1 o1 (fun z => absurd z (nI_pos (by omega))) (fun a ha ea => ?_)
    refine xa_nodeByte (t := 0) (by omega) q1 hc X hi f1 o0 (fun z => absurd z (nI_pos (by omega))) (fun b hb eb => ?_)
    have e1 : q = a := (nI_eq (by omega) ha).mp ea
    have e2 : q = b := (nI_eq (by omega) hb).mp eb
    subst e1 e2
    refine br_t ?_ (nm_r (nI_1 q) (ih (q + 1) (by omega) (by omega)))
    obtain ⟨_, _, _, _, a5, _, a7⟩ := q5 f f1
    show (if q < ta_n (sz (8 + f)) then dt (32 * (8 + f) + q) else -2) = (if q < ta_n (sz (8 * 0 + f)) then dt (32 * (8 * 0 + f) + q) else -2)
    rw [Nat.mul_zero, Nat.zero_add, a5]
    by_cases w : q < ta_n (sz f)
    · rw [if_pos w, if_pos w, a7 q w]
    · rw [if_neg w, if_neg w]
theorem rt_448m {post : Int32 → Prop} {J : Int32 → Prop} {L kc ks i : Nat} {xs : Nat → Int32} {x2 x4 : Int32} (hc : c ≤ 8) (Q : rt_Q c ct kd pr nm md sz tg dt P) (hi : i < c) (h : J (nI (i + 1))) :
    ∃ n, wL_law_448 post L xs J x2 x4 (nI i) kc ks (nI 8) (nI 12) fl fe fp fn ft ct kd pr nm md sz tg dt ar pa n (-1) := by
  have R := rt_448 (post := post) (L := L) (kc := kc) (ks := ks) (xs := xs) (x2 := x2) (x4 := x4) (fl := fl) (fe := fe) (fp := fp) (fn := fn) (ft := ft) (ar := ar) (pa := pa) hc Q hi h 34 0 (by omega) (by omega)
  obtain ⟨q1, q2, S, X8, q5⟩ := Q
  have X := S.2.1
  obtain ⟨f, f1, f2, f3, f4⟩ := ta_own (t := 0) hc X hi
  have o0 : rt_o kd tg 0 i f := f3
  have o1 : rt_o kd tg 1 i f := by
    obtain ⟨a1, _, _, _, _, a6, _⟩ := q5 i hi
    rw [Nat.mul_zero, Nat.zero_add] at f3
    show (kd (8 + i) = 2 ∧ tg (8 + i) = nI f) ∨ (kd (8 + i) ≠ 2 ∧ f = i)
    rw [a1, a6]; exact f3
  have neg : ∀ q, q < 2 ^ 31 → (-1 : Int32) = nI q → False := fun q hq e => ta_m1 hq e.symm
  refine ⟨35, br_f (by decide) ?_⟩
  refine xa_nodeByte (t := 1) (by omega) q2 hc X8 hi f1 o1 (fun _ => ?_) (fun a ha ea => (neg a ha ea).elim)
  refine xa_nodeByte (t := 0) (by omega) q1 hc X hi f1 o0 (fun _ => ?_) (fun a ha ea => (neg a ha ea).elim)
  exact br_t rfl (nm_r (e' := nI 0) (by decide) R)
theorem rt_410 {post : Int32 → Prop} {J : Int32 → Prop} {L kc ks i : Nat} {xs : Nat → Int32} {x2 x4 : Int32} (hc : c ≤ 8) (Q : rt_Q c ct kd pr nm md sz tg dt P) (hi : i < c) (h : J (nI (i + 1))) :
    ∀ n w, w ≤ 6 → 6 < w + n → wL_law_410 post L xs J x2 x4 (nI i) kc ks (nI 8) (nI 12) fl fe fp fn ft ct kd pr nm md sz tg dt ar pa n (nI w) := by
  have Q' := Q
  obtain ⟨q1, q2, S, X8, q5⟩ := Q
  have X := S.2.1
  obtain ⟨f, f1, f2, f3, f4⟩ := ta_own (t := 0) hc X hi
  have o0 : rt_o kd tg 0 i f := f3
  have o1 : rt_o kd tg 1 i f := by
    obtain ⟨a1, _, _, _, _, a6, _⟩ := q5 i hi
    rw [Nat.mul_zero, Nat.zero_add] at f3
    show (kd (8 + i) = 2 ∧ tg (8 + i) = nI f) ∨ (kd (8 + i) ≠ 2 ∧ f = i)
    rw [a1, a6]; exact f3
  intro n
  induction n with
  | zero => intro w _ g; omega
  | succ n ih =>
    intro w g1 g2
    refine pk_lt 5 w (fun g => rt_448m hc Q' hi h) (fun g => ?_)
    refine xa_nodeInfo (t := 1) (by omega) q2 hc X8 hi f1 o1 g ?_
    refine xa_nodeInfo (t := 0) (by omega) q1 hc X hi f1 o0 g ?_
    refine br_t ?_ (nm_r (nI_1 w) (ih (w + 1) (by omega) (by omega)))
    obtain ⟨a1, a2, a3, _, _, a6, _⟩ := q5 i hi
    obtain ⟨_, _, _, b4, b5, _, _⟩ := q5 f f1
    show rt_v kd pr nm md sz tg (8 + i) (8 + f) w = rt_v kd pr nm md sz tg (8 * 0 + i) (8 * 0 + f) w
    rw [Nat.mul_zero, Nat.zero_add, Nat.zero_add]
    unfold rt_v
    rw [a1, a2, a3, a6, b4, b5]
theorem rt_400 {L kc ks K : Nat} {xs : Nat → Int32} (hLs : L ≤ 260) (hK : K < 800) (hc : c ≤ 8) (Q : rt_Q c ct kd pr nm md sz tg dt P) (hb : ∀ j, ta_by (ar j)) :
    ∀ n i, i ≤ c → c < i + n → wL_law_400 (fun r => r = 1) L xs (nI K) (nI c) kc ks (nI 8) (nI 12) fl fe fp fn ft ct kd pr nm md sz tg dt ar pa n (nI i) := by
  have Q' := Q
  obtain ⟨q1, q2, S, X8, q5⟩ := Q
  intro n
  induction n with
  | zero => intro i _ g; omega
  | succ n ih =>
    intro i g1 g2
    refine pk_le c i (fun g => ?_) (fun g => ?_)
    · refine xa_create S.1 hc S.2.1 q1 (mb := 12) (by omega) (fun hft w pa' => ?_) (fun _ _ _ => br_f (by decide) rfl) (fun _ _ => br_f (by decide) rfl)
      obtain ⟨c1, c2, c3⟩ := rt_cre S hb hft w
      refine br_t (nI_pos' (by omega)) ?_
      refine pk_lt 0 (64 * (c + 2 + ta_fc sz c)) (fun w2 => ?_) (fun w2 => by omega)
      refine nm_r (nI_1 K) (rt_cell hLs (by omega) (fun v => rt_nz (fun m hm => ⟨nI_ne0 (by omega) (by omega), ?_⟩)))
      refine nm_r (pk_rem hm (by omega) (by omega)) ⟨c + 1, ?_⟩
      exact rt_541 hLs (by omega) S q1 hc c1 hft c2 c3 w (Nat.mod_lt _ (by omega)) (c + 1) 0 0 (Nat.zero_le _) (by omega) (Or.inr ⟨rfl, fun i hi => by omega⟩)
    · exact ⟨7, rt_410 hc Q' g (ih (i + 1) (by omega) (by omega)) 7 0 (by omega) (by omega)⟩
end
/-- while the tree is built -/
def rt_B (c : Nat) (ct kd pr nm md sz tg dt ar : Nat → Int32) (P : Nat → List Int32) : Prop :=
  c ≤ 8 ∧ ta_I c 0 ct kd pr nm md md sz tg dt P (fun _ => []) ∧ (∀ i, i < c → ∃ m, m < 512 ∧ md i = nI m) ∧ (∀ i, i < c → kd i ≠ 2 → tg i = -1) ∧ (∀ j, ta_by (ar j))
theorem rt_B_S {c : Nat} {ct kd pr nm md sz tg dt ar : Nat → Int32} {P : Nat → List Int32} (B : rt_B c ct kd pr nm md sz tg dt ar P) : rt_S c kd pr nm md sz tg dt (fun i => if i < c then P i else []) := by
  obtain ⟨_, ⟨i1, i2, i3, i4, i5, i6, i7, i8, i9⟩, b3, b4, _⟩ := B
  refine ⟨ta_Tr_res i3, i5, b4, b3, i9, fun i x hx => ?_⟩
  have hx : x ∈ (if i < c then P i else []) := hx
  by_cases z : i < c
  · rw [if_pos z] at hx
    rcases ta_P_ch i3 i z x hx with e | e
    · rw [e]; exact ta_by_n (n := 47) (by omega)
    · exact ta_by_nc e
  · rw [if_neg z] at hx
    exact absurd hx List.not_mem_nil
section
variable {fl fe fp fn ft : Int32} {ct kd pr nm md sz tg dt ar pa : Nat → Int32} {P : Nat → List Int32} {c : Nat}
theorem rt_add (B : rt_B c ct kd pr nm md sz tg dt ar P) {p k v m : Int32} {post : Int32 → St2 → Prop}
    (h : ∀ r c' ct' kd' pr' nm' md' sz' tg' P', rt_B c' ct' kd' pr' nm' md' sz' tg' dt ar P' → post r (nI 8, nI 12, fl, fe, fp, fn, ft, ct', kd', pr', nm', md', sz', tg', dt, ar, pa)) :
    wpX_addNode post (nI 8, nI 12, fl, fe, fp, fn, ft, ct, kd, pr, nm, md, sz, tg, dt, ar, pa) p k v m := by
  have B' := B
  obtain ⟨b1, I, b3, b4, b5⟩ := B
  have I' := I
  obtain ⟨i1, i2, i3, i4, i5, i6, i7, i8, i9⟩ := I
  refine xa_addNode i3 i1 b1 (Nat.le_refl 8) (fun r _ => h _ _ _ _ _ _ _ _ _ _ B') (fun mv t hs => ?_) i5
  have h8 : c < 8 := by have := hs.1; omega
  obtain ⟨P', I2⟩ := ta_I_add h8 I' hs
  obtain ⟨_, _, _, _, _, _, s7⟩ := hs
  refine h _ (c + 1) _ _ _ _ _ _ _ P' ⟨by omega, I2, fun i hi => ?_, fun i hi => ?_, b5⟩
  · by_cases z : i = c
    · rw [z, pk_us]
      rcases s7 with ⟨_, ⟨m0, m1⟩, e, _⟩ | ⟨_, _, e⟩
      · obtain ⟨j, hj, e2⟩ := nI_of m0
        rw [e2] at m1
        have := (nI_leI (b := 511) hj (by decide)).mp m1
        exact ⟨j, by omega, e.trans e2⟩
      · exact ⟨0, by omega, e⟩
    · rw [pk_un z]; exact b3 i (by omega)
  · by_cases z : i = c
    · rw [z, pk_us, pk_us]
      intro k2
      rcases s7 with ⟨_, _, _, e⟩ | ⟨q, _⟩
      · exact e
      · exact absurd q k2
    · rw [pk_un z, pk_un z]; exact b4 i (by omega)
/-- the appends, then create and all behind it -/
theorem rt_301 {L kc ks m : Nat} {xs : Nat → Int32} (hLs : L ≤ 260) (hm : m ≤ 41) : ∀ n j K sz dt, j ≤ m → m < j + n → K + (m - j) < 700 → rt_B c ct kd pr nm md sz tg dt ar P →
    wL_law_301 (fun r => r = 1) L xs (nI c) (nI m) kc ks n (nI K) (nI j) (nI 8) (nI 12) fl fe fp fn ft ct kd pr nm md sz tg dt ar pa := by
  intro n
  induction n with
  | zero => intro j K sz dt _ g; omega
  | succ n ih =>
    intro j K sz dt g1 g2 hK B
    have S := rt_B_S B
    have B' := B
    obtain ⟨b1, I, b3, b4, b5⟩ := B
    obtain ⟨i1, i2, i3, i4, i5, i6, i7, i8, i9⟩ := I
    refine pk_le m j (fun g => ?_) (fun g => ?_)
    · refine xa_create S.1 b1 S.2.1 i1 (mb := 12) (by omega) (fun hft w pa' => ?_) (fun _ _ _ => br_f (by decide) rfl) (fun _ _ => br_f (by decide) rfl)
      obtain ⟨c1, c2, c3⟩ := rt_cre S b5 hft w
      refine br_t (nI_pos' (by omega)) ?_
      refine rt_ext_ok S i1 b1 c1 hft c2 c3 w (fun ct' kd' pr' nm' md' sz' tg' dt' E fp fn ft pa => ?_)
      have Q := rt_Q_E b1 S E
      refine br_t rfl (br_t rfl (xa_nodeCount (t := 1) (by omega) (br_t Q.2.1 ⟨c + 1, ?_⟩)))
      exact rt_400 hLs (by omega) b1 Q c1 (c + 1) 0 (Nat.zero_le _) (by omega)
    · refine nm_r (nI_1 K) (rt_cell hLs (by omega) (fun v => rt_nz (fun q hq => ?_)))
      refine pk_le c 0 (fun w => nm_r (nI_1 j) (ih (j + 1) (K + 1) sz dt (by omega) (by omega) (by omega) B')) (fun w => ⟨nI_ne0 w (by omega), nI_ne0 w (by omega), ?_⟩)
      refine xa_appendData i1 b1 i5 (fun r => nm_r (nI_1 j) (ih (j + 1) (K + 1) sz dt (by omega) (by omega) (by omega) B')) (fun r f s hf hs k1 hy => nm_r (nI_1 j) (ih (j + 1) (K + 1) _ _ (by omega) (by omega) (by omega) ?_))
      exact ⟨b1, ta_I_app hf b1 hs k1 hy ⟨i1, i2, i3, i4, i5, i6, i7, i8, i9⟩, b3, b4, b5⟩
end
