/-! 42: the archive that create wrote, block by block; what is extracted of it -/
theorem rt_of_S (sz : Nat → Int32) (k : Nat) : ta_of sz (k + 1) = ta_of sz k + 64 + (if 0 < ta_n (sz k) then 64 else 0) := by
  show 64 * (k + 1 + (ta_fc sz k + (if 0 < ta_n (sz k) then 1 else 0))) = 64 * (k + ta_fc sz k) + 64 + _
  by_cases h : 0 < ta_n (sz k)
  · rw [if_pos h, if_pos h]; omega
  · rw [if_neg h, if_neg h]; omega
theorem rt_of_mono (sz : Nat → Int32) {i n : Nat} (h : i ≤ n) : ta_of sz i ≤ ta_of sz n := by
  have := ta_fc_mono sz h
  show 64 * (i + ta_fc sz i) ≤ 64 * (n + ta_fc sz n)
  omega
/-- the header and the data block of node k stand in a -/
def rt_G (a : Nat → Int32) (kd md sz tg dt : Nat → Int32) (P : Nat → List Int32) (k : Nat) : Prop :=
  (∃ m s, m < 512 ∧ s ≤ 32 ∧ md k = nI m ∧ sz k = nI s ∧ rt_H a (ta_of sz k) (P k) (ta_lk kd tg P k) m s (ta_ty (kd k))) ∧
  (0 < ta_n (sz k) → (∀ q, q < ta_n (sz k) → a (ta_of sz k + 64 + q) = dt (32 * k + q)) ∧ (∀ q, ta_n (sz k) ≤ q → q < 64 → a (ta_of sz k + 64 + q) = 0))
section
variable {kd pr nm md sz tg dt z : Nat → Int32} {P : Nat → List Int32} {c : Nat}
theorem rt_cr_lo (hf : ∀ k, k < c → ta_ft kd tg P k ∧ ta_n (sz k) ≤ 32) {k j : Nat} (hj : j < ta_of sz k) : ∀ i, k ≤ i → i ≤ c → ta_cr kd md sz tg dt P z i j = ta_cr kd md sz tg dt P z k j := by
  intro i
  induction i with
  | zero => intro h _; rw [show k = 0 by omega]
  | succ i ih =>
    intro h1 h2
    rcases Nat.lt_or_ge i k with y | y
    · rw [show k = i + 1 by omega]
    · have hm := rt_of_mono sz y
      have hfi := hf i (by omega)
      rw [← ih y (by omega)]
      show (if 0 < ta_n (sz i) then ta_wr (ta_h (ta_cr kd md sz tg dt P z i) (ta_of sz i) (P i) (ta_lk kd tg P i) (md i) (sz i) (ta_ty (kd i))) (ta_of sz i + 64) (ta_sg dt (32 * i) (ta_n (sz i)))
        else ta_h (ta_cr kd md sz tg dt P z i) (ta_of sz i) (P i) (ta_lk kd tg P i) (md i) (sz i) (ta_ty (kd i))) j = _
      by_cases w : 0 < ta_n (sz i)
      · rw [if_pos w, ta_wr_out (by omega), ta_h_out hfi.1.1 (ta_ft_lk hfi.1) (by omega)]
      · rw [if_neg w, ta_h_out hfi.1.1 (ta_ft_lk hfi.1) (by omega)]
theorem rt_cr_G (hf : ∀ k, k < c → ta_ft kd tg P k ∧ ta_n (sz k) ≤ 32) (hm : ∀ k, k < c → ∃ m, m < 512 ∧ md k = nI m) (hs : ∀ k, k < c → ∃ s, s ≤ 32 ∧ sz k = nI s) (hz : ∀ j, j < 768 → z j = 0) (hB : ta_of sz c ≤ 640) {k : Nat} (hk : k < c) : rt_G (ta_cr kd md sz tg dt P z c) kd md sz tg dt P k := by
  obtain ⟨m, m1, m2⟩ := hm k hk
  obtain ⟨s, s1, s2⟩ := hs k hk
  have hfk := hf k hk
  have en : ta_n (sz k) = s := by unfold ta_n; rw [s2, nI_clamp (by omega)]
  have hm1 := rt_of_mono sz (show k + 1 ≤ c by omega)
  have eS := rt_of_S sz k
  have lo : ∀ j, j < ta_of sz (k + 1) → ta_cr kd md sz tg dt P z c j = ta_cr kd md sz tg dt P z (k + 1) j := fun j hj => rt_cr_lo hf hj c (by omega) (Nat.le_refl _)
  have zz : ∀ j, ta_of sz k ≤ j → j < 768 → ta_cr kd md sz tg dt P z k j = 0 := fun j h1 h2 => by
    rw [ta_cr_out k (fun i hi => hf i (by omega)) j h1]; exact hz j h2
  have H := rt_h (z := ta_cr kd md sz tg dt P z k) (o := ta_of sz k) (m := m) (s := s) (L := P k) (K := ta_lk kd tg P k) (ty := ta_ty (kd k)) hfk.1.1 (ta_ft_lk hfk.1) (fun j hj => zz _ (by omega) (by omega))
  rw [← m2, ← s2] at H
  have hcr : ta_cr kd md sz tg dt P z (k + 1) = (if 0 < ta_n (sz k) then ta_wr (ta_h (ta_cr kd md sz tg dt P z k) (ta_of sz k) (P k) (ta_lk kd tg P k) (md k) (sz k) (ta_ty (kd k))) (ta_of sz k + 64) (ta_sg dt (32 * k) (ta_n (sz k)))
        else ta_h (ta_cr kd md sz tg dt P z k) (ta_of sz k) (P k) (ta_lk kd tg P k) (md k) (sz k) (ta_ty (kd k))) := rfl
  refine ⟨⟨m, s, m1, s1, m2, s2, rt_H_cg H (fun j hj => ?_)⟩, fun w => ?_⟩
  · rw [lo _ (by omega), hcr]
    by_cases w : 0 < ta_n (sz k)
    · rw [if_pos w, ta_wr_out (by omega)]
    · rw [if_neg w]
  · rw [if_pos w] at eS hcr
    refine ⟨fun q hq => ?_, fun q h1 h2 => ?_⟩
    · rw [lo _ (by omega), hcr, ta_wr_in (by rw [ta_sg_len]; exact hq), List.getD_eq_getElem?_getD, ta_sg_get hq]; rfl
    · rw [lo _ (by omega), hcr, ta_wr_out (by rw [ta_sg_len]; omega), ta_h_out hfk.1.1 (ta_ft_lk hfk.1) (by omega)]
      exact zz _ (by omega) (by omega)
end
/-- k nodes are extracted: they are the source's first k -/
def rt_E (c0 k : Nat) (kd pr nm md sz tg dt ct' kd' pr' nm' md' sz' tg' dt' : Nat → Int32) : Prop :=
  ct' 0 = nI c0 ∧ ct' 1 = nI k ∧ (∀ i, i < 8 → kd' i = kd i ∧ pr' i = pr i ∧ nm' i = nm i ∧ md' i = md i ∧ sz' i = sz i ∧ tg' i = tg i) ∧ (∀ j, j < 256 → dt' j = dt j) ∧
  (∀ i, i < k → kd' (8 + i) = kd i ∧ pr' (8 + i) = pr i ∧ nm' (8 + i) = nm i ∧ md' (8 + i) = md i ∧ sz' (8 + i) = sz i ∧ tg' (8 + i) = tg i ∧ ∀ q, q < ta_n (sz i) → dt' (32 * (8 + i) + q) = dt (32 * i + q)) ∧ (∀ j, ta_by (dt' j))
section
variable {kd pr nm md sz tg dt ct' kd' pr' nm' md' sz' tg' dt' : Nat → Int32} {P : Nat → List Int32} {c k : Nat}
theorem rt_E_Tr (T : ta_Tr 0 c kd pr nm P) (hk : k ≤ c) (E : rt_E c k kd pr nm md sz tg dt ct' kd' pr' nm' md' sz' tg' dt') : ta_Tr 8 k kd' pr' nm' P := by
  obtain ⟨_, _, _, _, e, _⟩ := E
  refine ⟨fun i hi => ?_, fun i j hi hj x y => ?_⟩
  · obtain ⟨a1, a2, a3⟩ := ta_Nd0 T (show i < c by omega)
    obtain ⟨e1, e2, e3, _⟩ := e i hi
    refine ⟨by rw [e3]; exact a1, a2, ?_⟩
    rw [e2, e3]
    rcases a3 with a3 | ⟨q, q1, q2, q3, q4⟩
    · exact Or.inl a3
    · exact Or.inr ⟨q, q1, q2, by rw [(e q (by omega)).1]; exact q3, q4⟩
  · rw [(e i hi).2.1, (e j hj).2.1] at x
    rw [(e i hi).2.2.1, (e j hj).2.2.1] at y
    exact T.2 i j (by omega) (by omega) (by simpa only [Nat.zero_add] using x) (by simpa only [Nat.zero_add] using y)
theorem rt_E_Nx (X : ∀ i, i < c → ta_Nx 0 kd sz tg i) (hk : k ≤ c) (E : rt_E c k kd pr nm md sz tg dt ct' kd' pr' nm' md' sz' tg' dt') : ∀ i, i < k → ta_Nx 8 kd' sz' tg' i := by
  obtain ⟨_, _, _, _, e, _⟩ := E
  intro i hi
  obtain ⟨a1, a2, a3, a4⟩ := X i (by omega)
  obtain ⟨e1, e2, e3, _, e5, e6, _⟩ := e i hi
  simp only [Nat.zero_add] at a1 a2 a3 a4
  refine ⟨by rw [e1]; exact a1, ?_, by rw [e5]; exact a3, by rw [e1, e5]; exact a4⟩
  rw [e1, e6]
  intro k2
  obtain ⟨q, q1, q2, q3⟩ := a2 k2
  exact ⟨q, q1, q2, by rw [(e q (by omega)).1]; exact q3⟩
theorem rt_ty3 {x : Int32} (h : x = 1 ∨ x = 2 ∨ x = 3) : (ta_ty x = 48 ∨ ta_ty x = 49 ∨ ta_ty x = 53) ∧ (ta_ty x ≠ 48 → x ≠ 1) ∧ ta_ki (ta_ty x) = x ∧ (ta_ty x = 49 ↔ x = 2) := by
  rcases h with h | h | h <;> rw [h] <;> decide
/-- the header of node k is taken in, as node k -/
theorem rt_EF (T : ta_Tr 0 c kd pr nm P) (X : ∀ i, i < c → ta_Nx 0 kd sz tg i) (hc : c ≤ 8) (htg : ∀ i, i < c → kd i ≠ 2 → tg i = -1) (hk : k < c) (E : rt_E c k kd pr nm md sz tg dt ct' kd' pr' nm' md' sz' tg' dt') {a : Nat → Int32} (hft : ta_ft kd tg P k) {o m s : Nat} (H : rt_H a o (P k) (ta_lk kd tg P k) m s (ta_ty (kd k))) :
    ta_EF a o 8 k kd' tg' P 0 (pr k) (nm k) (tg k) := by
  obtain ⟨w1, w2, eT⟩ := rt_T T hk hft.1 H
  obtain ⟨st, h1, h2, h3⟩ := rt_St T hk
  obtain ⟨_, _, _, _, _, _, _, h8, h9, _, _, _⟩ := H
  have hv := (ta_Nd0 T hk).1
  have vp := rt_vp T hk
  obtain ⟨x1, x2, _, _⟩ := X k hk
  simp only [Nat.zero_add] at x1 x2
  obtain ⟨t1, t2, t3, t4⟩ := rt_ty3 x1
  have ee := E.2.2.2.2.1
  refine Or.inr (Or.inr ⟨⟨w1, w2, by rw [eT]; exact vp⟩, by omega, st, by rw [eT]; exact h1, Or.inr ⟨?_, Or.inr ⟨?_, ?_, Or.inr ⟨?_, rfl⟩⟩⟩⟩)
  · rw [eT]
    rcases h3 with ⟨e1, e2⟩ | ⟨q, q1, q2, q3, q4, q5⟩
    · exact Or.inl ⟨e2, e1⟩
    · exact Or.inr ⟨q4, q, q1, q5, by rw [(ee q q1).1]; exact q3, q2⟩
  · rw [eT]
    rintro ⟨j, hj, e⟩
    have := ta_P_inj T j k (by omega) hk e
    omega
  · rw [eT]
    have N := ta_vp_name vp h1
    exact ta_t_inj hv N.1 (by rw [N.2, h2])
  · by_cases k2 : kd k = 2
    · obtain ⟨q, q1, q2, q3⟩ := x2 k2
      have en : ta_n (tg k) = q := by unfold ta_n; rw [q2, nI_clamp (by omega)]
      have ek : ta_lk kd tg P k = P q := by unfold ta_lk; rw [if_pos k2, en]
      have hl := ta_ft_lk hft
      rw [ek] at h9 hl
      obtain ⟨f1, f2, f3⟩ := rt_field h9 hl (fun x hx z => by
        rcases ta_P_ch T q (by omega) x hx with e | e
        · rw [z] at e; exact absurd e (by decide)
        · rw [z] at e; exact ta_nc_0 e)
      refine Or.inr ⟨by rw [h8]; exact t4.mpr k2, f2, q, q1, by rw [f1, f3], ?_, ?_⟩
      · rw [(ee q q1).1, q3]; decide
      · rw [if_neg (by rw [(ee q q1).1, q3]; decide), q2]
    · have ek : ta_lk kd tg P k = [] := by unfold ta_lk; rw [if_neg k2]
      rw [ek] at h9
      exact Or.inl ⟨by rw [h8]; exact fun z => k2 (t4.mp z), fun j hj => by rw [h9 j hj]; rfl, htg k hk k2⟩
theorem rt_go (T : ta_Tr 0 c kd pr nm P) (X : ∀ i, i < c → ta_Nx 0 kd sz tg i) (hc : c ≤ 8) (htg : ∀ i, i < c → kd i ≠ 2 → tg i = -1) (hk : k < c) (E : rt_E c k kd pr nm md sz tg dt ct' kd' pr' nm' md' sz' tg' dt') {a : Nat → Int32} (hb : ∀ j, ta_by (a j)) (hft : ta_ft kd tg P k) (G : rt_G a kd md sz tg dt P k) {L : Nat} (hL : ta_of sz (k + 1) ≤ L) :
    ta_Go a L 8 k kd' tg' P (k + ta_fc sz k) (pr k) (nm k) (tg k) ∧ ta_ov a (64 * (k + ta_fc sz k) + 12) 3 = ta_n (md k) ∧ ta_ov a (64 * (k + ta_fc sz k) + 16) 3 = ta_n (sz k) ∧ ta_ki (a (64 * (k + ta_fc sz k) + 26)) = kd k ∧ nI (ta_n (md k)) = md k ∧ nI (ta_n (sz k)) = sz k := by
  obtain ⟨⟨m, s, m1, s1, m2, s2, H⟩, D⟩ := G
  have H' : rt_H a (64 * (k + ta_fc sz k)) (P k) (ta_lk kd tg P k) m s (ta_ty (kd k)) := H
  obtain ⟨x1, _, _, x4⟩ := X k hk
  simp only [Nat.zero_add] at x1 x4
  obtain ⟨t1, t2, t3, t4⟩ := rt_ty3 x1
  have en : ta_n (sz k) = s := by unfold ta_n; rw [s2, nI_clamp (by omega)]
  have em : ta_n (md k) = m := by unfold ta_n; rw [m2, nI_clamp (by omega)]
  obtain ⟨f1, f2, f3⟩ := rt_HF hb H' m1 s1 t1 (fun q => by
    have := x4 (t2 q)
    rw [s2] at this
    exact (nI_eq (b := 0) (by omega) (by omega)).mp this)
  have eS := rt_of_S sz k
  have eo : ta_of sz k = 64 * (k + ta_fc sz k) := rfl
  have hH8 : a (64 * (k + ta_fc sz k) + 26) = ta_ty (kd k) := H'.2.2.2.2.2.2.2.1
  refine ⟨⟨by omega, fun zz => ?_, f1, rt_EF T X hc htg hk E hft H', ?_⟩, by rw [f2, em], by rw [f3, en], by rw [hH8]; exact t3, by rw [em, m2], by rw [en, s2]⟩
  · have h39 := H'.2.2.2.2.2.2.2.2.2.1 0 (by omega)
    have := zz 39 (by omega)
    rw [Nat.add_zero] at h39
    rw [h39] at this
    exact absurd this (by decide)
  · rw [f3]
    rcases Nat.eq_zero_or_pos s with y | y
    · exact Or.inl y
    · refine Or.inr ⟨?_, fun q hq => ?_⟩
      · rw [if_pos (by omega)] at eS
        omega
      · obtain ⟨_, d2⟩ := D (by omega)
        have := d2 (s + q) (by omega) (by omega)
        rw [eo] at this
        rw [show 64 * (k + ta_fc sz k + 1) + s + q = 64 * (k + ta_fc sz k) + 64 + (s + q) by omega]
        exact this
end
