/-! 41: a header that create wrote is taken in again -/
theorem rt_mem {L : List Int32} {k : Nat} (h : k < L.length) : L.getD k 0 ∈ L := by
  rw [List.getD_eq_getElem?_getD, List.getElem?_eq_getElem h]
  exact List.getElem_mem _
section
variable {c : Nat} {kd pr nm : Nat → Int32} {P : Nat → List Int32}
theorem rt_first (T : ta_Tr 0 c kd pr nm P) : ∀ i, i < c → ta_nc ((P i).getD 0 0) := by
  intro i
  induction i using Nat.strongRecOn with
  | ind i ih =>
    intro hi
    obtain ⟨hv, _, h⟩ := ta_Nd0 T hi
    rcases h with ⟨_, e⟩ | ⟨q, hq, _, _, e⟩
    · rw [e]
      exact ta_t_mem hv (rt_mem (by rw [ta_t_len]; exact hv.1))
    · rw [e, rt_gl (ta_P_pos T (by omega))]
      exact ih q hq (by omega)
theorem rt_VP (T : ta_Tr 0 c kd pr nm P) : ∀ i, i < c → ta_VP (ta_g (P i)) (P i).length := by
  intro i
  induction i using Nat.strongRecOn with
  | ind i ih =>
    intro hi
    obtain ⟨hv, _, h⟩ := ta_Nd0 T hi
    have h4 := (ta_l_spec (nm i)).1
    have h1 := hv.1
    rcases h with ⟨_, e⟩ | ⟨q, hq, _, _, e⟩
    · rw [e]
      have hl := ta_t_len (nm i)
      intro k hk he
      rcases Nat.lt_or_ge k (ta_t (nm i)).length with y | y
      · rcases he with z | z
        · omega
        · exact absurd (by rw [← z]; exact rt_mem y) (ta_t_47 hv)
      · refine ⟨0, by omega, by omega, Or.inl rfl, fun j _ hj => ?_⟩
        exact ta_t_mem hv (rt_mem (by omega))
    · have hl : (P i).length = (P q).length + 1 + ta_l (nm i) := by rw [e, ta_lenq]
      have g1 : ∀ j, j < (P q).length → ta_g (P i) j = ta_g (P q) j := fun j hj => by
        show (P i).getD j 0 = (P q).getD j 0
        rw [e, rt_gl hj]
      have g2 : ta_g (P i) (P q).length = 47 := by
        show (P i).getD _ 0 = 47
        rw [e, rt_gr (Nat.le_refl _), Nat.sub_self]; rfl
      have g3 : ∀ j, j < ta_l (nm i) → ta_nc (ta_g (P i) ((P q).length + 1 + j)) := fun j hj => by
        show ta_nc ((P i).getD _ 0)
        rw [e, rt_gr (by omega), show (P q).length + 1 + j - (P q).length = j + 1 by omega]
        show ta_nc ((ta_t (nm i)).getD j 0)
        exact ta_t_mem hv (rt_mem (by rw [ta_t_len]; exact hj))
      have IH := ih q hq (by omega)
      intro k hk he
      have low : k ≤ (P q).length → (k = (P q).length ∨ ta_g (P q) k = 47) → ∃ s, s < k ∧ k ≤ s + 4 ∧ (s = 0 ∨ ta_g (P i) (s - 1) = 47) ∧ ∀ j, s ≤ j → j < k → ta_nc (ta_g (P i) j) := by
        intro a b
        obtain ⟨s, s1, s2, s3, s4⟩ := IH k a b
        refine ⟨s, s1, s2, ?_, fun j x y => by rw [g1 j (by omega)]; exact s4 j x y⟩
        rcases s3 with z | z
        · exact Or.inl z
        · exact Or.inr (by rw [g1 _ (by omega)]; exact z)
      rcases Nat.lt_trichotomy k (P q).length with y | y | y
      · refine low (by omega) (Or.inr ?_)
        rcases he with z | z
        · omega
        · rw [← g1 k y]; exact z
      · exact low (by omega) (Or.inl y)
      · rcases Nat.lt_or_ge k (P i).length with w | w
        · rcases he with z | z
          · omega
          · have := g3 (k - ((P q).length + 1)) (by omega)
            rw [show (P q).length + 1 + (k - ((P q).length + 1)) = k by omega, z] at this
            exact absurd this ta_nc_47
        · refine ⟨(P q).length + 1, by omega, by omega, Or.inr (by rw [Nat.add_sub_cancel]; exact g2), fun j x z => ?_⟩
          have := g3 (j - ((P q).length + 1)) (by omega)
          rwa [show (P q).length + 1 + (j - ((P q).length + 1)) = j by omega] at this
theorem rt_vp (T : ta_Tr 0 c kd pr nm P) {i : Nat} (hi : i < c) : ta_vp (P i) := ⟨rt_VP T i hi, (ta_Nd0 T hi).2.1⟩
/-- where the last name of a node's path begins -/
theorem rt_St (T : ta_Tr 0 c kd pr nm P) {i : Nat} (hi : i < c) : ∃ s, ta_St (ta_g (P i)) s (P i).length ∧ ta_sg (ta_g (P i)) s ((P i).length - s) = ta_t (nm i) ∧ ((pr i = -1 ∧ s = 0) ∨ ∃ q, q < i ∧ pr i = nI q ∧ kd q = 3 ∧ 0 < s ∧ P q = (P i).take (s - 1)) := by
  obtain ⟨hv, _, h⟩ := ta_Nd0 T hi
  rcases h with ⟨e1, e⟩ | ⟨q, hq, e1, k3, e⟩
  · refine ⟨0, ⟨Nat.zero_le _, Or.inl rfl, fun j _ hj z => ?_⟩, by rw [Nat.sub_zero, ta_g_sg, e], Or.inl ⟨e1, rfl⟩⟩
    exact ta_t_47 hv (by rw [← e, ← show (P i).getD j 0 = 47 from z]; exact rt_mem hj)
  · have hl : (P i).length = (P q).length + 1 + ta_l (nm i) := by rw [e, ta_lenq]
    have g2 : ta_g (P i) (P q).length = 47 := by
      show (P i).getD _ 0 = 47
      rw [e, rt_gr (Nat.le_refl _), Nat.sub_self]; rfl
    have g3 : ∀ j, ta_g (P i) ((P q).length + 1 + j) = ta_g (ta_t (nm i)) j := fun j => by
      show (P i).getD _ 0 = (ta_t (nm i)).getD j 0
      rw [e, rt_gr (by omega), show (P q).length + 1 + j - (P q).length = j + 1 by omega]; rfl
    refine ⟨(P q).length + 1, ⟨by omega, Or.inr (by rw [Nat.add_sub_cancel]; exact g2), fun j x y z => ?_⟩, ?_, Or.inr ⟨q, hq, e1, k3, by omega, ?_⟩⟩
    · have := g3 (j - ((P q).length + 1))
      rw [show (P q).length + 1 + (j - ((P q).length + 1)) = j by omega, z] at this
      exact ta_t_47 hv (by rw [this]; exact rt_mem (by rw [ta_t_len]; omega))
    · rw [show (P i).length - ((P q).length + 1) = (ta_t (nm i)).length by rw [ta_t_len]; omega]
      conv => rhs; rw [← ta_g_sg (ta_t (nm i))]
      exact ta_sg_congr (fun j _ => by rw [g3, Nat.zero_add])
    · rw [Nat.add_sub_cancel, e, List.take_append_of_le_length (Nat.le_refl _), List.take_of_length_le (Nat.le_refl _)]
end
theorem rt_field {a : Nat → Int32} {o n : Nat} {M : List Int32} (h : ∀ j, j < n → a (o + j) = M.getD j 0) (hl : M.length ≤ n) (hz : ∀ x, x ∈ M → x ≠ 0) : ta_tl a o n = M.length ∧ ta_wf a o n ∧ ta_sg a o M.length = M := by
  have e : M.length = ta_tl a o n := ta_tl_uniq hl (fun k hk => by rw [h k (by omega)]; exact hz _ (rt_mem hk)) (fun hk => by rw [h _ hk, rt_gn (Nat.le_refl _)])
  refine ⟨e.symm, ?_, ?_⟩
  · unfold ta_wf
    rw [← e]
    intro k hk
    rw [Nat.add_assoc, h _ (by omega), rt_gn (by omega)]
  · conv => rhs; rw [← ta_g_sg M]
    exact ta_sg_congr (fun j hj => by rw [h j (by omega), Nat.zero_add]; rfl)
theorem rt_HF {a : Nat → Int32} {o m s : Nat} {L K : List Int32} {ty : Int32} (hb : ∀ j, ta_by (a j)) (h : rt_H a o L K m s ty) (hm : m < 512) (hs : s ≤ 32) (ht : ty = 48 ∨ ty = 49 ∨ ty = 53) (hts : ty ≠ 48 → s = 0) : ta_HF a o 0 ∧ ta_ov a (o + 12) 3 = m ∧ ta_ov a (o + 16) 3 = s := by
  obtain ⟨h1, h2, h3, h4, h5, h6, h7, h8, h9, h10, h11, h12⟩ := h
  obtain ⟨n, n1, n2⟩ := ta_cs_by (o := o) hb 64 (by omega)
  rw [n2] at h6
  obtain ⟨c1, c2⟩ := rt_ov 5 n a (o + 20) (by omega) (by omega) h6
  obtain ⟨m1, m2⟩ := rt_ov 3 m a (o + 12) (by omega) (by omega) h2
  obtain ⟨s1, s2⟩ := rt_ov 3 s a (o + 16) (by omega) (by omega) h4
  refine ⟨Or.inr (Or.inr (Or.inr (Or.inr (Or.inr ⟨⟨⟨c1, h7⟩, by rw [c2, n2]⟩, h10, by unfold ta_Ty; rw [h8]; exact ht, ⟨⟨m1, h3⟩, ⟨s1, h5⟩, h12⟩, fun q => by rw [s2]; rw [h8] at q; exact hts q, by rw [s2]; exact hs, rfl⟩)))), m2, s2⟩
theorem rt_T {c : Nat} {kd pr nm : Nat → Int32} {P : Nat → List Int32} (T : ta_Tr 0 c kd pr nm P) {a : Nat → Int32} {o m s i : Nat} {K : List Int32} {ty : Int32} (hi : i < c) (hsp : ta_sp (P i) ≠ -2) (h : rt_H a o (P i) K m s ty) : ta_wf a o 12 ∧ ta_wf a (o + 47) 10 ∧ ta_T a o = P i := by
  obtain ⟨h1, _, _, _, _, _, _, _, _, _, h11, _⟩ := h
  have nz : ∀ x, x ∈ P i → x ≠ 0 := fun x hx z => by
    rcases ta_P_ch T i hi x hx with e | e
    · rw [z] at e; exact absurd e (by decide)
    · rw [z] at e; exact ta_nc_0 e
  have l1 : ((P i).drop (ta_nb (P i))).length ≤ 12 := by
    rw [List.length_drop]
    rcases ta_nb_spec hsp with ⟨_, _, h⟩ | ⟨s, h0, _, _, _, _, _, h⟩ <;> rw [h] <;> omega
  have l2 : ((P i).take (ta_nb (P i) - 1)).length ≤ 10 := by
    rw [List.length_take]
    rcases ta_nb_spec hsp with ⟨_, _, h⟩ | ⟨s, h0, _, _, _, _, _, h⟩ <;> rw [h] <;> omega
  obtain ⟨n1, n2, n3⟩ := rt_field h1 l1 (fun x hx => nz x (List.mem_of_mem_drop hx))
  obtain ⟨p1, p2, p3⟩ := rt_field h11 l2 (fun x hx => nz x (List.mem_of_mem_take hx))
  refine ⟨n2, p2, ?_⟩
  unfold ta_T
  rw [n1, p1, n3, p3]
  rcases ta_nb_spec hsp with ⟨_, _, e⟩ | ⟨s', s1, s2, s3, s4, s5, _, e⟩
  · rw [e, Nat.zero_sub, List.take_zero, List.drop_zero, if_pos List.length_nil]
  · have hs0 : s' ≠ 0 := fun z => by
      have := rt_first T i hi
      rw [z] at s5
      rw [s5] at this
      exact ta_nc_47 this
    rw [e, Nat.add_sub_cancel, if_neg (by rw [List.length_take]; omega)]
    have hg : (P i)[s'] = 47 := by
      rw [List.getD_eq_getElem?_getD, List.getElem?_eq_getElem s4] at s5
      exact s5
    rw [← hg, ← List.drop_eq_getElem_cons s4, List.take_append_drop]
