/-! 08: a new entry of the extracted tree -/
section
variable {b c : Nat} {kd par nm : Nat → Int32} {P : Nat → List Int32}
theorem ta_vp_last {T : List Int32} {s : Nat} (hv : ta_vp T) (hs : ta_St (ta_g T) s T.length) : s < T.length ∧ T.length ≤ s + 4 ∧ ∀ i, i < T.length - s → ta_nc (ta_g T (s + i)) := by
  obtain ⟨h1, h2, h3⟩ := ta_VP_at hv.1 (Nat.le_refl _) (Or.inl rfl) hs
  exact ⟨h1, h2, fun i hi => h3 (s + i) (by omega) (by omega)⟩
theorem ta_vp_name {T : List Int32} {s : Nat} (hv : ta_vp T) (hs : ta_St (ta_g T) s T.length) : ta_V (ta_pk (ta_g T) s (T.length - s)) ∧ ta_t (ta_pk (ta_g T) s (T.length - s)) = ta_sg (ta_g T) s (T.length - s) := by
  obtain ⟨h1, h2, h3⟩ := ta_vp_last hv hs
  exact ta_pk_V (by omega) (by omega) h3
theorem ta_Pa_At {T : List Int32} {s : Nat} {nd : Int32} (h : ta_Pa c kd P T s nd) (hs : ta_St (ta_g T) s T.length) : ta_At par nm P c (ta_g T) 0 s nd := by
  rcases h with h | ⟨h0, q, hq, h1, h2, h3⟩
  · exact Or.inl h
  · refine Or.inr ⟨h0, ?_, q, hq, h3, ?_⟩
    · rw [Nat.zero_add]
      rcases hs.2.1 with z | z
      · omega
      · exact z
    · rw [h1]
      conv => lhs; rw [← ta_g_sg T]
      exact ta_take_sg _ _ (by have := hs.1; omega)
theorem ta_dup (H : ta_Tr 8 c kd par nm P) (hc : c < 2 ^ 31) {T : List Int32} {s : Nat} {nd : Int32} (h : ta_Pa c kd P T s nd) (hs : ta_St (ta_g T) s T.length) (hv : ta_vp T) :
    (∃ j, j < c ∧ P j = T) ↔ (∃ j, j < c ∧ par (8 + j) = nd ∧ nm (8 + j) = ta_pk (ta_g T) s (T.length - s)) := by
  have A : ta_At par nm P c (ta_g T) 0 s nd := ta_Pa_At h hs
  have N := ta_vp_name hv hs
  constructor
  · rintro ⟨j, hj, e⟩
    obtain ⟨x, y⟩ := ta_At_of H hc (k := T.length) A hs.1 (fun i h1 h2 => by rw [Nat.zero_add]; exact hs.2.2 i h1 h2) hj (by rw [e, ta_g_sg])
    refine ⟨j, hj, x, ta_t_inj (H.1 j hj).1 N.1 ?_⟩
    rw [y, N.2, Nat.zero_add]
  · rintro ⟨j, hj, e1, e2⟩
    refine ⟨j, hj, ?_⟩
    rw [ta_At_to H hc (k := T.length) A hs.1 hj e1 (by rw [e2, N.2, Nat.zero_add]), ta_g_sg]
theorem ta_ext_add (H : ta_Tr 8 c kd par nm P) (hc : c < 2 ^ 31) {T : List Int32} {s : Nat} {nd : Int32} (h : ta_Pa c kd P T s nd) (hs : ta_St (ta_g T) s T.length) (hv : ta_vp T)
    (hd : ¬ ∃ j, j < c ∧ P j = T) (e1 : par (8 + c) = nd) (e2 : nm (8 + c) = ta_pk (ta_g T) s (T.length - s)) : ta_Tr 8 (c + 1) kd par nm (fun i => if i = c then T else P i) := by
  have N := ta_vp_name hv hs
  refine ta_Tr_add H (by rw [e2]; exact N.1) hv.2 ?_ ?_
  · rw [e1, e2, N.2]
    rcases h with ⟨h0, h1⟩ | ⟨h0, q, hq, h1, h2, h3⟩
    · refine Or.inl ⟨h1, ?_⟩
      rw [h0, Nat.sub_zero, ta_g_sg]
    · refine Or.inr ⟨q, hq, h3, h2, ?_⟩
      have hs1 := hs.1
      have hl := (ta_vp_last hv hs).1
      have h47 : ta_g T (0 + (s - 1)) = 47 := by
        rw [Nat.zero_add]
        rcases hs.2.1 with z | z
        · omega
        · exact z
      have hc := ta_St_sg (a := ta_g T) (o := 0) (s := s - 1) (k := T.length) (by omega) h47
      rw [ta_g_sg, show 0 + (s - 1) + 1 = s by omega, show T.length - (s - 1) - 1 = T.length - s by omega] at hc
      rw [h1]
      have ht : T.take (s - 1) = ta_sg (ta_g T) 0 (s - 1) := by
        conv => lhs; rw [← ta_g_sg T]
        exact ta_take_sg _ _ (by omega)
      rw [ht]
      exact hc
  · intro i hi f1 f2
    exact hd ((ta_dup H hc h hs hv).mpr ⟨i, hi, f1.trans e1, f2.trans e2⟩)
/-- what the walk by components answers -/
def ta_Fd (c : Nat) (P : Nat → List Int32) (T : List Int32) (r : Int32) : Prop := (∃ j, j < c ∧ P j = T ∧ r = nI j) ∨ ((∀ j, j < c → P j ≠ T) ∧ r = -2)
/-- a component that no child bears: nobody has the text -/
theorem ta_Fd_no (H : ta_Tr b c kd par nm P) (hc : c < 2 ^ 31) {a : Nat → Int32} {o s k n : Nat} {nd : Int32} (h : ta_At par nm P c a o s nd) (hs : s ≤ k) (hk : k ≤ n) (hn : ∀ i, s ≤ i → i < k → a (o + i) ≠ 47) (he : k = n ∨ a (o + k) = 47)
    (hx : ∀ j, j < c → par (b + j) = nd → ta_t (nm (b + j)) = ta_sg a (o + s) (k - s) → False) : ∀ j, j < c → P j ≠ ta_sg a o n := by
  intro j hj e
  have : ∃ q, q < c ∧ P q = ta_sg a o k := by
    rcases Nat.lt_or_ge k n with z | z
    · rcases he with y | y
      · omega
      · rw [ta_St_sg z y] at e
        obtain ⟨q, hq, f⟩ := ta_P_anc H j hj _ _ e
        exact ⟨q, by omega, f⟩
    · rw [show n = k by omega] at e
      exact ⟨j, hj, e⟩
  obtain ⟨q, hq, f⟩ := this
  obtain ⟨x, y⟩ := ta_At_of H hc h hs hn hq f
  exact hx q hq x y
end
def ta_Nx (b : Nat) (kd sz tg : Nat → Int32) (i : Nat) : Prop :=
  (kd (b + i) = 1 ∨ kd (b + i) = 2 ∨ kd (b + i) = 3) ∧ (kd (b + i) = 2 → ∃ q, q < i ∧ tg (b + i) = nI q ∧ kd (b + q) = 1) ∧ (∃ s, s ≤ 32 ∧ sz (b + i) = nI s) ∧ (kd (b + i) ≠ 1 → sz (b + i) = 0)
theorem ta_Nx_cg {b c : Nat} {kd sz tg kd' sz' tg' : Nat → Int32} (h : ∀ i, i < c → ta_Nx b kd sz tg i) (h1 : ∀ i, i < c → kd' (b + i) = kd (b + i)) (h2 : ∀ i, i < c → sz' (b + i) = sz (b + i)) (h3 : ∀ i, i < c → tg' (b + i) = tg (b + i)) : ∀ i, i < c → ta_Nx b kd' sz' tg' i := by
  intro i hi
  obtain ⟨x, y, z, w⟩ := h i hi
  refine ⟨by rw [h1 i hi]; exact x, ?_, by rw [h2 i hi]; exact z, by rw [h1 i hi, h2 i hi]; exact w⟩
  rw [h1 i hi, h3 i hi]
  intro e
  obtain ⟨q, q1, q2, q3⟩ := y e
  exact ⟨q, q1, q2, by rw [h1 q (by omega)]; exact q3⟩
theorem ta_Tr_res {b c : Nat} {kd par nm : Nat → Int32} {P : Nat → List Int32} (H : ta_Tr b c kd par nm P) : ta_Tr b c kd par nm (fun i => if i < c then P i else []) := by
  refine ⟨fun i hi => ?_, H.2⟩
  obtain ⟨x, y, z⟩ := H.1 i hi
  refine ⟨x, by simpa [hi] using y, ?_⟩
  rcases z with ⟨z1, z2⟩ | ⟨q, q1, q2, q3, q4⟩
  · exact Or.inl ⟨z1, by simpa [hi] using z2⟩
  · refine Or.inr ⟨q, q1, q2, q3, ?_⟩
    show (if i < c then P i else []) = (if q < c then P q else []) ++ _
    rw [if_pos hi, if_pos (by omega), q4]
