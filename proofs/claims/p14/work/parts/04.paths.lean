/-! 04: valid path texts, the place of the last name, finding a path -/
def ta_VP (a : Nat → Int32) (n : Nat) : Prop := ∀ k, k ≤ n → (k = n ∨ a k = 47) → ∃ s, s < k ∧ k ≤ s + 4 ∧ (s = 0 ∨ a (s - 1) = 47) ∧ ∀ j, s ≤ j → j < k → ta_nc (a j)
/-- s is where the component that reaches up to k begins -/
def ta_St (a : Nat → Int32) (s k : Nat) : Prop := s ≤ k ∧ (s = 0 ∨ a (s - 1) = 47) ∧ ∀ j, s ≤ j → j < k → a j ≠ 47
theorem ta_nc_ne {x : Int32} (h : ta_nc x) : x ≠ 47 := fun e => ta_nc_47 (e ▸ h)
theorem ta_VP_at {a : Nat → Int32} {n k s : Nat} (h : ta_VP a n) (hk : k ≤ n) (he : k = n ∨ a k = 47) (hs : ta_St a s k) : s < k ∧ k ≤ s + 4 ∧ ∀ j, s ≤ j → j < k → ta_nc (a j) := by
  obtain ⟨s', h1, h2, h3, h4⟩ := h k hk he
  obtain ⟨g1, g2, g3⟩ := hs
  have e : s' = s := by
    rcases Nat.lt_trichotomy s' s with x | x | x
    · rcases g2 with y | y
      · omega
      · exact absurd y (ta_nc_ne (h4 (s - 1) (by omega) (by omega)))
    · exact x
    · rcases h3 with y | y
      · omega
      · exact absurd y (g3 (s' - 1) (by omega) (by omega))
  subst e
  exact ⟨h1, h2, h4⟩
theorem ta_VP_ch {a : Nat → Int32} {n x : Nat} (h : ta_VP a n) (hx : x < n) (hc : a x ≠ 47) : ta_nc (a x) := by
  obtain ⟨e, ⟨h1, h2, h3⟩, hm⟩ := pk_least (fun e => x ≤ e ∧ e ≤ n ∧ (e = n ∨ a e = 47)) ⟨n, by omega, by omega, Or.inl rfl⟩
  obtain ⟨s, g1, g2, g3, g4⟩ := h e h2 h3
  have hxe : x < e := by
    rcases Nat.lt_or_ge x e with y | y
    · exact y
    · have : e = x := by omega
      subst this
      rcases h3 with z | z
      · omega
      · exact absurd z hc
  refine g4 x ?_ hxe
  rcases Nat.lt_or_ge x s with y | y
  · rcases g3 with z | z
    · omega
    · exact absurd ⟨by omega, by omega, Or.inr z⟩ (hm (s - 1) (by omega))
  · exact y
theorem ta_VP_cg {a b : Nat → Int32} {n : Nat} (e : ∀ j, j < n → a j = b j) (h : ta_VP a n) : ta_VP b n := by
  intro k hk hk2
  have hk3 : k = n ∨ a k = 47 := by
    rcases hk2 with x | x
    · exact Or.inl x
    · rcases Nat.lt_or_ge k n with y | y
      · exact Or.inr (by rw [e k y]; exact x)
      · exact Or.inl (by omega)
  obtain ⟨s, h1, h2, h3, h4⟩ := h k hk hk3
  refine ⟨s, h1, h2, ?_, fun j x y => by rw [← e j (by omega)]; exact h4 j x y⟩
  rcases h3 with x | x
  · exact Or.inl x
  · exact Or.inr (by rw [← e (s - 1) (by omega)]; exact x)
theorem ta_VP_cgI {a b : Nat → Int32} {n : Nat} (e : ∀ j, j < n → a j = b j) : ta_VP a n ↔ ta_VP b n := ⟨ta_VP_cg e, ta_VP_cg (fun j hj => (e j hj).symm)⟩
theorem ta_St_cg {a b : Nat → Int32} {s n : Nat} (e : ∀ j, j < n → a j = b j) (h : ta_St a s n) : ta_St b s n := by
  obtain ⟨h1, h2, h3⟩ := h
  refine ⟨h1, ?_, fun j x y => by rw [← e j y]; exact h3 j x y⟩
  rcases h2 with x | x
  · exact Or.inl x
  · rcases Nat.eq_zero_or_pos s with z | z
    · exact Or.inl z
    · exact Or.inr (by rw [← e (s - 1) (by omega)]; exact x)
theorem ta_St_uniq {a : Nat → Int32} {s s' n : Nat} (h : ta_St a s n) (h' : ta_St a s' n) : s = s' := by
  obtain ⟨h1, h2, h3⟩ := h
  obtain ⟨g1, g2, g3⟩ := h'
  rcases Nat.lt_trichotomy s s' with x | x | x
  · rcases g2 with y | y
    · omega
    · exact absurd y (h3 (s' - 1) (by omega) (by omega))
  · exact x
  · rcases h2 with y | y
    · omega
    · exact absurd y (g3 (s - 1) (by omega) (by omega))
/-- the text up to k, cut ahead of its last component -/
theorem ta_St_sg {a : Nat → Int32} {o s k : Nat} (h1 : s < k) (h : a (o + s) = 47) : ta_sg a o k = ta_sg a o s ++ 47 :: ta_sg a (o + s + 1) (k - s - 1) := by
  rw [ta_sg_cut h1, h]
theorem ta_sg_no {a : Nat → Int32} {o n : Nat} (h : ∀ j, j < n → a (o + j) ≠ 47) : (47 : Int32) ∉ ta_sg a o n := by
  intro z
  obtain ⟨k, hk, e⟩ := ta_sg_mem.mp z
  exact h k hk e
section
variable {b c : Nat} {kd par nm : Nat → Int32} {P : Nat → List Int32}
/-- what stands ahead of the component that begins at s: no node, or the node of that text -/
def ta_At (par nm : Nat → Int32) (P : Nat → List Int32) (c : Nat) (a : Nat → Int32) (o s : Nat) (nd : Int32) : Prop :=
  (s = 0 ∧ nd = -1) ∨ (0 < s ∧ a (o + (s - 1)) = 47 ∧ ∃ q, q < c ∧ nd = nI q ∧ P q = ta_sg a o (s - 1))
/-- a node whose text is the text up to k has the last component's name and hangs below what stands ahead of it -/
theorem ta_At_of (T : ta_Tr b c kd par nm P) (hc : c < 2 ^ 31) {a : Nat → Int32} {o s k j : Nat} {nd : Int32} (h : ta_At par nm P c a o s nd) (hs : s ≤ k) (hn : ∀ i, s ≤ i → i < k → a (o + i) ≠ 47) (hj : j < c) (e : P j = ta_sg a o k) : par (b + j) = nd ∧ ta_t (nm (b + j)) = ta_sg a (o + s) (k - s) := by
  have hno : (47 : Int32) ∉ ta_sg a (o + s) (k - s) := ta_sg_no (fun i hi => by rw [Nat.add_assoc]; exact hn _ (by omega) (by omega))
  rcases h with ⟨rfl, rfl⟩ | ⟨h0, h1, q, hq, rfl, hP⟩
  · exact ta_P_top T hj hno (by rw [e]; simp)
  · have ec : ta_sg a o k = P q ++ 47 :: ta_sg a (o + s) (k - s) := by
      rw [ta_St_sg (s := s - 1) (by omega) h1, hP, show o + (s - 1) + 1 = o + s by omega, show k - (s - 1) - 1 = k - s by omega]
    obtain ⟨q', g1, g2, g3, g4, g5⟩ := ta_P_sub T hj hno (e.trans ec)
    have : q' = q := ta_P_inj T q' q (by omega) hq g4
    subst this
    exact ⟨g2, g5⟩
/-- and a node below it with that name has that text -/
theorem ta_At_to (T : ta_Tr b c kd par nm P) (hc : c < 2 ^ 31) {a : Nat → Int32} {o s k j : Nat} {nd : Int32} (h : ta_At par nm P c a o s nd) (hs : s ≤ k) (hj : j < c) (e1 : par (b + j) = nd) (e2 : ta_t (nm (b + j)) = ta_sg a (o + s) (k - s)) : P j = ta_sg a o k := by
  obtain ⟨_, _, g⟩ := T.1 j hj
  rcases h with ⟨rfl, rfl⟩ | ⟨h0, h1, q, hq, rfl, hP⟩
  · rcases g with ⟨_, g⟩ | ⟨q, hq, g, _, _⟩
    · rw [g, e2]; simp
    · exfalso
      have h0 : ¬ nI q < 0 := nI_pos (by omega)
      rw [← g, e1] at h0
      exact h0 (by decide)
  · have ec : ta_sg a o k = P q ++ 47 :: ta_sg a (o + s) (k - s) := by
      rw [ta_St_sg (s := s - 1) (by omega) h1, hP, show o + (s - 1) + 1 = o + s by omega, show k - (s - 1) - 1 = k - s by omega]
    rcases g with ⟨g, _⟩ | ⟨q', hq', g, _, g2⟩
    · exfalso
      have h0 : ¬ nI q < 0 := nI_pos (by omega)
      rw [← e1, g] at h0
      exact h0 (by decide)
    · have : q' = q := (nI_eq (by omega) (by omega)).mp (g.symm.trans e1)
      subst this
      rw [g2, e2, ec]
end
