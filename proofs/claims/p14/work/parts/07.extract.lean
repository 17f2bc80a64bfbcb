/-! 07: what extract looks at -/
def ta_z (a : Nat → Int32) (o n : Nat) : Prop := ∀ k, k < n → a (o + k) = 0
def ta_od (a : Nat → Int32) (o d : Nat) : Prop := ∀ k, k < d → 48 ≤ a (o + k) ∧ a (o + k) ≤ 55
def ta_ok (a : Nat → Int32) (o d : Nat) : Prop := ta_od a o d ∧ a (o + d) = 0
def ta_ov (a : Nat → Int32) (o : Nat) : Nat → Nat
  | 0 => 0
  | d + 1 => ta_ov a o d * 8 + (ta_n (a (o + d)) - 48)
theorem ta_dg {x : Int32} (h : 48 ≤ x ∧ x ≤ 55) : ∃ m, m < 8 ∧ x = nI (48 + m) ∧ ta_n x = 48 + m := by
  have h0 : ¬ x < 0 := Int32.not_lt.mpr (Int32.le_trans (by decide) h.1)
  obtain ⟨j, hj, rfl⟩ := nI_of h0
  have a := (nI_leI (a := 48) (by decide) hj).mp h.1
  have b := (nI_leI (b := 55) hj (by decide)).mp h.2
  refine ⟨j - 48, by omega, by rw [show 48 + (j - 48) = j by omega], ?_⟩
  unfold ta_n
  rw [nI_clamp hj]
  omega
theorem ta_ov_lt {a : Nat → Int32} {o : Nat} : ∀ d, ta_od a o d → ta_ov a o d < 8 ^ d := by
  intro d
  induction d with
  | zero => intro _; exact Nat.zero_lt_one
  | succ d ih =>
    intro h
    have := ih (fun k hk => h k (by omega))
    obtain ⟨m, h1, _, h3⟩ := ta_dg (h d (by omega))
    show ta_ov a o d * 8 + (ta_n (a (o + d)) - 48) < 8 ^ (d + 1)
    rw [h3, Nat.pow_succ]
    omega
/-- the length of a field's text -/
def ta_tl (a : Nat → Int32) : Nat → Nat → Nat
  | _, 0 => 0
  | o, n + 1 => if a o = 0 then 0 else ta_tl a (o + 1) n + 1
theorem ta_tl_spec (a : Nat → Int32) : ∀ n o, ta_tl a o n ≤ n ∧ (∀ k, k < ta_tl a o n → a (o + k) ≠ 0) ∧ (ta_tl a o n < n → a (o + ta_tl a o n) = 0) := by
  intro n
  induction n with
  | zero => intro o; exact ⟨Nat.le_refl _, fun k hk => absurd hk (Nat.not_lt_zero k), fun h => absurd h (Nat.not_lt_zero _)⟩
  | succ n ih =>
    intro o
    by_cases z : a o = 0
    · have e : ta_tl a o (n + 1) = 0 := if_pos z
      rw [e]
      exact ⟨by omega, fun k hk => absurd hk (Nat.not_lt_zero k), fun _ => z⟩
    · have e : ta_tl a o (n + 1) = ta_tl a (o + 1) n + 1 := if_neg z
      rw [e]
      obtain ⟨h1, h2, h3⟩ := ih (o + 1)
      refine ⟨by omega, fun k hk => ?_, fun h => ?_⟩
      · rcases Nat.eq_zero_or_pos k with y | y
        · rw [y]; exact z
        · have := h2 (k - 1) (by omega)
          rwa [show o + 1 + (k - 1) = o + k by omega] at this
      · have := h3 (by omega)
        rwa [show o + 1 + ta_tl a (o + 1) n = o + (ta_tl a (o + 1) n + 1) by omega] at this
theorem ta_tl_uniq {a : Nat → Int32} {o n m : Nat} (h1 : m ≤ n) (h2 : ∀ k, k < m → a (o + k) ≠ 0) (h3 : m < n → a (o + m) = 0) : m = ta_tl a o n := by
  obtain ⟨g1, g2, g3⟩ := ta_tl_spec a n o
  rcases Nat.lt_trichotomy m (ta_tl a o n) with x | x | x
  · exact absurd (h3 (by omega)) (g2 m x)
  · exact x
  · exact absurd (g3 (by omega)) (h2 _ x)
def ta_wf (a : Nat → Int32) (o n : Nat) : Prop := ta_z a (o + ta_tl a o n) (n - ta_tl a o n)
theorem ta_wf_iff {a : Nat → Int32} {o n : Nat} : ta_wf a o n ↔ ∀ i j, i < j → j < n → a (o + i) = 0 → a (o + j) = 0 := by
  obtain ⟨g1, g2, g3⟩ := ta_tl_spec a n o
  constructor
  · intro h i j hij hj hi
    have hi2 : ta_tl a o n ≤ i := by
      rcases Nat.lt_or_ge i (ta_tl a o n) with x | x
      · exact absurd hi (g2 i x)
      · exact x
    have := h (j - ta_tl a o n) (by omega)
    rwa [show o + ta_tl a o n + (j - ta_tl a o n) = o + j by omega] at this
  · intro h k hk
    have hz := g3 (by omega)
    rcases Nat.eq_zero_or_pos k with x | x
    · rw [x]; exact hz
    · have := h (ta_tl a o n) (ta_tl a o n + k) (by omega) (by omega) hz
      rwa [← Nat.add_assoc] at this
/-- the path of a header -/
def ta_T (a : Nat → Int32) (o : Nat) : List Int32 :=
  if ta_tl a (o + 47) 10 = 0 then ta_sg a o (ta_tl a o 12) else ta_sg a (o + 47) (ta_tl a (o + 47) 10) ++ 47 :: ta_sg a o (ta_tl a o 12)
theorem ta_T_len (a : Nat → Int32) (o : Nat) : (ta_T a o).length ≤ 23 := by
  have h1 := (ta_tl_spec a 12 o).1
  have h2 := (ta_tl_spec a 10 (o + 47)).1
  unfold ta_T
  split
  · rw [ta_sg_len]; omega
  · rw [List.length_append, List.length_cons, ta_sg_len, ta_sg_len]; omega
def ta_g (T : List Int32) : Nat → Int32 := fun k => T.getD k 0
def ta_vp (T : List Int32) : Prop := ta_VP (ta_g T) T.length ∧ T.count 47 ≤ 5
theorem ta_g_wr {a : Nat → Int32} {T : List Int32} {k : Nat} (h : k < T.length) : ta_wr a 0 T k = ta_g T k := by
  have := ta_wr_in (a := a) (o := 0) h
  rwa [Nat.zero_add] at this
theorem ta_g_sg (T : List Int32) : ta_sg (ta_g T) 0 T.length = T := by
  have := ta_wr_sg (fun _ => 0) 0 T
  rw [← this]
  conv => lhs; rw [this]
  apply ta_sg_congr
  intro k hk
  rw [Nat.zero_add]
  exact (ta_g_wr hk).symm
theorem ta_take_sg (a : Nat → Int32) (o : Nat) {k n : Nat} (h : k ≤ n) : (ta_sg a o n).take k = ta_sg a o k := by
  obtain ⟨d, rfl⟩ : ∃ d, n = k + d := ⟨n - k, by omega⟩
  rw [ta_sg_app, List.take_append_of_le_length (by rw [ta_sg_len]; omega), List.take_of_length_le (by rw [ta_sg_len]; omega)]
theorem ta_drop_sg (a : Nat → Int32) (o : Nat) {k n : Nat} (h : k ≤ n) : (ta_sg a o n).drop k = ta_sg a (o + k) (n - k) := by
  obtain ⟨d, rfl⟩ : ∃ d, n = k + d := ⟨n - k, by omega⟩
  rw [ta_sg_app, List.drop_append_of_le_length (by rw [ta_sg_len]; omega), List.drop_eq_nil_of_le (by rw [ta_sg_len]; omega), show k + d - k = d by omega]
  rfl
def ta_Ck (a : Nat → Int32) (o : Nat) : Prop := ta_ok a (o + 20) 5 ∧ nI (ta_ov a (o + 20) 5) = ta_cs a o 64
def ta_Mg (a : Nat → Int32) (o : Nat) : Prop := ∀ k, k < 8 → a (o + 39 + k) = ta_mg.getD k 0
def ta_Ty (a : Nat → Int32) (o : Nat) : Prop := a (o + 26) = 48 ∨ a (o + 26) = 49 ∨ a (o + 26) = 53
def ta_Fl (a : Nat → Int32) (o : Nat) : Prop := ta_ok a (o + 12) 3 ∧ ta_ok a (o + 16) 3 ∧ ta_z a (o + 57) 7
def ta_Sz (a : Nat → Int32) (o : Nat) : Prop := a (o + 26) ≠ 48 → ta_ov a (o + 16) 3 = 0
/-- what is wrong with a header by itself -/
def ta_HF (a : Nat → Int32) (o : Nat) (r : Int32) : Prop :=
  (¬ ta_Ck a o ∧ r = -15) ∨ (ta_Ck a o ∧ ¬ ta_Mg a o ∧ r = -16) ∨ (ta_Ck a o ∧ ta_Mg a o ∧ ¬ ta_Ty a o ∧ r = -17) ∨
  (ta_Ck a o ∧ ta_Mg a o ∧ ta_Ty a o ∧ ¬ (ta_Fl a o ∧ ta_Sz a o) ∧ r = -18) ∨
  (ta_Ck a o ∧ ta_Mg a o ∧ ta_Ty a o ∧ ta_Fl a o ∧ ta_Sz a o ∧ ¬ ta_ov a (o + 16) 3 ≤ 32 ∧ r = -19) ∨
  (ta_Ck a o ∧ ta_Mg a o ∧ ta_Ty a o ∧ ta_Fl a o ∧ ta_Sz a o ∧ ta_ov a (o + 16) 3 ≤ 32 ∧ r = 0)
def ta_Nm (a : Nat → Int32) (o : Nat) : Prop := ta_wf a o 12 ∧ ta_wf a (o + 47) 10 ∧ ta_vp (ta_T a o)
/-- nd is the parent of a path whose last name begins at s -/
def ta_Pa (c : Nat) (kd : Nat → Int32) (P : Nat → List Int32) (T : List Int32) (s : Nat) (nd : Int32) : Prop :=
  (s = 0 ∧ nd = -1) ∨ (0 < s ∧ ∃ q, q < c ∧ P q = T.take (s - 1) ∧ kd (8 + q) = 3 ∧ nd = nI q)
/-- t is the target of a header -/
def ta_Lk (a : Nat → Int32) (o c : Nat) (kd tg : Nat → Int32) (P : Nat → List Int32) (t : Int32) : Prop :=
  (a (o + 26) ≠ 49 ∧ ta_z a (o + 27) 12 ∧ t = -1) ∨
  (a (o + 26) = 49 ∧ ta_wf a (o + 27) 12 ∧ ∃ j, j < c ∧ P j = ta_sg a (o + 27) (ta_tl a (o + 27) 12) ∧ kd (8 + j) ≠ 3 ∧ t = if kd (8 + j) = 2 then tg (8 + j) else nI j)
/-- what keeps a header out of the tree; if nothing does: the parent, the name, the target -/
def ta_EF (a : Nat → Int32) (o mn c : Nat) (kd tg : Nat → Int32) (P : Nat → List Int32) (r nd nv t : Int32) : Prop :=
  (¬ ta_Nm a o ∧ r = -5) ∨ (ta_Nm a o ∧ c = mn ∧ r = -20) ∨
  (ta_Nm a o ∧ c ≠ mn ∧ ∃ s, ta_St (ta_g (ta_T a o)) s (ta_T a o).length ∧ (((∀ x, ¬ ta_Pa c kd P (ta_T a o) s x) ∧ r = -6) ∨
    (ta_Pa c kd P (ta_T a o) s nd ∧ (((∃ j, j < c ∧ P j = ta_T a o) ∧ r = -8) ∨ ((¬ ∃ j, j < c ∧ P j = ta_T a o) ∧
      nv = ta_pk (ta_g (ta_T a o)) s ((ta_T a o).length - s) ∧ (((∀ x, ¬ ta_Lk a o c kd tg P x) ∧ r = -10) ∨ (ta_Lk a o c kd tg P t ∧ r = 0)))))))
