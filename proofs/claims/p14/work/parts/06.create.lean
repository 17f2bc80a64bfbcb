/-! 06: what create writes -/
def ta_fs (a : Nat → Int32) : Nat → Nat → Int32
  | _, 0 => -2
  | s, m + 1 => if a s = 47 then nI s else ta_fs a (s + 1) m
/-- where a path splits: -1 none, -2 can't, or the slash's place -/
def ta_sp (L : List Int32) : Int32 := if L.length ≤ 12 then -1 else ta_fs (fun k => L.getD k 0) (L.length - 13) (24 - L.length)
theorem ta_fs_spec (a : Nat → Int32) : ∀ m s, ta_fs a s m = -2 ∨ ∃ r, s ≤ r ∧ r < s + m ∧ a r = 47 ∧ ta_fs a s m = nI r := by
  intro m
  induction m with
  | zero => intro s; exact Or.inl rfl
  | succ m ih =>
    intro s
    by_cases z : a s = 47
    · exact Or.inr ⟨s, by omega, by omega, z, if_pos z⟩
    · have e : ta_fs a s (m + 1) = ta_fs a (s + 1) m := if_neg z
      rw [e]
      rcases ih (s + 1) with h | ⟨r, h1, h2, h3, h4⟩
      · exact Or.inl h
      · exact Or.inr ⟨r, by omega, by omega, h3, h4⟩
theorem ta_fs_cg {a b : Nat → Int32} : ∀ m s, (∀ j, s ≤ j → j < s + m → a j = b j) → ta_fs a s m = ta_fs b s m := by
  intro m
  induction m with
  | zero => intro s _; rfl
  | succ m ih =>
    intro s h
    show (if a s = 47 then nI s else ta_fs a (s + 1) m) = (if b s = 47 then nI s else ta_fs b (s + 1) m)
    rw [h s (by omega) (by omega), ih (s + 1) (fun j h1 h2 => h j (by omega) (by omega))]
theorem ta_sp_spec (L : List Int32) : (L.length ≤ 12 ∧ ta_sp L = -1) ∨ (12 < L.length ∧ ta_sp L = -2) ∨ (∃ s, s ≤ 10 ∧ 12 < L.length ∧ L.length ≤ s + 13 ∧ s < L.length ∧ L.getD s 0 = 47 ∧ ta_sp L = nI s) := by
  unfold ta_sp
  by_cases h : L.length ≤ 12
  · exact Or.inl ⟨h, if_pos h⟩
  · rw [if_neg h]
    rcases ta_fs_spec (fun k => L.getD k 0) (24 - L.length) (L.length - 13) with x | ⟨r, h1, h2, h3, h4⟩
    · exact Or.inr (Or.inl ⟨by omega, x⟩)
    · exact Or.inr (Or.inr ⟨r, by omega, by omega, by omega, by omega, h3, h4⟩)
/-- where the name begins: behind the slash, or at 0 -/
def ta_nb (L : List Int32) : Nat := (ta_sp L + 1).toNatClampNeg
theorem ta_nb_spec {L : List Int32} (h : ta_sp L ≠ -2) : (L.length ≤ 12 ∧ ta_sp L = -1 ∧ ta_nb L = 0) ∨ (∃ s, s ≤ 10 ∧ 12 < L.length ∧ L.length ≤ s + 13 ∧ s < L.length ∧ L.getD s 0 = 47 ∧ ta_sp L = nI s ∧ ta_nb L = s + 1) := by
  rcases ta_sp_spec L with ⟨a, b⟩ | ⟨a, b⟩ | ⟨s, h1, h2, h3, h4, h5, h6⟩
  · refine Or.inl ⟨a, b, ?_⟩
    unfold ta_nb
    rw [b]; decide
  · exact absurd b h
  · refine Or.inr ⟨s, h1, h2, h3, h4, h5, h6, ?_⟩
    unfold ta_nb
    rw [h6, nI_1]
    exact nI_clamp (by omega)
/-- the sum of a block's first n bytes -/
def ta_cs (a : Nat → Int32) (o : Nat) : Nat → Int32
  | 0 => 0
  | n + 1 => ta_cs a o n + (if 20 ≤ n ∧ n < 26 then 32 else a (o + n))
theorem ta_cs_by {a : Nat → Int32} {o : Nat} (h : ∀ j, ta_by (a j)) : ∀ n, n ≤ 64 → ∃ m, m ≤ 255 * n ∧ ta_cs a o n = nI m := by
  intro n
  induction n with
  | zero => intro _; exact ⟨0, by omega, rfl⟩
  | succ n ih =>
    intro hn
    obtain ⟨m, h1, h2⟩ := ih (by omega)
    by_cases z : 20 ≤ n ∧ n < 26
    · refine ⟨m + 32, by omega, ?_⟩
      show ta_cs a o n + (if 20 ≤ n ∧ n < 26 then 32 else a (o + n)) = _
      rw [if_pos z, h2, show (32 : Int32) = nI 32 from rfl, nI_add]
    · obtain ⟨q, h3, h4⟩ := h (o + n)
      refine ⟨m + q, by omega, ?_⟩
      show ta_cs a o n + (if 20 ≤ n ∧ n < 26 then 32 else a (o + n)) = _
      rw [if_neg z, h2, h4, nI_add]
def ta_mg : List Int32 := [117, 115, 116, 97, 114, 0, 48, 48]
def ta_ty (k : Int32) : Int32 := if k = 3 then 53 else if k = 2 then 49 else 48
/-- a header ahead of its checksum, written at o: the path L, the linkname K, mode, size, type -/
def ta_h0 (a : Nat → Int32) (o : Nat) (L K : List Int32) (md sz ty : Int32) : Nat → Int32 :=
  ta_wr (ta_wr (ta_wr (ta_wr (ta_wr (ta_wr (ta_wr a (o + 47) (L.take (ta_nb L - 1))) o (L.drop (ta_nb L))) (o + 27) K) (o + 12) (ta_ol 3 md)) (o + 16) (ta_ol 3 sz)) (o + 26) [ty]) (o + 39) ta_mg
def ta_h (a : Nat → Int32) (o : Nat) (L K : List Int32) (md sz ty : Int32) : Nat → Int32 :=
  ta_wr (ta_h0 a o L K md sz ty) (o + 20) (ta_ol 5 (ta_cs (ta_h0 a o L K md sz ty) o 64))
theorem ta_h_out {a : Nat → Int32} {o : Nat} {L K : List Int32} {md sz ty : Int32} (hL : ta_sp L ≠ -2) (hK : K.length ≤ 12) {j : Nat} (hj : j < o ∨ o + 64 ≤ j) : ta_h a o L K md sz ty j = a j := by
  have h1 : (L.take (ta_nb L - 1)).length ≤ 10 := by
    rw [List.length_take]
    rcases ta_nb_spec hL with ⟨_, _, h⟩ | ⟨s, h0, _, _, _, _, _, h⟩ <;> rw [h] <;> omega
  have h2 : (L.drop (ta_nb L)).length ≤ 12 := by
    rw [List.length_drop]
    rcases ta_nb_spec hL with ⟨_, _, h⟩ | ⟨s, h0, _, _, _, _, _, h⟩ <;> rw [h] <;> omega
  unfold ta_h ta_h0
  rw [ta_wr_out (by rw [ta_ol_len]; omega), ta_wr_out (by simp only [ta_mg, List.length_cons, List.length_nil]; omega), ta_wr_out (by simp only [List.length_cons, List.length_nil]; omega), ta_wr_out (by rw [ta_ol_len]; omega), ta_wr_out (by rw [ta_ol_len]; omega), ta_wr_out (by omega), ta_wr_out (by omega), ta_wr_out (by omega)]
theorem ta_h_by {a : Nat → Int32} {o : Nat} {L K : List Int32} {md sz ty : Int32} (h : ∀ j, ta_by (a j)) (hL : ∀ x, x ∈ L → ta_by x) (hK : ∀ x, x ∈ K → ta_by x) (ht : ta_by ty) : ∀ j, ta_by (ta_h a o L K md sz ty j) := by
  unfold ta_h ta_h0
  refine ta_wr_by (ta_wr_by (ta_wr_by (ta_wr_by (ta_wr_by (ta_wr_by (ta_wr_by (ta_wr_by h ?_) ?_) hK) (ta_ol_by _ _)) (ta_ol_by _ _)) ?_) ?_) (ta_ol_by _ _)
  · exact fun x hx => hL x (List.mem_of_mem_take hx)
  · exact fun x hx => hL x (List.mem_of_mem_drop hx)
  · intro x hx
    rw [List.mem_singleton.mp hx]
    exact ht
  · intro x hx
    simp only [ta_mg, List.mem_cons, List.not_mem_nil, or_false] at hx
    rcases hx with h | h | h | h | h | h | h | h <;> rw [h]
    · exact ta_by_n (n := 117) (by omega)
    · exact ta_by_n (n := 115) (by omega)
    · exact ta_by_n (n := 116) (by omega)
    · exact ta_by_n (n := 97) (by omega)
    · exact ta_by_n (n := 114) (by omega)
    · exact ta_by_n (n := 0) (by omega)
    · exact ta_by_n (n := 48) (by omega)
    · exact ta_by_n (n := 48) (by omega)
theorem ta_ty_by (k : Int32) : ta_by (ta_ty k) := by
  unfold ta_ty
  by_cases h : k = 3
  · rw [if_pos h]; exact ta_by_n (n := 53) (by omega)
  · rw [if_neg h]
    by_cases h2 : k = 2
    · rw [if_pos h2]; exact ta_by_n (n := 49) (by omega)
    · rw [if_neg h2]; exact ta_by_n (n := 48) (by omega)
def ta_n (x : Int32) : Nat := x.toNatClampNeg
/-- how many of the first i nodes have content -/
def ta_fc (sz : Nat → Int32) : Nat → Nat
  | 0 => 0
  | i + 1 => ta_fc sz i + (if 0 < ta_n (sz i) then 1 else 0)
theorem ta_fc_le (sz : Nat → Int32) : ∀ i, ta_fc sz i ≤ i := by
  intro i
  induction i with
  | zero => exact Nat.le_refl _
  | succ i ih =>
    show ta_fc sz i + (if 0 < ta_n (sz i) then 1 else 0) ≤ i + 1
    split <;> omega
theorem ta_fc_mono (sz : Nat → Int32) {i n : Nat} (h : i ≤ n) : ta_fc sz i ≤ ta_fc sz n := by
  induction n with
  | zero => rw [show i = 0 by omega]; exact Nat.le_refl _
  | succ n ih =>
    rcases Nat.lt_or_ge i (n + 1) with z | z
    · have := ih (by omega)
      show _ ≤ ta_fc sz n + (if 0 < ta_n (sz n) then 1 else 0)
      omega
    · rw [show i = n + 1 by omega]; exact Nat.le_refl _
def ta_lk (kd tg : Nat → Int32) (P : Nat → List Int32) (i : Nat) : List Int32 := if kd i = 2 then P (ta_n (tg i)) else []
def ta_of (sz : Nat → Int32) (i : Nat) : Nat := 64 * (i + ta_fc sz i)
/-- the archive after the first i nodes -/
def ta_cr (kd md sz tg dat : Nat → Int32) (P : Nat → List Int32) (z : Nat → Int32) : Nat → (Nat → Int32)
  | 0 => z
  | i + 1 => if 0 < ta_n (sz i) then ta_wr (ta_h (ta_cr kd md sz tg dat P z i) (ta_of sz i) (P i) (ta_lk kd tg P i) (md i) (sz i) (ta_ty (kd i))) (ta_of sz i + 64) (ta_sg dat (32 * i) (ta_n (sz i)))
    else ta_h (ta_cr kd md sz tg dat P z i) (ta_of sz i) (P i) (ta_lk kd tg P i) (md i) (sz i) (ta_ty (kd i))
def ta_ft (kd tg : Nat → Int32) (P : Nat → List Int32) (i : Nat) : Prop := ta_sp (P i) ≠ -2 ∧ (kd i = 2 → (P (ta_n (tg i))).length ≤ 12)
theorem ta_ft_lk {kd tg : Nat → Int32} {P : Nat → List Int32} {i : Nat} (h : ta_ft kd tg P i) : (ta_lk kd tg P i).length ≤ 12 := by
  unfold ta_lk
  by_cases z : kd i = 2
  · rw [if_pos z]; exact h.2 z
  · rw [if_neg z]; exact Nat.zero_le _
theorem ta_cr_out {kd md sz tg dat : Nat → Int32} {P : Nat → List Int32} {z : Nat → Int32} : ∀ i, (∀ k, k < i → ta_ft kd tg P k ∧ ta_n (sz k) ≤ 32) → ∀ j, ta_of sz i ≤ j → ta_cr kd md sz tg dat P z i j = z j := by
  intro i
  induction i with
  | zero => intro _ j _; rfl
  | succ i ih =>
    intro h j hj
    have hf := h i (by omega)
    have e : ta_of sz (i + 1) = 64 * (i + 1 + (ta_fc sz i + (if 0 < ta_n (sz i) then 1 else 0))) := rfl
    have e' : ta_of sz i = 64 * (i + ta_fc sz i) := rfl
    rw [e] at hj
    show (if 0 < ta_n (sz i) then ta_wr (ta_h (ta_cr kd md sz tg dat P z i) (ta_of sz i) (P i) (ta_lk kd tg P i) (md i) (sz i) (ta_ty (kd i))) (ta_of sz i + 64) (ta_sg dat (32 * i) (ta_n (sz i)))
    else ta_h (ta_cr kd md sz tg dat P z i) (ta_of sz i) (P i) (ta_lk kd tg P i) (md i) (sz i) (ta_ty (kd i))) j = z j
    by_cases w : 0 < ta_n (sz i)
    · rw [if_pos w] at hj
      rw [if_pos w, ta_wr_out (by rw [ta_sg_len]; omega), ta_h_out hf.1.1 (ta_ft_lk hf.1) (by omega)]
      exact ih (fun k hk => h k (by omega)) j (by omega)
    · rw [if_neg w] at hj
      rw [if_neg w, ta_h_out hf.1.1 (ta_ft_lk hf.1) (by omega)]
      exact ih (fun k hk => h k (by omega)) j (by omega)
theorem ta_cr_by {kd md sz tg dat : Nat → Int32} {P : Nat → List Int32} {z : Nat → Int32} (hz : ∀ j, ta_by (z j)) (hd : ∀ j, ta_by (dat j)) (hP : ∀ i x, x ∈ P i → ta_by x) : ∀ i j, ta_by (ta_cr kd md sz tg dat P z i j) := by
  intro i
  induction i with
  | zero => exact hz
  | succ i ih =>
    have h1 : ∀ j, ta_by (ta_h (ta_cr kd md sz tg dat P z i) (ta_of sz i) (P i) (ta_lk kd tg P i) (md i) (sz i) (ta_ty (kd i)) j) := by
      refine ta_h_by ih (hP i) ?_ (ta_ty_by _)
      intro x hx
      unfold ta_lk at hx
      by_cases w : kd i = 2
      · rw [if_pos w] at hx; exact hP _ x hx
      · rw [if_neg w] at hx; exact absurd hx (List.not_mem_nil)
    intro j
    show ta_by ((if 0 < ta_n (sz i) then ta_wr (ta_h (ta_cr kd md sz tg dat P z i) (ta_of sz i) (P i) (ta_lk kd tg P i) (md i) (sz i) (ta_ty (kd i))) (ta_of sz i + 64) (ta_sg dat (32 * i) (ta_n (sz i)))
    else ta_h (ta_cr kd md sz tg dat P z i) (ta_of sz i) (P i) (ta_lk kd tg P i) (md i) (sz i) (ta_ty (kd i))) j)
    by_cases w : 0 < ta_n (sz i)
    · rw [if_pos w]
      refine ta_wr_by h1 ?_ j
      intro x hx
      obtain ⟨k, _, e⟩ := ta_sg_mem.mp hx
      rw [← e]; exact hd _
    · rw [if_neg w]; exact h1 j
