/-! 02: the bytes of a packed name, texts as lists, a list written into an array -/
def ta_b (v : Int32) (k : Nat) : Int32 := ((v.toUInt32 >>> ((8 * nI k).toUInt32 &&& Int32.toUInt32 31)).toInt32) &&& 255
def ta_w (v : Int32) (k : Nat) : Nat := v.toBitVec.toNat / 2 ^ (8 * k) % 2 ^ 8
theorem ta_sh : ∀ k : Nat, k < 4 → (((8 * nI k).toUInt32 &&& Int32.toUInt32 31).toBitVec % 32).toNat = 8 * k := by decide
theorem ta_bw (v : Int32) {k : Nat} (hk : k < 4) : ta_b v k = nI (ta_w v k) := by
  unfold ta_b ta_w
  rw [pk_and _ 8 (by decide), pk_ushr v (8 * nI k) (8 * k) (ta_sh k hk)]
theorem ta_w_lt (v : Int32) (k : Nat) : ta_w v k < 256 := Nat.mod_lt _ (by decide)
theorem ta_w_eq {v w : Int32} {k : Nat} (hk : k < 4) (h : ta_b v k = ta_b w k) : ta_w v k = ta_w w k := by
  rw [ta_bw v hk, ta_bw w hk] at h
  have a := ta_w_lt v k
  have b := ta_w_lt w k
  exact (nI_eq (by omega) (by omega)).mp h
theorem ta_b_ext {v w : Int32} (h : ∀ k, k < 4 → ta_b v k = ta_b w k) : v = w := by
  apply Int32.toBitVec_inj.mp
  apply BitVec.eq_of_toNat_eq
  have h0 := ta_w_eq (by decide) (h 0 (by decide))
  have h1 := ta_w_eq (by decide) (h 1 (by decide))
  have h2 := ta_w_eq (by decide) (h 2 (by decide))
  have h3 := ta_w_eq (by decide) (h 3 (by decide))
  have hv := v.toBitVec.isLt
  have hw := w.toBitVec.isLt
  simp only [ta_w, Nat.reduceMul, Nat.reducePow] at h0 h1 h2 h3 hv hw
  omega
theorem ta_lt4 {k : Nat} (h : k < 4) : k = 0 ∨ k = 1 ∨ k = 2 ∨ k = 3 := by omega
def ta_nc (c : Int32) : Prop := (97 ≤ c ∧ c ≤ 122) ∨ (48 ≤ c ∧ c ≤ 57) ∨ c = 95
theorem ta_nc_47 : ¬ ta_nc 47 := by unfold ta_nc; decide
theorem ta_nc_0 : ¬ ta_nc 0 := by unfold ta_nc; decide
theorem ta_nc_nat {c : Int32} (h : ta_nc c) : ∃ n, n < 128 ∧ 0 < n ∧ c = nI n := by
  have h0 : ¬ c < 0 := by
    rcases h with h | h | h
    · exact Int32.not_lt.mpr (Int32.le_trans (by decide) h.1)
    · exact Int32.not_lt.mpr (Int32.le_trans (by decide) h.1)
    · rw [h]; decide
  obtain ⟨j, hj, rfl⟩ := nI_of h0
  refine ⟨j, ?_, ?_, rfl⟩
  · rcases h with h | h | h
    · have := (nI_leI (b := 122) hj (by decide)).mp h.2; omega
    · have := (nI_leI (b := 57) hj (by decide)).mp h.2; omega
    · have := (nI_eq (b := 95) hj (by decide)).mp h; omega
  · rcases h with h | h | h
    · have := (nI_leI (a := 97) (by decide) hj).mp h.1; omega
    · have := (nI_leI (a := 48) (by decide) hj).mp h.1; omega
    · have := (nI_eq (b := 95) hj (by decide)).mp h; omega
def ta_l (v : Int32) : Nat := if ta_b v 0 = 0 then 0 else if ta_b v 1 = 0 then 1 else if ta_b v 2 = 0 then 2 else if ta_b v 3 = 0 then 3 else 4
theorem ta_l_spec (v : Int32) : ta_l v ≤ 4 ∧ (∀ k, k < ta_l v → ta_b v k ≠ 0) ∧ (ta_l v < 4 → ta_b v (ta_l v) = 0) := by
  unfold ta_l
  by_cases h0 : ta_b v 0 = 0
  · rw [if_pos h0]; exact ⟨by omega, fun k hk => by omega, fun _ => h0⟩
  rw [if_neg h0]
  by_cases h1 : ta_b v 1 = 0
  · rw [if_pos h1]; exact ⟨by omega, fun k hk => by rw [show k = 0 by omega]; exact h0, fun _ => h1⟩
  rw [if_neg h1]
  by_cases h2 : ta_b v 2 = 0
  · rw [if_pos h2]
    refine ⟨by omega, fun k hk => ?_, fun _ => h2⟩
    rcases (show k = 0 ∨ k = 1 by omega) with rfl | rfl
    · exact h0
    · exact h1
  rw [if_neg h2]
  by_cases h3 : ta_b v 3 = 0
  · rw [if_pos h3]
    refine ⟨by omega, fun k hk => ?_, fun _ => h3⟩
    rcases (show k = 0 ∨ k = 1 ∨ k = 2 by omega) with rfl | rfl | rfl
    · exact h0
    · exact h1
    · exact h2
  rw [if_neg h3]
  refine ⟨by omega, fun k hk => ?_, fun h => by omega⟩
  rcases ta_lt4 hk with rfl | rfl | rfl | rfl
  · exact h0
  · exact h1
  · exact h2
  · exact h3
theorem ta_l_uniq {v : Int32} {n : Nat} (h4 : n ≤ 4) (h : ∀ k, k < n → ta_b v k ≠ 0) (h0 : n < 4 → ta_b v n = 0) : n = ta_l v := by
  obtain ⟨a, b, c⟩ := ta_l_spec v
  rcases Nat.lt_trichotomy n (ta_l v) with x | x | x
  · exact absurd (h0 (by omega)) (b n x)
  · exact x
  · exact absurd (c (by omega)) (h _ x)
def ta_V (v : Int32) : Prop := 1 ≤ ta_l v ∧ (∀ k, k < ta_l v → ta_nc (ta_b v k)) ∧ (∀ k, ta_l v ≤ k → k < 4 → ta_b v k = 0)
/-- n cells of an array from o on, as a list -/
def ta_sg (a : Nat → Int32) (o n : Nat) : List Int32 := (List.range n).map (fun k => a (o + k))
theorem ta_sg_len (a : Nat → Int32) (o n : Nat) : (ta_sg a o n).length = n := by simp [ta_sg]
theorem ta_sg_0 (a : Nat → Int32) (o : Nat) : ta_sg a o 0 = [] := rfl
theorem ta_sg_S (a : Nat → Int32) (o n : Nat) : ta_sg a o (n + 1) = ta_sg a o n ++ [a (o + n)] := by simp [ta_sg, List.range_succ]
theorem ta_sg_get {a : Nat → Int32} {o n k : Nat} (h : k < n) : (ta_sg a o n)[k]? = some (a (o + k)) := by simp [ta_sg, h]
theorem ta_sg_mem {a : Nat → Int32} {o n : Nat} {x : Int32} : x ∈ ta_sg a o n ↔ ∃ k, k < n ∧ a (o + k) = x := by simp [ta_sg]
theorem ta_sg_app (a : Nat → Int32) (o m n : Nat) : ta_sg a o (m + n) = ta_sg a o m ++ ta_sg a (o + m) n := by
  induction n with
  | zero => simp [ta_sg_0]
  | succ n ih => rw [← Nat.add_assoc, ta_sg_S, ih, ta_sg_S, List.append_assoc, Nat.add_assoc]
theorem ta_sg_1 (a : Nat → Int32) (o n : Nat) : ta_sg a o (n + 1) = a o :: ta_sg a (o + 1) n := by
  rw [Nat.add_comm n 1, ta_sg_app]; rfl
theorem ta_sg_cut {a : Nat → Int32} {o n k : Nat} (h : k < n) : ta_sg a o n = ta_sg a o k ++ a (o + k) :: ta_sg a (o + k + 1) (n - k - 1) := by
  obtain ⟨d, rfl⟩ : ∃ d, n = k + (d + 1) := ⟨n - k - 1, by omega⟩
  rw [ta_sg_app, ta_sg_1, show k + (d + 1) - k - 1 = d by omega]
theorem ta_sg_congr {a b : Nat → Int32} {o o' n : Nat} (h : ∀ k, k < n → a (o + k) = b (o' + k)) : ta_sg a o n = ta_sg b o' n := by
  unfold ta_sg
  apply List.map_congr_left
  intro k hk
  exact h k (List.mem_range.mp hk)
theorem ta_sg_inj {a b : Nat → Int32} {o o' n m : Nat} (h : ta_sg a o n = ta_sg b o' m) : n = m ∧ ∀ k, k < n → a (o + k) = b (o' + k) := by
  have e : n = m := by have := congrArg List.length h; rwa [ta_sg_len, ta_sg_len] at this
  subst e
  refine ⟨rfl, fun k hk => ?_⟩
  have := congrArg (fun l => l[k]?) h
  simp only [ta_sg_get hk] at this
  exact Option.some.inj this
def ta_t (v : Int32) : List Int32 := ta_sg (ta_b v) 0 (ta_l v)
theorem ta_t_len (v : Int32) : (ta_t v).length = ta_l v := ta_sg_len _ _ _
theorem ta_t_inj {v w : Int32} (hv : ta_V v) (hw : ta_V w) (h : ta_t v = ta_t w) : v = w := by
  obtain ⟨e, f⟩ := ta_sg_inj h
  apply ta_b_ext
  intro k hk
  by_cases z : k < ta_l v
  · have := f k z; simpa using this
  · rw [hv.2.2 k (by omega) hk, hw.2.2 k (by omega) hk]
theorem ta_t_mem {v c : Int32} (hv : ta_V v) (h : c ∈ ta_t v) : ta_nc c := by
  obtain ⟨k, hk, rfl⟩ := ta_sg_mem.mp h
  have := hv.2.1 k hk
  simpa using this
theorem ta_t_47 {v : Int32} (hv : ta_V v) : (47 : Int32) ∉ ta_t v := fun h => ta_nc_47 (ta_t_mem hv h)
theorem ta_V_ne {v : Int32} (hv : ta_V v) : v ≠ 0 := by
  intro e
  subst e
  have := hv.1
  rw [show ta_l 0 = 0 by decide] at this
  omega
/-- a list written into an array from o on -/
def ta_wr (a : Nat → Int32) (o : Nat) (L : List Int32) : Nat → Int32 := fun j => if o ≤ j ∧ j < o + L.length then L.getD (j - o) 0 else a j
theorem ta_wr_nil (a : Nat → Int32) (o : Nat) : ta_wr a o [] = a := by
  funext j
  exact if_neg (by simp only [List.length_nil]; omega)
theorem ta_wr_out {a : Nat → Int32} {o j : Nat} {L : List Int32} (h : j < o ∨ o + L.length ≤ j) : ta_wr a o L j = a j := if_neg (by omega)
theorem ta_wr_in {a : Nat → Int32} {o k : Nat} {L : List Int32} (h : k < L.length) : ta_wr a o L (o + k) = L.getD k 0 := by
  unfold ta_wr
  rw [if_pos ⟨by omega, by omega⟩, show o + k - o = k by omega]
theorem ta_wr_snoc (a : Nat → Int32) (o : Nat) (L : List Int32) (x : Int32) : upd (ta_wr a o L) (o + L.length) x = ta_wr a o (L ++ [x]) := by
  funext j
  unfold upd ta_wr
  simp only [List.length_append, List.length_cons, List.length_nil]
  by_cases h : j = o + L.length
  · subst h
    rw [if_pos rfl, if_pos ⟨by omega, by omega⟩, show o + L.length - o = L.length by omega]
    simp
  · rw [if_neg h]
    by_cases h2 : o ≤ j ∧ j < o + L.length
    · rw [if_pos h2, if_pos ⟨h2.1, by omega⟩, List.getD_eq_getElem?_getD, List.getD_eq_getElem?_getD, List.getElem?_append_left (by omega)]
    · rw [if_neg h2, if_neg (by omega)]
theorem ta_wr_sg (a : Nat → Int32) (o : Nat) (L : List Int32) : ta_sg (ta_wr a o L) o L.length = L := by
  apply List.ext_getElem?
  intro k
  by_cases h : k < L.length
  · rw [ta_sg_get h, ta_wr_in h, List.getD_eq_getElem?_getD, List.getElem?_eq_getElem h]; rfl
  · rw [List.getElem?_eq_none (by rw [ta_sg_len]; omega), List.getElem?_eq_none (by omega)]
theorem ta_wr_app (a : Nat → Int32) (o : Nat) (L M : List Int32) : ta_wr (ta_wr a o L) (o + L.length) M = ta_wr a o (L ++ M) := by
  funext j
  unfold ta_wr
  simp only [List.length_append]
  by_cases h : o + L.length ≤ j ∧ j < o + L.length + M.length
  · rw [if_pos h, if_pos ⟨by omega, by omega⟩, List.getD_eq_getElem?_getD, List.getD_eq_getElem?_getD, List.getElem?_append_right (by omega), show j - o - L.length = j - (o + L.length) by omega]
  · rw [if_neg h]
    by_cases h2 : o ≤ j ∧ j < o + L.length
    · rw [if_pos h2, if_pos ⟨h2.1, by omega⟩, List.getD_eq_getElem?_getD, List.getD_eq_getElem?_getD, List.getElem?_append_left (by omega)]
    · rw [if_neg h2, if_neg (by omega)]
/-- two writes apart from each other -/
theorem ta_wr_comm (a : Nat → Int32) {o p : Nat} {L M : List Int32} (h : o + L.length ≤ p ∨ p + M.length ≤ o) : ta_wr (ta_wr a o L) p M = ta_wr (ta_wr a p M) o L := by
  funext j
  unfold ta_wr
  by_cases h1 : o ≤ j ∧ j < o + L.length
  · rw [if_neg (by omega), if_pos h1, if_pos h1]
  · rw [if_neg h1]
    by_cases h2 : p ≤ j ∧ j < p + M.length
    · rw [if_pos h2, if_neg h1]
    · rw [if_neg h2, if_neg h1]
theorem ta_wr_1 (a : Nat → Int32) (o : Nat) (x : Int32) : upd a o x = ta_wr a o [x] := by
  have := ta_wr_snoc a o [] x
  simpa [ta_wr_nil] using this
theorem ta_wr_same {a : Nat → Int32} {o : Nat} {L : List Int32} (h : ∀ k, k < L.length → a (o + k) = L.getD k 0) : ta_wr a o L = a := by
  funext j
  unfold ta_wr
  by_cases h1 : o ≤ j ∧ j < o + L.length
  · rw [if_pos h1, ← h (j - o) (by omega), show o + (j - o) = j by omega]
  · rw [if_neg h1]
