section
/-! 02: the bytes of a packed name, texts as lists, a list written into an array -/
def ta_b (v : Int32) (k : Nat) : Int32 := ((v.toUInt32 >>> ((8 * nI k).toUInt32 &&& Int32.toUInt32 31)).toInt32) &&& 255
def ta_w (v : Int32) (k : Nat) : Nat := v.toBitVec.toNat / 2 ^ (8 * k) % 2 ^ 8
theorem ta_sh : ∀ k : Nat, k < 4 → (((8 * nI k).toUInt32 &&& Int32.toUInt32 31).toBitVec % 32).toNat = 8 * k := by decide
theorem ta_bw (v : Int32) {k : Nat} (hk : k < 4) : ta_b v k = nI (ta_w v k) := by
  unfold ta_b ta_w
  rw [pk_and _ 8 (by decide), pk_ushr v (8 * nI k) (8 * k) (ta_sh k hk)]
theorem ta_w_lt (v : Int32) (k : Nat) : ta_w v k < 256 := Nat.mod_lt _ (by decide)
theorem ta_w_eq {v w : Int32} {k : Nat} (hk : k < 4) (h : ta_b v k = ta_b w k) : ta_w v k = ta_w w k := by
  rw [ta_bw v hk, ta_bw w hk] at h
  have a := ta_w_lt v k
  have b := ta_w_lt w k
  exact (nI_eq (by omega) (by omega)).mp h
theorem ta_b_ext {v w : Int32} (h : ∀ k, k < 4 → ta_b v k = ta_b w k) : v = w := by
  apply Int32.toBitVec_inj.mp
  apply BitVec.eq_of_toNat_eq
  have h0 := ta_w_eq (by decide) (h 0 (by decide))
  have h1 := ta_w_eq (by decide) (h 1 (by decide))
  have h2 := ta_w_eq (by decide) (h 2 (by decide))
  have h3 := ta_w_eq (by decide) (h 3 (by decide))
  have hv := v.toBitVec.isLt
  have hw := w.toBitVec.isLt
  simp only [ta_w, Nat.reduceMul, Nat.reducePow] at h0 h1 h2 h3 hv hw
  omega
theorem ta_lt4 {k : Nat} (h : k < 4) : k = 0 ∨ k = 1 ∨ k = 2 ∨ k = 3 := by omega
def ta_nc (c : Int32) : Prop := (97 ≤ c ∧ c ≤ 122) ∨ (48 ≤ c ∧ c ≤ 57) ∨ c = 95
theorem ta_nc_47 : ¬ ta_nc 47 := by unfold ta_nc; decide
theorem ta_nc_0 : ¬ ta_nc 0 := by unfold ta_nc; decide
theorem ta_nc_nat {c : Int32} (h : ta_nc c) : ∃ n, n < 128 ∧ 0 < n ∧ c = nI n := by
  have h0 : ¬ c < 0 := by
    rcases h with h | h | h
    · exact Int32.not_lt.mpr (Int32.le_trans (by decide) h.1)
    · exact Int32.not_lt.mpr (Int32.le_trans (by decide) h.1)
    · rw [h]; decide
  obtain ⟨j, hj, rfl⟩ := nI_of h0
  refine ⟨j, ?_, ?_, rfl⟩
  · rcases h with h | h | h
    · have := (nI_leI (b := 122) hj (by decide)).mp h.2; omega
    · have := (nI_leI (b := 57) hj (by decide)).mp h.2; omega
    · have := (nI_eq (b := 95) hj (by decide)).mp h; omega
  · rcases h with h | h | h
    · have := (nI_leI (a := 97) (by decide) hj).mp h.1; omega
    · have := (nI_leI (a := 48) (by decide) hj).mp h.1; omega
    · have := (nI_eq (b := 95) hj (by decide)).mp h; omega
def ta_l (v : Int32) : Nat := if ta_b v 0 = 0 then 0 else if ta_b v 1 = 0 then 1 else if ta_b v 2 = 0 then 2 else if ta_b v 3 = 0 then 3 else 4
theorem ta_l_spec (v : Int32) : ta_l v ≤ 4 ∧ (∀ k, k < ta_l v → ta_b v k ≠ 0) ∧ (ta_l v < 4 → ta_b v (ta_l v) = 0) := by
  unfold ta_l
  by_cases h0 : ta_b v 0 = 0
  · rw [if_pos h0]; exact ⟨by omega, fun k hk => by omega, fun _ => h0⟩
  rw [if_neg h0]
  by_cases h1 : ta_b v 1 = 0
  · rw [if_pos h1]; exact ⟨by omega, fun k hk => by rw [show k = 0 by omega]; exact h0, fun _ => h1⟩
  rw [if_neg h1]
  by_cases h2 : ta_b v 2 = 0
  · rw [if_pos h2]
    refine ⟨by omega, fun k hk => ?_, fun _ => h2⟩
    rcases (show k = 0 ∨ k = 1 by omega) with rfl | rfl
    · exact h0
    · exact h1
  rw [if_neg h2]
  by_cases h3 : ta_b v 3 = 0
  · rw [if_pos h3]
    refine ⟨by omega, fun k hk => ?_, fun _ => h3⟩
    rcases (show k = 0 ∨ k = 1 ∨ k = 2 by omega) with rfl | rfl | rfl
    · exact h0
    · exact h1
    · exact h2
  rw [if_neg h3]
  refine ⟨by omega, fun k hk => ?_, fun h => by omega⟩
  rcases ta_lt4 hk with rfl | rfl | rfl | rfl
  · exact h0
  · exact h1
  · exact h2
  · exact h3
theorem ta_l_uniq {v : Int32} {n : Nat} (h4 : n ≤ 4) (h : ∀ k, k < n → ta_b v k ≠ 0) (h0 : n < 4 → ta_b v n = 0) : n = ta_l v := by
  obtain ⟨a, b, c⟩ := ta_l_spec v
  rcases Nat.lt_trichotomy n (ta_l v) with x | x | x
  · exact absurd (h0 (by omega)) (b n x)
  · exact x
  · exact absurd (c (by omega)) (h _ x)
def ta_V (v : Int32) : Prop := 1 ≤ ta_l v ∧ (∀ k, k < ta_l v → ta_nc (ta_b v k)) ∧ (∀ k, ta_l v ≤ k → k < 4 → ta_b v k = 0)
/-- n cells of an array from o on, as a list -/
def ta_sg (a : Nat → Int32) (o n : Nat) : List Int32 := (List.range n).map (fun k => a (o + k))
theorem ta_sg_len (a : Nat → Int32) (o n : Nat) : (ta_sg a o n).length = n := by simp [ta_sg]
theorem ta_sg_0 (a : Nat → Int32) (o : Nat) : ta_sg a o 0 = [] := rfl
theorem ta_sg_S (a : Nat → Int32) (o n : Nat) : ta_sg a o (n + 1) = ta_sg a o n ++ [a (o + n)] := by simp [ta_sg, List.range_succ]
theorem ta_sg_get {a : Nat → Int32} {o n k : Nat} (h : k < n) : (ta_sg a o n)[k]? = some (a (o + k)) := by simp [ta_sg, h]
theorem ta_sg_mem {a : Nat → Int32} {o n : Nat} {x : Int32} : x ∈ ta_sg a o n ↔ ∃ k, k < n ∧ a (o + k) = x := by simp [ta_sg]
theorem ta_sg_app (a : Nat → Int32) (o m n : Nat) : ta_sg a o (m + n) = ta_sg a o m ++ ta_sg a (o + m) n := by
  induction n with
  | zero => simp [ta_sg_0]
  | succ n ih => rw [← Nat.add_assoc, ta_sg_S, ih, ta_sg_S, List.append_assoc, Nat.add_assoc]
theorem ta_sg_1 (a : Nat → Int32) (o n : Nat) : ta_sg a o (n + 1) = a o :: ta_sg a (o + 1) n := by
  rw [Nat.add_comm n 1, ta_sg_app]; rfl
theorem ta_sg_cut {a : Nat → Int32} {o n k : Nat} (h : k < n) : ta_sg a o n = ta_sg a o k ++ a (o + k) :: ta_sg a (o + k + 1) (n - k - 1) := by
  obtain ⟨d, rfl⟩ : ∃ d, n = k + (d + 1) := ⟨n - k - 1, by omega⟩
  rw [ta_sg_app, ta_sg_1, show k + (d + 1) - k - 1 = d by omega]
theorem ta_sg_congr {a b : Nat → Int32} {o o' n : Nat} (h : ∀ k, k < n → a (o + k) = b (o' + k)) : ta_sg a o n = ta_sg b o' n := by
  unfold ta_sg
  apply List.map_congr_left
  intro k hk
  exact h k (List.mem_range.mp hk)
theorem ta_sg_inj {a b : Nat → Int32} {o o' n m : Nat} (h : ta_sg a o n = ta_sg b o' m) : n = m ∧ ∀ k, k < n → a (o + k) = b (o' + k) := by
  have e : n = m := by have := congrArg List.length h; rwa [ta_sg_len, ta_sg_len] at this
  subst e
  refine ⟨rfl, fun k hk => ?_⟩
  have := congrArg (fun l => l[k]?) h
  simp only [ta_sg_get hk] at this
  exact Option.some.inj this
def ta_t (v : Int32) : List Int32 := ta_sg (ta_b v) 0 (ta_l v)
theorem ta_t_len (v : Int32) : (ta_t v).length = ta_l v := ta_sg_len _ _ _
theorem ta_t_inj {v w : Int32} (hv : ta_V v) (hw : ta_V w) (h : ta_t v = ta_t w) : v = w := by
  obtain ⟨e, f⟩ := ta_sg_inj h
  apply ta_b_ext
  intro k hk
  by_cases z : k < ta_l v
  · have := f k z; simpa using this
  · rw [hv.2.2 k (by omega) hk, hw.2.2 k (by omega) hk]
theorem ta_t_mem {v c : Int32} (hv : ta_V v) (h : c ∈ ta_t v) : ta_nc c := by
  obtain ⟨k, hk, rfl⟩ := ta_sg_mem.mp h
  have := hv.2.1 k hk
  simpa using this
theorem ta_t_47 {v : Int32} (hv : ta_V v) : (47 : Int32) ∉ ta_t v := fun h => ta_nc_47 (ta_t_mem hv h)
theorem ta_V_ne {v : Int32} (hv : ta_V v) : v ≠ 0 := by
  intro e
  subst e
  have := hv.1
  rw [show ta_l 0 = 0 by decide] at this
  omega
/-- a list written into an array from o on -/
def ta_wr (a : Nat → Int32) (o : Nat) (L : List Int32) : Nat → Int32 := fun j => if o ≤ j ∧ j < o + L.length then L.getD (j - o) 0 else a j
theorem ta_wr_nil (a : Nat → Int32) (o : Nat) : ta_wr a o [] = a := by
  funext j
  exact if_neg (by simp only [List.length_nil]; omega)
theorem ta_wr_out {a : Nat → Int32} {o j : Nat} {L : List Int32} (h : j < o ∨ o + L.length ≤ j) : ta_wr a o L j = a j := if_neg (by omega)
theorem ta_wr_in {a : Nat → Int32} {o k : Nat} {L : List Int32} (h : k < L.length) : ta_wr a o L (o + k) = L.getD k 0 := by
  unfold ta_wr
  rw [if_pos ⟨by omega, by omega⟩, show o + k - o = k by omega]
theorem ta_wr_snoc (a : Nat → Int32) (o : Nat) (L : List Int32) (x : Int32) : upd (ta_wr a o L) (o + L.length) x = ta_wr a o (L ++ [x]) := by
  funext j
  unfold upd ta_wr
  simp only [List.length_append, List.length_cons, List.length_nil]
  by_cases h : j = o + L.length
  · subst h
    rw [if_pos rfl, if_pos ⟨by omega, by omega⟩, show o + L.length - o = L.length by omega]
    simp
  · rw [if_neg h]
    by_cases h2 : o ≤ j ∧ j < o + L.length
    · rw [if_pos h2, if_pos ⟨h2.1, by omega⟩, List.getD_eq_getElem?_getD, List.getD_eq_getElem?_getD, List.getElem?_append_left (by omega)]
    · rw [if_neg h2, if_neg (by omega)]
theorem ta_wr_sg (a : Nat → Int32) (o : Nat) (L : List Int32) : ta_sg (ta_wr a o L) o L.length = L := by
  apply List.ext_getElem?
  intro k
  by_cases h : k < L.length
  · rw [ta_sg_get h, ta_wr_in h, List.getD_eq_getElem?_getD, List.getElem?_eq_getElem h]; rfl
  · rw [List.getElem?_eq_none (by rw [ta_sg_len]; omega), List.getElem?_eq_none (by omega)]
theorem ta_wr_app (a : Nat → Int32) (o : Nat) (L M : List Int32) : ta_wr (ta_wr a o L) (o + L.length) M = ta_wr a o (L ++ M) := by
  funext j
  unfold ta_wr
  simp only [List.length_append]
  by_cases h : o + L.length ≤ j ∧ j < o + L.length + M.length
  · rw [if_pos h, if_pos ⟨by omega, by omega⟩, List.getD_eq_getElem?_getD, List.getD_eq_getElem?_getD, List.getElem?_append_right (by omega), show j - o - L.length = j - (o + L.length) by omega]
  · rw [if_neg h]
    by_cases h2 : o ≤ j ∧ j < o + L.length
    · rw [if_pos h2, if_pos ⟨h2.1, by omega⟩, List.getD_eq_getElem?_getD, List.getD_eq_getElem?_getD, List.getElem?_append_left (by omega)]
    · rw [if_neg h2, if_neg (by omega)]
/-- two writes apart from each other -/
theorem ta_wr_comm (a : Nat → Int32) {o p : Nat} {L M : List Int32} (h : o + L.length ≤ p ∨ p + M.length ≤ o) : ta_wr (ta_wr a o L) p M = ta_wr (ta_wr a p M) o L := by
  funext j
  unfold ta_wr
  by_cases h1 : o ≤ j ∧ j < o + L.length
  · rw [if_neg (by omega), if_pos h1, if_pos h1]
  · rw [if_neg h1]
    by_cases h2 : p ≤ j ∧ j < p + M.length
    · rw [if_pos h2, if_neg h1]
    · rw [if_neg h2, if_neg h1]
theorem ta_wr_1 (a : Nat → Int32) (o : Nat) (x : Int32) : upd a o x = ta_wr a o [x] := by
  have := ta_wr_snoc a o [] x
  simpa [ta_wr_nil] using this
theorem ta_wr_same {a : Nat → Int32} {o : Nat} {L : List Int32} (h : ∀ k, k < L.length → a (o + k) = L.getD k 0) : ta_wr a o L = a := by
  funext j
  unfold ta_wr
  by_cases h1 : o ≤ j ∧ j < o + L.length
  · rw [if_pos h1, ← h (j - o) (by omega), show o + (j - o) = j by omega]
  · rw [if_neg h1]
end
section
/-! 03: packed names, the paths of a tree -/
def ta_pN (c : Nat → Nat) : Nat → Nat
  | 0 => 0
  | n + 1 => ta_pN c n + 2 ^ (8 * n) * c n
theorem ta_pN_lt {c : Nat → Nat} : ∀ n, (∀ i, i < n → c i < 256) → ta_pN c n < 2 ^ (8 * n) := by
  intro n
  induction n with
  | zero => intro _; exact Nat.zero_lt_one
  | succ n ih =>
    intro h
    have a := ih (fun i hi => h i (by omega))
    have b := h n (by omega)
    show ta_pN c n + 2 ^ (8 * n) * c n < 2 ^ (8 * (n + 1))
    rw [show 8 * (n + 1) = 8 * n + 8 by omega, Nat.pow_add]
    have d : 2 ^ (8 * n) * c n ≤ 2 ^ (8 * n) * 255 := Nat.mul_le_mul_left _ (by omega)
    omega
def ta_pk (a : Nat → Int32) (o : Nat) : Nat → Int32
  | 0 => 0
  | n + 1 => ta_pk a o n ||| (a (o + n) <<< ((8 * nI n) &&& 31))
theorem ta_shl : ∀ k : Nat, k < 4 → (((8 * nI k) &&& 31).toBitVec.smod 32).toNat = 8 * k := by decide
theorem ta_or {A B n : Nat} (hA : A < 2 ^ n) (h : A + 2 ^ n * B < 2 ^ 32) : nI A ||| nI (B * 2 ^ n) = nI (A + 2 ^ n * B) := by
  apply Int32.toBitVec_inj.mp
  apply BitVec.eq_of_toNat_eq
  rw [Int32.toBitVec_or, BitVec.toNat_or, pk_tn (by omega), pk_tn (by rw [Nat.mul_comm]; omega), pk_tn h, Nat.or_comm, Nat.mul_comm B, ← Nat.two_pow_add_eq_or_of_lt hA, Nat.add_comm]
theorem ta_pk_N {a : Nat → Int32} {o : Nat} {c : Nat → Nat} : ∀ n, n ≤ 4 → (∀ i, i < n → c i < 128 ∧ a (o + i) = nI (c i)) → ta_pk a o n = nI (ta_pN c n) := by
  intro n
  induction n with
  | zero => intro _ _; rfl
  | succ n ih =>
    intro h4 h
    have e := ih (by omega) (fun i hi => h i (by omega))
    obtain ⟨l, f⟩ := h n (by omega)
    have hA := ta_pN_lt (c := c) n (fun i hi => by have := (h i (by omega)).1; omega)
    have hB := ta_pN_lt (c := c) (n + 1) (fun i hi => by have := (h i (by omega)).1; omega)
    have hp : (2 : Nat) ^ (8 * (n + 1)) ≤ 2 ^ 32 := Nat.pow_le_pow_right (by decide) (by omega)
    have hB' : ta_pN c n + 2 ^ (8 * n) * c n < 2 ^ (8 * (n + 1)) := hB
    show ta_pk a o n ||| (a (o + n) <<< ((8 * nI n) &&& 31)) = nI (ta_pN c n + 2 ^ (8 * n) * c n)
    rw [e, f, pk_shlN _ (8 * n) (ta_shl n (by omega)) (by rw [Nat.mul_comm]; omega)]
    exact ta_or hA (by omega)
theorem ta_pN_w {c : Nat → Nat} {n k : Nat} (hn : n ≤ 4) (hk : k < 4) (h : ∀ i, i < n → c i < 256) : ta_pN c n / 2 ^ (8 * k) % 2 ^ 8 = if k < n then c k else 0 := by
  rcases (show n = 0 ∨ n = 1 ∨ n = 2 ∨ n = 3 ∨ n = 4 by omega) with rfl | rfl | rfl | rfl | rfl
  · simp [ta_pN]
  · have h0 := h 0 (by decide)
    rcases ta_lt4 hk with rfl | rfl | rfl | rfl <;> simp [ta_pN] <;> omega
  · have h0 := h 0 (by decide)
    have h1 := h 1 (by decide)
    rcases ta_lt4 hk with rfl | rfl | rfl | rfl <;> simp [ta_pN] <;> omega
  · have h0 := h 0 (by decide)
    have h1 := h 1 (by decide)
    have h2 := h 2 (by decide)
    rcases ta_lt4 hk with rfl | rfl | rfl | rfl <;> simp [ta_pN] <;> omega
  · have h0 := h 0 (by decide)
    have h1 := h 1 (by decide)
    have h2 := h 2 (by decide)
    have h3 := h 3 (by decide)
    rcases ta_lt4 hk with rfl | rfl | rfl | rfl <;> simp [ta_pN] <;> omega
theorem ta_pk_b {a : Nat → Int32} {o n k : Nat} (h4 : n ≤ 4) (hk : k < 4) (h : ∀ i, i < n → ta_nc (a (o + i))) : ta_b (ta_pk a o n) k = if k < n then a (o + k) else 0 := by
  let c : Nat → Nat := fun i => (a (o + i)).toNatClampNeg
  have hc : ∀ i, i < n → c i < 128 ∧ a (o + i) = nI (c i) := by
    intro i hi
    obtain ⟨m, hm, _, e⟩ := ta_nc_nat (h i hi)
    have : c i = m := by show (a (o + i)).toNatClampNeg = m; rw [e]; exact nI_clamp (by omega)
    rw [this]
    exact ⟨hm, e⟩
  have hl := ta_pN_lt (c := c) n (fun i hi => by have := (hc i hi).1; omega)
  have hp : (2 : Nat) ^ (8 * n) ≤ 2 ^ 32 := Nat.pow_le_pow_right (by decide) (by omega)
  rw [ta_bw _ hk, ta_pk_N n h4 hc]
  unfold ta_w
  rw [pk_tn (by omega), ta_pN_w h4 hk (fun i hi => by have := (hc i hi).1; omega)]
  by_cases z : k < n
  · rw [if_pos z, if_pos z, ← (hc k z).2]
  · rw [if_neg z, if_neg z]; rfl
theorem ta_pk_l {a : Nat → Int32} {o n : Nat} (h4 : n ≤ 4) (h : ∀ i, i < n → ta_nc (a (o + i))) : ta_l (ta_pk a o n) = n := by
  refine (ta_l_uniq h4 (fun k hk => ?_) (fun hn => ?_)).symm
  · rw [ta_pk_b h4 (by omega) h, if_pos hk]
    intro e
    exact ta_nc_0 (e ▸ h k hk)
  · rw [ta_pk_b h4 hn h, if_neg (Nat.lt_irrefl n)]
theorem ta_pk_V {a : Nat → Int32} {o n : Nat} (h1 : 1 ≤ n) (h4 : n ≤ 4) (h : ∀ i, i < n → ta_nc (a (o + i))) : ta_V (ta_pk a o n) ∧ ta_t (ta_pk a o n) = ta_sg a o n := by
  have hl := ta_pk_l h4 h
  refine ⟨⟨by rw [hl]; exact h1, fun k hk => ?_, fun k hk hk4 => ?_⟩, ?_⟩
  · rw [hl] at hk
    rw [ta_pk_b h4 (by omega) h, if_pos hk]
    exact h k hk
  · rw [hl] at hk
    rw [ta_pk_b h4 hk4 h, if_neg (by omega)]
  · unfold ta_t
    rw [hl]
    apply ta_sg_congr
    intro k hk
    rw [Nat.zero_add, ta_pk_b h4 (by omega) h, if_pos hk]
theorem ta_pk_cg {a b : Nat → Int32} {o : Nat} : ∀ n, (∀ k, k < n → a (o + k) = b (o + k)) → ta_pk a o n = ta_pk b o n := by
  intro n
  induction n with
  | zero => intro _; rfl
  | succ n ih =>
    intro h
    show ta_pk a o n ||| _ = ta_pk b o n ||| _
    rw [ih (fun k hk => h k (by omega)), h n (by omega)]

/-- lists cut at their last slash -/
theorem ta_spl : ∀ {l1 l2 n1 n2 : List Int32}, (47 : Int32) ∉ n1 → (47 : Int32) ∉ n2 → l1 ++ 47 :: n1 = l2 ++ 47 :: n2 → l1 = l2 ∧ n1 = n2
  | [], [], n1, n2, _, _, h => ⟨rfl, by simpa using h⟩
  | [], b :: l2, n1, n2, h1, _, h => by
    have e : n1 = l2 ++ 47 :: n2 := by have := h; simp at this; exact this.2
    exact absurd (by rw [e]; simp) h1
  | a :: l1, [], n1, n2, _, h2, h => by
    have e : l1 ++ 47 :: n1 = n2 := by have := h; simp at this; exact this.2
    exact absurd (by rw [← e]; simp) h2
  | a :: l1, b :: l2, n1, n2, h1, h2, h => by
    have e : a = b ∧ l1 ++ 47 :: n1 = l2 ++ 47 :: n2 := by simpa using h
    obtain ⟨x, y⟩ := ta_spl h1 h2 e.2
    exact ⟨by rw [e.1, x], y⟩
def ta_Nd (b : Nat) (kd par nm : Nat → Int32) (P : Nat → List Int32) (i : Nat) : Prop :=
  ta_V (nm (b + i)) ∧ (P i).count 47 ≤ 5 ∧ ((par (b + i) = -1 ∧ P i = ta_t (nm (b + i))) ∨ (∃ q, q < i ∧ par (b + i) = nI q ∧ kd (b + q) = 3 ∧ P i = P q ++ 47 :: ta_t (nm (b + i))))
def ta_Tr (b c : Nat) (kd par nm : Nat → Int32) (P : Nat → List Int32) : Prop :=
  (∀ i, i < c → ta_Nd b kd par nm P i) ∧ (∀ i j, i < c → j < c → par (b + i) = par (b + j) → nm (b + i) = nm (b + j) → i = j)
section
variable {b c : Nat} {kd par nm : Nat → Int32} {P : Nat → List Int32}
theorem ta_cnt {v : Int32} (hv : ta_V v) : (ta_t v).count 47 = 0 := List.count_eq_zero.mpr (ta_t_47 hv)
theorem ta_P_ne (T : ta_Tr b c kd par nm P) {i : Nat} (hi : i < c) : P i ≠ [] := by
  obtain ⟨hv, _, h⟩ := T.1 i hi
  have hl : (ta_t (nm (b + i))).length ≠ 0 := by rw [ta_t_len]; have := hv.1; omega
  rcases h with ⟨_, e⟩ | ⟨q, _, _, _, e⟩
  · rw [e]; intro z; rw [z] at hl; exact hl rfl
  · rw [e]; simp
theorem ta_P_len (T : ta_Tr b c kd par nm P) : ∀ i, i < c → (P i).length ≤ 5 * (P i).count 47 + 4 := by
  intro i
  induction i using Nat.strongRecOn with
  | ind i ih =>
    intro hi
    obtain ⟨hv, _, h⟩ := T.1 i hi
    have hl := (ta_l_spec (nm (b + i))).1
    have hl2 := ta_t_len (nm (b + i))
    have hc := ta_cnt hv
    rcases h with ⟨_, e⟩ | ⟨q, hq, _, _, e⟩
    · rw [e, hc]; omega
    · have := ih q hq (by omega)
      rw [e, List.length_append, List.length_cons, List.count_append, List.count_cons_self, hc]
      omega
theorem ta_P_29 (T : ta_Tr b c kd par nm P) {i : Nat} (hi : i < c) : (P i).length ≤ 29 := by
  have := ta_P_len T i hi
  have := (T.1 i hi).2.1
  omega
theorem ta_P_pos (T : ta_Tr b c kd par nm P) {i : Nat} (hi : i < c) : 0 < (P i).length := by
  have := ta_P_ne T hi
  exact List.length_pos_iff.mpr this
theorem ta_P_top (T : ta_Tr b c kd par nm P) {j : Nat} (hj : j < c) {C : List Int32} (hC : (47 : Int32) ∉ C) (h : P j = C) : par (b + j) = -1 ∧ ta_t (nm (b + j)) = C := by
  obtain ⟨hv, _, e⟩ := T.1 j hj
  rcases e with ⟨e1, e2⟩ | ⟨q, _, _, _, e2⟩
  · exact ⟨e1, by rw [← e2, h]⟩
  · exact absurd (by rw [← h, e2]; simp) hC
theorem ta_P_sub (T : ta_Tr b c kd par nm P) {j : Nat} (hj : j < c) {A C : List Int32} (hC : (47 : Int32) ∉ C) (h : P j = A ++ 47 :: C) : ∃ q, q < j ∧ par (b + j) = nI q ∧ kd (b + q) = 3 ∧ P q = A ∧ ta_t (nm (b + j)) = C := by
  obtain ⟨hv, _, e⟩ := T.1 j hj
  rcases e with ⟨e1, e2⟩ | ⟨q, hq, e1, e3, e2⟩
  · exact absurd (by rw [← e2, h]; simp) (ta_t_47 hv)
  · obtain ⟨x, y⟩ := ta_spl hC (ta_t_47 hv) (h.symm.trans e2)
    exact ⟨q, hq, e1, e3, x.symm, y.symm⟩
theorem ta_P_inj (T : ta_Tr b c kd par nm P) : ∀ i j, i < c → j < c → P i = P j → i = j := by
  intro i
  induction i using Nat.strongRecOn with
  | ind i ih =>
    intro j hi hj h
    obtain ⟨hv, _, e⟩ := T.1 i hi
    obtain ⟨hw, _, _⟩ := T.1 j hj
    rcases e with ⟨e1, e2⟩ | ⟨q, hq, e1, e3, e2⟩
    · obtain ⟨f1, f2⟩ := ta_P_top T hj (ta_t_47 hv) (h.symm.trans e2)
      exact T.2 i j hi hj (e1.trans f1.symm) (ta_t_inj hv hw f2.symm)
    · obtain ⟨r, hr, f1, f3, f4, f2⟩ := ta_P_sub T hj (ta_t_47 hv) (h.symm.trans e2)
      have := ih q hq r (by omega) (by omega) f4.symm
      subst this
      exact T.2 i j hi hj (e1.trans f1.symm) (ta_t_inj hv hw f2.symm)
theorem ta_P_anc (T : ta_Tr b c kd par nm P) : ∀ j, j < c → ∀ A B, P j = A ++ 47 :: B → ∃ q, q < j ∧ P q = A := by
  intro j
  induction j using Nat.strongRecOn with
  | ind j ih =>
    intro hj A B h
    obtain ⟨hv, _, e⟩ := T.1 j hj
    rcases e with ⟨e1, e2⟩ | ⟨q, hq, e1, e3, e2⟩
    · exact absurd (by rw [← e2, h]; simp) (ta_t_47 hv)
    · rcases List.append_eq_append_iff.mp (e2.symm.trans h) with ⟨a', x, y⟩ | ⟨c', x, y⟩
      · cases a' with
        | nil => exact ⟨q, hq, by rw [x]; simp⟩
        | cons z zs =>
          have : ta_t (nm (b + j)) = zs ++ 47 :: B := by simp at y; exact y.2
          exact absurd (by rw [this]; simp) (ta_t_47 hv)
      · cases c' with
        | nil => exact ⟨q, hq, by rw [x]; simp⟩
        | cons z zs =>
          have z47 : z = 47 := by simp at y; exact y.1.symm
          subst z47
          obtain ⟨r, hr, f⟩ := ih q hq (by omega) A zs x
          exact ⟨r, by omega, f⟩
theorem ta_P_ch (T : ta_Tr b c kd par nm P) : ∀ i, i < c → ∀ x, x ∈ P i → x = 47 ∨ ta_nc x := by
  intro i
  induction i using Nat.strongRecOn with
  | ind i ih =>
    intro hi x hx
    obtain ⟨hv, _, e⟩ := T.1 i hi
    rcases e with ⟨_, e⟩ | ⟨q, hq, _, _, e⟩
    · rw [e] at hx; exact Or.inr (ta_t_mem hv hx)
    · rw [e, List.mem_append, List.mem_cons] at hx
      rcases hx with hx | hx | hx
      · exact ih q hq (by omega) x hx
      · exact Or.inl hx
      · exact Or.inr (ta_t_mem hv hx)
theorem ta_Tr_cg (T : ta_Tr b c kd par nm P) {kd' par' nm' : Nat → Int32} (h1 : ∀ i, i < c → kd' (b + i) = kd (b + i)) (h2 : ∀ i, i < c → par' (b + i) = par (b + i)) (h3 : ∀ i, i < c → nm' (b + i) = nm (b + i)) : ta_Tr b c kd' par' nm' P := by
  refine ⟨fun i hi => ?_, fun i j hi hj => ?_⟩
  · obtain ⟨a1, a2, a3⟩ := T.1 i hi
    refine ⟨by rw [h3 i hi]; exact a1, a2, ?_⟩
    rcases a3 with ⟨x, y⟩ | ⟨q, hq, x, y, z⟩
    · exact Or.inl ⟨by rw [h2 i hi]; exact x, by rw [h3 i hi]; exact y⟩
    · exact Or.inr ⟨q, hq, by rw [h2 i hi]; exact x, by rw [h1 q (by omega)]; exact y, by rw [h3 i hi]; exact z⟩
  · rw [h2 i hi, h2 j hj, h3 i hi, h3 j hj]
    exact T.2 i j hi hj
theorem ta_Tr_add (T : ta_Tr b c kd par nm P) {N : List Int32} (hv : ta_V (nm (b + c))) (h5 : N.count 47 ≤ 5)
    (hp : (par (b + c) = -1 ∧ N = ta_t (nm (b + c))) ∨ (∃ q, q < c ∧ par (b + c) = nI q ∧ kd (b + q) = 3 ∧ N = P q ++ 47 :: ta_t (nm (b + c))))
    (hu : ∀ i, i < c → par (b + i) = par (b + c) → nm (b + i) = nm (b + c) → False) :
    ta_Tr b (c + 1) kd par nm (fun i => if i = c then N else P i) := by
  refine ⟨fun i hi => ?_, fun i j hi hj e1 e2 => ?_⟩
  · by_cases z : i = c
    · subst z
      refine ⟨hv, by simpa using h5, ?_⟩
      rcases hp with ⟨x, y⟩ | ⟨q, hq, x, y, w⟩
      · exact Or.inl ⟨x, by simpa using y⟩
      · refine Or.inr ⟨q, hq, x, y, ?_⟩
        show (if i = i then N else P i) = (if q = i then N else P q) ++ _
        rw [if_pos rfl, if_neg (by omega), w]
    · obtain ⟨a1, a2, a3⟩ := T.1 i (by omega)
      refine ⟨a1, by simpa [z] using a2, ?_⟩
      rcases a3 with ⟨x, y⟩ | ⟨q, hq, x, y, w⟩
      · exact Or.inl ⟨x, by simpa [z] using y⟩
      · refine Or.inr ⟨q, hq, x, y, ?_⟩
        show (if i = c then N else P i) = (if q = c then N else P q) ++ _
        rw [if_neg z, if_neg (by omega), w]
  · by_cases zi : i = c
    · by_cases zj : j = c
      · omega
      · subst zi
        exact (hu j (by omega) e1.symm e2.symm).elim
    · by_cases zj : j = c
      · subst zj
        exact (hu i (by omega) e1 e2).elim
      · exact T.2 i j (by omega) (by omega) e1 e2
theorem ta_Tr_0 : ta_Tr b 0 kd par nm P := ⟨fun i hi => by omega, fun i j hi => by omega⟩
end
end
section
/-! 04: valid path texts, the place of the last name, finding a path -/
def ta_VP (a : Nat → Int32) (n : Nat) : Prop := ∀ k, k ≤ n → (k = n ∨ a k = 47) → ∃ s, s < k ∧ k ≤ s + 4 ∧ (s = 0 ∨ a (s - 1) = 47) ∧ ∀ j, s ≤ j → j < k → ta_nc (a j)
/-- s is where the component that reaches up to k begins -/
def ta_St (a : Nat → Int32) (s k : Nat) : Prop := s ≤ k ∧ (s = 0 ∨ a (s - 1) = 47) ∧ ∀ j, s ≤ j → j < k → a j ≠ 47
theorem ta_nc_ne {x : Int32} (h : ta_nc x) : x ≠ 47 := fun e => ta_nc_47 (e ▸ h)
theorem ta_VP_at {a : Nat → Int32} {n k s : Nat} (h : ta_VP a n) (hk : k ≤ n) (he : k = n ∨ a k = 47) (hs : ta_St a s k) : s < k ∧ k ≤ s + 4 ∧ ∀ j, s ≤ j → j < k → ta_nc (a j) := by
  obtain ⟨s', h1, h2, h3, h4⟩ := h k hk he
  obtain ⟨g1, g2, g3⟩ := hs
  have e : s' = s := by
    rcases Nat.lt_trichotomy s' s with x | x | x
    · rcases g2 with y | y
      · omega
      · exact absurd y (ta_nc_ne (h4 (s - 1) (by omega) (by omega)))
    · exact x
    · rcases h3 with y | y
      · omega
      · exact absurd y (g3 (s' - 1) (by omega) (by omega))
  subst e
  exact ⟨h1, h2, h4⟩
theorem ta_VP_ch {a : Nat → Int32} {n x : Nat} (h : ta_VP a n) (hx : x < n) (hc : a x ≠ 47) : ta_nc (a x) := by
  obtain ⟨e, ⟨h1, h2, h3⟩, hm⟩ := pk_least (fun e => x ≤ e ∧ e ≤ n ∧ (e = n ∨ a e = 47)) ⟨n, by omega, by omega, Or.inl rfl⟩
  obtain ⟨s, g1, g2, g3, g4⟩ := h e h2 h3
  have hxe : x < e := by
    rcases Nat.lt_or_ge x e with y | y
    · exact y
    · have : e = x := by omega
      subst this
      rcases h3 with z | z
      · omega
      · exact absurd z hc
  refine g4 x ?_ hxe
  rcases Nat.lt_or_ge x s with y | y
  · rcases g3 with z | z
    · omega
    · exact absurd ⟨by omega, by omega, Or.inr z⟩ (hm (s - 1) (by omega))
  · exact y
theorem ta_VP_cg {a b : Nat → Int32} {n : Nat} (e : ∀ j, j < n → a j = b j) (h : ta_VP a n) : ta_VP b n := by
  intro k hk hk2
  have hk3 : k = n ∨ a k = 47 := by
    rcases hk2 with x | x
    · exact Or.inl x
    · rcases Nat.lt_or_ge k n with y | y
      · exact Or.inr (by rw [e k y]; exact x)
      · exact Or.inl (by omega)
  obtain ⟨s, h1, h2, h3, h4⟩ := h k hk hk3
  refine ⟨s, h1, h2, ?_, fun j x y => by rw [← e j (by omega)]; exact h4 j x y⟩
  rcases h3 with x | x
  · exact Or.inl x
  · exact Or.inr (by rw [← e (s - 1) (by omega)]; exact x)
theorem ta_VP_cgI {a b : Nat → Int32} {n : Nat} (e : ∀ j, j < n → a j = b j) : ta_VP a n ↔ ta_VP b n := ⟨ta_VP_cg e, ta_VP_cg (fun j hj => (e j hj).symm)⟩
theorem ta_St_cg {a b : Nat → Int32} {s n : Nat} (e : ∀ j, j < n → a j = b j) (h : ta_St a s n) : ta_St b s n := by
  obtain ⟨h1, h2, h3⟩ := h
  refine ⟨h1, ?_, fun j x y => by rw [← e j y]; exact h3 j x y⟩
  rcases h2 with x | x
  · exact Or.inl x
  · rcases Nat.eq_zero_or_pos s with z | z
    · exact Or.inl z
    · exact Or.inr (by rw [← e (s - 1) (by omega)]; exact x)
theorem ta_St_uniq {a : Nat → Int32} {s s' n : Nat} (h : ta_St a s n) (h' : ta_St a s' n) : s = s' := by
  obtain ⟨h1, h2, h3⟩ := h
  obtain ⟨g1, g2, g3⟩ := h'
  rcases Nat.lt_trichotomy s s' with x | x | x
  · rcases g2 with y | y
    · omega
    · exact absurd y (h3 (s' - 1) (by omega) (by omega))
  · exact x
  · rcases h2 with y | y
    · omega
    · exact absurd y (g3 (s - 1) (by omega) (by omega))
/-- the text up to k, cut ahead of its last component -/
theorem ta_St_sg {a : Nat → Int32} {o s k : Nat} (h1 : s < k) (h : a (o + s) = 47) : ta_sg a o k = ta_sg a o s ++ 47 :: ta_sg a (o + s + 1) (k - s - 1) := by
  rw [ta_sg_cut h1, h]
theorem ta_sg_no {a : Nat → Int32} {o n : Nat} (h : ∀ j, j < n → a (o + j) ≠ 47) : (47 : Int32) ∉ ta_sg a o n := by
  intro z
  obtain ⟨k, hk, e⟩ := ta_sg_mem.mp z
  exact h k hk e
section
variable {b c : Nat} {kd par nm : Nat → Int32} {P : Nat → List Int32}
/-- what stands ahead of the component that begins at s: no node, or the node of that text -/
def ta_At (par nm : Nat → Int32) (P : Nat → List Int32) (c : Nat) (a : Nat → Int32) (o s : Nat) (nd : Int32) : Prop :=
  (s = 0 ∧ nd = -1) ∨ (0 < s ∧ a (o + (s - 1)) = 47 ∧ ∃ q, q < c ∧ nd = nI q ∧ P q = ta_sg a o (s - 1))
/-- a node whose text is the text up to k has the last component's name and hangs below what stands ahead of it -/
theorem ta_At_of (T : ta_Tr b c kd par nm P) (hc : c < 2 ^ 31) {a : Nat → Int32} {o s k j : Nat} {nd : Int32} (h : ta_At par nm P c a o s nd) (hs : s ≤ k) (hn : ∀ i, s ≤ i → i < k → a (o + i) ≠ 47) (hj : j < c) (e : P j = ta_sg a o k) : par (b + j) = nd ∧ ta_t (nm (b + j)) = ta_sg a (o + s) (k - s) := by
  have hno : (47 : Int32) ∉ ta_sg a (o + s) (k - s) := ta_sg_no (fun i hi => by rw [Nat.add_assoc]; exact hn _ (by omega) (by omega))
  rcases h with ⟨rfl, rfl⟩ | ⟨h0, h1, q, hq, rfl, hP⟩
  · exact ta_P_top T hj hno (by rw [e]; simp)
  · have ec : ta_sg a o k = P q ++ 47 :: ta_sg a (o + s) (k - s) := by
      rw [ta_St_sg (s := s - 1) (by omega) h1, hP, show o + (s - 1) + 1 = o + s by omega, show k - (s - 1) - 1 = k - s by omega]
    obtain ⟨q', g1, g2, g3, g4, g5⟩ := ta_P_sub T hj hno (e.trans ec)
    have : q' = q := ta_P_inj T q' q (by omega) hq g4
    subst this
    exact ⟨g2, g5⟩
/-- and a node below it with that name has that text -/
theorem ta_At_to (T : ta_Tr b c kd par nm P) (hc : c < 2 ^ 31) {a : Nat → Int32} {o s k j : Nat} {nd : Int32} (h : ta_At par nm P c a o s nd) (hs : s ≤ k) (hj : j < c) (e1 : par (b + j) = nd) (e2 : ta_t (nm (b + j)) = ta_sg a (o + s) (k - s)) : P j = ta_sg a o k := by
  obtain ⟨_, _, g⟩ := T.1 j hj
  rcases h with ⟨rfl, rfl⟩ | ⟨h0, h1, q, hq, rfl, hP⟩
  · rcases g with ⟨_, g⟩ | ⟨q, hq, g, _, _⟩
    · rw [g, e2]; simp
    · exfalso
      have h0 : ¬ nI q < 0 := nI_pos (by omega)
      rw [← g, e1] at h0
      exact h0 (by decide)
  · have ec : ta_sg a o k = P q ++ 47 :: ta_sg a (o + s) (k - s) := by
      rw [ta_St_sg (s := s - 1) (by omega) h1, hP, show o + (s - 1) + 1 = o + s by omega, show k - (s - 1) - 1 = k - s by omega]
    rcases g with ⟨g, _⟩ | ⟨q', hq', g, _, g2⟩
    · exfalso
      have h0 : ¬ nI q < 0 := nI_pos (by omega)
      rw [← e1, g] at h0
      exact h0 (by decide)
    · have : q' = q := (nI_eq (by omega) (by omega)).mp (g.symm.trans e1)
      subst this
      rw [g2, e2, ec]
end
end
section
/-! 05: bytes, octal digits -/
def ta_by (x : Int32) : Prop := ∃ n, n < 256 ∧ x = nI n
theorem ta_by_nc {x : Int32} (h : ta_nc x) : ta_by x := by
  obtain ⟨n, h1, _, h3⟩ := ta_nc_nat h
  exact ⟨n, by omega, h3⟩
theorem ta_by_n {n : Nat} (h : n < 256) : ta_by (nI n) := ⟨n, h, rfl⟩
theorem ta_wr_by {a : Nat → Int32} {o : Nat} {L : List Int32} (h : ∀ j, ta_by (a j)) (hL : ∀ x, x ∈ L → ta_by x) : ∀ j, ta_by (ta_wr a o L j) := by
  intro j
  unfold ta_wr
  by_cases z : o ≤ j ∧ j < o + L.length
  · rw [if_pos z, List.getD_eq_getElem?_getD, List.getElem?_eq_getElem (by omega)]
    exact hL _ (List.getElem_mem _)
  · rw [if_neg z]; exact h j
theorem ta_upd_by {a : Nat → Int32} {o : Nat} {x : Int32} (h : ∀ j, ta_by (a j)) (hx : ta_by x) : ∀ j, ta_by (upd a o x j) := by
  intro j
  by_cases z : j = o
  · rw [z, pk_us]; exact hx
  · rw [pk_un z]; exact h j
def ta_sr (v : Int32) : Int32 := (v.toUInt32 >>> ((3 : Int32).toUInt32 &&& Int32.toUInt32 31)).toInt32
def ta_ol : Nat → Int32 → List Int32
  | 0, _ => []
  | d + 1, v => ta_ol d (ta_sr v) ++ [48 + (v &&& 7)]
theorem ta_ol_len : ∀ d v, (ta_ol d v).length = d := by
  intro d
  induction d with
  | zero => intro v; rfl
  | succ d ih => intro v; show (ta_ol d (ta_sr v) ++ [48 + (v &&& 7)]).length = d + 1; rw [List.length_append, ih]; rfl
theorem ta_ol_by : ∀ d v x, x ∈ ta_ol d v → ta_by x := by
  intro d
  induction d with
  | zero => intro v x h; exact absurd h (by simp [ta_ol])
  | succ d ih =>
    intro v x h
    have h : x ∈ ta_ol d (ta_sr v) ++ [48 + (v &&& 7)] := h
    rw [List.mem_append] at h
    rcases h with h | h
    · exact ih _ _ h
    · have e : x = 48 + (v &&& 7) := by simpa using h
      obtain ⟨j, hj, f⟩ := pk_andE v (m := 7) 3 (by decide)
      rw [e, f, show (48 : Int32) = nI 48 from rfl, nI_add]
      exact ta_by_n (by omega)
/-- the digits are written from the last to the first -/
theorem ta_ol_wr (a : Nat → Int32) (o d : Nat) (v : Int32) : ta_wr (upd a (o + d) (48 + (v &&& 7))) o (ta_ol d (ta_sr v)) = ta_wr a o (ta_ol (d + 1) v) := by
  show _ = ta_wr a o (ta_ol d (ta_sr v) ++ [48 + (v &&& 7)])
  rw [ta_wr_1, ta_wr_comm _ (Or.inr (by rw [ta_ol_len]; omega)), ← ta_wr_app, ta_ol_len]
/-- an upd apart from a write -/
theorem ta_wr_upd (a : Nat → Int32) {o p : Nat} {L : List Int32} {x : Int32} (h : o + L.length ≤ p ∨ p < o) : upd (ta_wr a o L) p x = ta_wr (upd a p x) o L := by
  rw [ta_wr_1, ta_wr_1]
  exact ta_wr_comm _ (by simp only [List.length_cons, List.length_nil]; omega)
end
section
/-! 06: what create writes -/
def ta_fs (a : Nat → Int32) : Nat → Nat → Int32
  | _, 0 => -2
  | s, m + 1 => if a s = 47 then nI s else ta_fs a (s + 1) m
/-- where a path splits: -1 none, -2 can't, or the slash's place -/
def ta_sp (L : List Int32) : Int32 := if L.length ≤ 12 then -1 else ta_fs (fun k => L.getD k 0) (L.length - 13) (24 - L.length)
theorem ta_fs_spec (a : Nat → Int32) : ∀ m s, ta_fs a s m = -2 ∨ ∃ r, s ≤ r ∧ r < s + m ∧ a r = 47 ∧ ta_fs a s m = nI r := by
  intro m
  induction m with
  | zero => intro s; exact Or.inl rfl
  | succ m ih =>
    intro s
    by_cases z : a s = 47
    · exact Or.inr ⟨s, by omega, by omega, z, if_pos z⟩
    · have e : ta_fs a s (m + 1) = ta_fs a (s + 1) m := if_neg z
      rw [e]
      rcases ih (s + 1) with h | ⟨r, h1, h2, h3, h4⟩
      · exact Or.inl h
      · exact Or.inr ⟨r, by omega, by omega, h3, h4⟩
theorem ta_fs_cg {a b : Nat → Int32} : ∀ m s, (∀ j, s ≤ j → j < s + m → a j = b j) → ta_fs a s m = ta_fs b s m := by
  intro m
  induction m with
  | zero => intro s _; rfl
  | succ m ih =>
    intro s h
    show (if a s = 47 then nI s else ta_fs a (s + 1) m) = (if b s = 47 then nI s else ta_fs b (s + 1) m)
    rw [h s (by omega) (by omega), ih (s + 1) (fun j h1 h2 => h j (by omega) (by omega))]
theorem ta_sp_spec (L : List Int32) : (L.length ≤ 12 ∧ ta_sp L = -1) ∨ (12 < L.length ∧ ta_sp L = -2) ∨ (∃ s, s ≤ 10 ∧ 12 < L.length ∧ L.length ≤ s + 13 ∧ s < L.length ∧ L.getD s 0 = 47 ∧ ta_sp L = nI s) := by
  unfold ta_sp
  by_cases h : L.length ≤ 12
  · exact Or.inl ⟨h, if_pos h⟩
  · rw [if_neg h]
    rcases ta_fs_spec (fun k => L.getD k 0) (24 - L.length) (L.length - 13) with x | ⟨r, h1, h2, h3, h4⟩
    · exact Or.inr (Or.inl ⟨by omega, x⟩)
    · exact Or.inr (Or.inr ⟨r, by omega, by omega, by omega, by omega, h3, h4⟩)
/-- where the name begins: behind the slash, or at 0 -/
def ta_nb (L : List Int32) : Nat := (ta_sp L + 1).toNatClampNeg
theorem ta_nb_spec {L : List Int32} (h : ta_sp L ≠ -2) : (L.length ≤ 12 ∧ ta_sp L = -1 ∧ ta_nb L = 0) ∨ (∃ s, s ≤ 10 ∧ 12 < L.length ∧ L.length ≤ s + 13 ∧ s < L.length ∧ L.getD s 0 = 47 ∧ ta_sp L = nI s ∧ ta_nb L = s + 1) := by
  rcases ta_sp_spec L with ⟨a, b⟩ | ⟨a, b⟩ | ⟨s, h1, h2, h3, h4, h5, h6⟩
  · refine Or.inl ⟨a, b, ?_⟩
    unfold ta_nb
    rw [b]; decide
  · exact absurd b h
  · refine Or.inr ⟨s, h1, h2, h3, h4, h5, h6, ?_⟩
    unfold ta_nb
    rw [h6, nI_1]
    exact nI_clamp (by omega)
/-- the sum of a block's first n bytes -/
def ta_cs (a : Nat → Int32) (o : Nat) : Nat → Int32
  | 0 => 0
  | n + 1 => ta_cs a o n + (if 20 ≤ n ∧ n < 26 then 32 else a (o + n))
theorem ta_cs_by {a : Nat → Int32} {o : Nat} (h : ∀ j, ta_by (a j)) : ∀ n, n ≤ 64 → ∃ m, m ≤ 255 * n ∧ ta_cs a o n = nI m := by
  intro n
  induction n with
  | zero => intro _; exact ⟨0, by omega, rfl⟩
  | succ n ih =>
    intro hn
    obtain ⟨m, h1, h2⟩ := ih (by omega)
    by_cases z : 20 ≤ n ∧ n < 26
    · refine ⟨m + 32, by omega, ?_⟩
      show ta_cs a o n + (if 20 ≤ n ∧ n < 26 then 32 else a (o + n)) = _
      rw [if_pos z, h2, show (32 : Int32) = nI 32 from rfl, nI_add]
    · obtain ⟨q, h3, h4⟩ := h (o + n)
      refine ⟨m + q, by omega, ?_⟩
      show ta_cs a o n + (if 20 ≤ n ∧ n < 26 then 32 else a (o + n)) = _
      rw [if_neg z, h2, h4, nI_add]
def ta_mg : List Int32 := [117, 115, 116, 97, 114, 0, 48, 48]
def ta_ty (k : Int32) : Int32 := if k = 3 then 53 else if k = 2 then 49 else 48
/-- a header ahead of its checksum, written at o: the path L, the linkname K, mode, size, type -/
def ta_h0 (a : Nat → Int32) (o : Nat) (L K : List Int32) (md sz ty : Int32) : Nat → Int32 :=
  ta_wr (ta_wr (ta_wr (ta_wr (ta_wr (ta_wr (ta_wr a (o + 47) (L.take (ta_nb L - 1))) o (L.drop (ta_nb L))) (o + 27) K) (o + 12) (ta_ol 3 md)) (o + 16) (ta_ol 3 sz)) (o + 26) [ty]) (o + 39) ta_mg
def ta_h (a : Nat → Int32) (o : Nat) (L K : List Int32) (md sz ty : Int32) : Nat → Int32 :=
  ta_wr (ta_h0 a o L K md sz ty) (o + 20) (ta_ol 5 (ta_cs (ta_h0 a o L K md sz ty) o 64))
theorem ta_h_out {a : Nat → Int32} {o : Nat} {L K : List Int32} {md sz ty : Int32} (hL : ta_sp L ≠ -2) (hK : K.length ≤ 12) {j : Nat} (hj : j < o ∨ o + 64 ≤ j) : ta_h a o L K md sz ty j = a j := by
  have h1 : (L.take (ta_nb L - 1)).length ≤ 10 := by
    rw [List.length_take]
    rcases ta_nb_spec hL with ⟨_, _, h⟩ | ⟨s, h0, _, _, _, _, _, h⟩ <;> rw [h] <;> omega
  have h2 : (L.drop (ta_nb L)).length ≤ 12 := by
    rw [List.length_drop]
    rcases ta_nb_spec hL with ⟨_, _, h⟩ | ⟨s, h0, _, _, _, _, _, h⟩ <;> rw [h] <;> omega
  unfold ta_h ta_h0
  rw [ta_wr_out (by rw [ta_ol_len]; omega), ta_wr_out (by simp only [ta_mg, List.length_cons, List.length_nil]; omega), ta_wr_out (by simp only [List.length_cons, List.length_nil]; omega), ta_wr_out (by rw [ta_ol_len]; omega), ta_wr_out (by rw [ta_ol_len]; omega), ta_wr_out (by omega), ta_wr_out (by omega), ta_wr_out (by omega)]
theorem ta_h_by {a : Nat → Int32} {o : Nat} {L K : List Int32} {md sz ty : Int32} (h : ∀ j, ta_by (a j)) (hL : ∀ x, x ∈ L → ta_by x) (hK : ∀ x, x ∈ K → ta_by x) (ht : ta_by ty) : ∀ j, ta_by (ta_h a o L K md sz ty j) := by
  unfold ta_h ta_h0
  refine ta_wr_by (ta_wr_by (ta_wr_by (ta_wr_by (ta_wr_by (ta_wr_by (ta_wr_by (ta_wr_by h ?_) ?_) hK) (ta_ol_by _ _)) (ta_ol_by _ _)) ?_) ?_) (ta_ol_by _ _)
  · exact fun x hx => hL x (List.mem_of_mem_take hx)
  · exact fun x hx => hL x (List.mem_of_mem_drop hx)
  · intro x hx
    rw [List.mem_singleton.mp hx]
    exact ht
  · intro x hx
    simp only [ta_mg, List.mem_cons, List.not_mem_nil, or_false] at hx
    rcases hx with h | h | h | h | h | h | h | h <;> rw [h]
    · exact ta_by_n (n := 117) (by omega)
    · exact ta_by_n (n := 115) (by omega)
    · exact ta_by_n (n := 116) (by omega)
    · exact ta_by_n (n := 97) (by omega)
    · exact ta_by_n (n := 114) (by omega)
    · exact ta_by_n (n := 0) (by omega)
    · exact ta_by_n (n := 48) (by omega)
    · exact ta_by_n (n := 48) (by omega)
theorem ta_ty_by (k : Int32) : ta_by (ta_ty k) := by
  unfold ta_ty
  by_cases h : k = 3
  · rw [if_pos h]; exact ta_by_n (n := 53) (by omega)
  · rw [if_neg h]
    by_cases h2 : k = 2
    · rw [if_pos h2]; exact ta_by_n (n := 49) (by omega)
    · rw [if_neg h2]; exact ta_by_n (n := 48) (by omega)
def ta_n (x : Int32) : Nat := x.toNatClampNeg
/-- how many of the first i nodes have content -/
def ta_fc (sz : Nat → Int32) : Nat → Nat
  | 0 => 0
  | i + 1 => ta_fc sz i + (if 0 < ta_n (sz i) then 1 else 0)
theorem ta_fc_le (sz : Nat → Int32) : ∀ i, ta_fc sz i ≤ i := by
  intro i
  induction i with
  | zero => exact Nat.le_refl _
  | succ i ih =>
    show ta_fc sz i + (if 0 < ta_n (sz i) then 1 else 0) ≤ i + 1
    split <;> omega
theorem ta_fc_mono (sz : Nat → Int32) {i n : Nat} (h : i ≤ n) : ta_fc sz i ≤ ta_fc sz n := by
  induction n with
  | zero => rw [show i = 0 by omega]; exact Nat.le_refl _
  | succ n ih =>
    rcases Nat.lt_or_ge i (n + 1) with z | z
    · have := ih (by omega)
      show _ ≤ ta_fc sz n + (if 0 < ta_n (sz n) then 1 else 0)
      omega
    · rw [show i = n + 1 by omega]; exact Nat.le_refl _
def ta_lk (kd tg : Nat → Int32) (P : Nat → List Int32) (i : Nat) : List Int32 := if kd i = 2 then P (ta_n (tg i)) else []
def ta_of (sz : Nat → Int32) (i : Nat) : Nat := 64 * (i + ta_fc sz i)
/-- the archive after the first i nodes -/
def ta_cr (kd md sz tg dat : Nat → Int32) (P : Nat → List Int32) (z : Nat → Int32) : Nat → (Nat → Int32)
  | 0 => z
  | i + 1 => if 0 < ta_n (sz i) then ta_wr (ta_h (ta_cr kd md sz tg dat P z i) (ta_of sz i) (P i) (ta_lk kd tg P i) (md i) (sz i) (ta_ty (kd i))) (ta_of sz i + 64) (ta_sg dat (32 * i) (ta_n (sz i)))
    else ta_h (ta_cr kd md sz tg dat P z i) (ta_of sz i) (P i) (ta_lk kd tg P i) (md i) (sz i) (ta_ty (kd i))
def ta_ft (kd tg : Nat → Int32) (P : Nat → List Int32) (i : Nat) : Prop := ta_sp (P i) ≠ -2 ∧ (kd i = 2 → (P (ta_n (tg i))).length ≤ 12)
theorem ta_ft_lk {kd tg : Nat → Int32} {P : Nat → List Int32} {i : Nat} (h : ta_ft kd tg P i) : (ta_lk kd tg P i).length ≤ 12 := by
  unfold ta_lk
  by_cases z : kd i = 2
  · rw [if_pos z]; exact h.2 z
  · rw [if_neg z]; exact Nat.zero_le _
theorem ta_cr_out {kd md sz tg dat : Nat → Int32} {P : Nat → List Int32} {z : Nat → Int32} : ∀ i, (∀ k, k < i → ta_ft kd tg P k ∧ ta_n (sz k) ≤ 32) → ∀ j, ta_of sz i ≤ j → ta_cr kd md sz tg dat P z i j = z j := by
  intro i
  induction i with
  | zero => intro _ j _; rfl
  | succ i ih =>
    intro h j hj
    have hf := h i (by omega)
    have e : ta_of sz (i + 1) = 64 * (i + 1 + (ta_fc sz i + (if 0 < ta_n (sz i) then 1 else 0))) := rfl
    have e' : ta_of sz i = 64 * (i + ta_fc sz i) := rfl
    rw [e] at hj
    show (if 0 < ta_n (sz i) then ta_wr (ta_h (ta_cr kd md sz tg dat P z i) (ta_of sz i) (P i) (ta_lk kd tg P i) (md i) (sz i) (ta_ty (kd i))) (ta_of sz i + 64) (ta_sg dat (32 * i) (ta_n (sz i)))
    else ta_h (ta_cr kd md sz tg dat P z i) (ta_of sz i) (P i) (ta_lk kd tg P i) (md i) (sz i) (ta_ty (kd i))) j = z j
    by_cases w : 0 < ta_n (sz i)
    · rw [if_pos w] at hj
      rw [if_pos w, ta_wr_out (by rw [ta_sg_len]; omega), ta_h_out hf.1.1 (ta_ft_lk hf.1) (by omega)]
      exact ih (fun k hk => h k (by omega)) j (by omega)
    · rw [if_neg w] at hj
      rw [if_neg w, ta_h_out hf.1.1 (ta_ft_lk hf.1) (by omega)]
      exact ih (fun k hk => h k (by omega)) j (by omega)
theorem ta_cr_by {kd md sz tg dat : Nat → Int32} {P : Nat → List Int32} {z : Nat → Int32} (hz : ∀ j, ta_by (z j)) (hd : ∀ j, ta_by (dat j)) (hP : ∀ i x, x ∈ P i → ta_by x) : ∀ i j, ta_by (ta_cr kd md sz tg dat P z i j) := by
  intro i
  induction i with
  | zero => exact hz
  | succ i ih =>
    have h1 : ∀ j, ta_by (ta_h (ta_cr kd md sz tg dat P z i) (ta_of sz i) (P i) (ta_lk kd tg P i) (md i) (sz i) (ta_ty (kd i)) j) := by
      refine ta_h_by ih (hP i) ?_ (ta_ty_by _)
      intro x hx
      unfold ta_lk at hx
      by_cases w : kd i = 2
      · rw [if_pos w] at hx; exact hP _ x hx
      · rw [if_neg w] at hx; exact absurd hx (List.not_mem_nil)
    intro j
    show ta_by ((if 0 < ta_n (sz i) then ta_wr (ta_h (ta_cr kd md sz tg dat P z i) (ta_of sz i) (P i) (ta_lk kd tg P i) (md i) (sz i) (ta_ty (kd i))) (ta_of sz i + 64) (ta_sg dat (32 * i) (ta_n (sz i)))
    else ta_h (ta_cr kd md sz tg dat P z i) (ta_of sz i) (P i) (ta_lk kd tg P i) (md i) (sz i) (ta_ty (kd i))) j)
    by_cases w : 0 < ta_n (sz i)
    · rw [if_pos w]
      refine ta_wr_by h1 ?_ j
      intro x hx
      obtain ⟨k, _, e⟩ := ta_sg_mem.mp hx
      rw [← e]; exact hd _
    · rw [if_neg w]; exact h1 j
end
section
/-! 07: what extract looks at -/
def ta_z (a : Nat → Int32) (o n : Nat) : Prop := ∀ k, k < n → a (o + k) = 0
def ta_od (a : Nat → Int32) (o d : Nat) : Prop := ∀ k, k < d → 48 ≤ a (o + k) ∧ a (o + k) ≤ 55
def ta_ok (a : Nat → Int32) (o d : Nat) : Prop := ta_od a o d ∧ a (o + d) = 0
def ta_ov (a : Nat → Int32) (o : Nat) : Nat → Nat
  | 0 => 0
  | d + 1 => ta_ov a o d * 8 + (ta_n (a (o + d)) - 48)
theorem ta_dg {x : Int32} (h : 48 ≤ x ∧ x ≤ 55) : ∃ m, m < 8 ∧ x = nI (48 + m) ∧ ta_n x = 48 + m := by
  have h0 : ¬ x < 0 := Int32.not_lt.mpr (Int32.le_trans (by decide) h.1)
  obtain ⟨j, hj, rfl⟩ := nI_of h0
  have a := (nI_leI (a := 48) (by decide) hj).mp h.1
  have b := (nI_leI (b := 55) hj (by decide)).mp h.2
  refine ⟨j - 48, by omega, by rw [show 48 + (j - 48) = j by omega], ?_⟩
  unfold ta_n
  rw [nI_clamp hj]
  omega
theorem ta_ov_lt {a : Nat → Int32} {o : Nat} : ∀ d, ta_od a o d → ta_ov a o d < 8 ^ d := by
  intro d
  induction d with
  | zero => intro _; exact Nat.zero_lt_one
  | succ d ih =>
    intro h
    have := ih (fun k hk => h k (by omega))
    obtain ⟨m, h1, _, h3⟩ := ta_dg (h d (by omega))
    show ta_ov a o d * 8 + (ta_n (a (o + d)) - 48) < 8 ^ (d + 1)
    rw [h3, Nat.pow_succ]
    omega
/-- the length of a field's text -/
def ta_tl (a : Nat → Int32) : Nat → Nat → Nat
  | _, 0 => 0
  | o, n + 1 => if a o = 0 then 0 else ta_tl a (o + 1) n + 1
theorem ta_tl_spec (a : Nat → Int32) : ∀ n o, ta_tl a o n ≤ n ∧ (∀ k, k < ta_tl a o n → a (o + k) ≠ 0) ∧ (ta_tl a o n < n → a (o + ta_tl a o n) = 0) := by
  intro n
  induction n with
  | zero => intro o; exact ⟨Nat.le_refl _, fun k hk => absurd hk (Nat.not_lt_zero k), fun h => absurd h (Nat.not_lt_zero _)⟩
  | succ n ih =>
    intro o
    by_cases z : a o = 0
    · have e : ta_tl a o (n + 1) = 0 := if_pos z
      rw [e]
      exact ⟨by omega, fun k hk => absurd hk (Nat.not_lt_zero k), fun _ => z⟩
    · have e : ta_tl a o (n + 1) = ta_tl a (o + 1) n + 1 := if_neg z
      rw [e]
      obtain ⟨h1, h2, h3⟩ := ih (o + 1)
      refine ⟨by omega, fun k hk => ?_, fun h => ?_⟩
      · rcases Nat.eq_zero_or_pos k with y | y
        · rw [y]; exact z
        · have := h2 (k - 1) (by omega)
          rwa [show o + 1 + (k - 1) = o + k by omega] at this
      · have := h3 (by omega)
        rwa [show o + 1 + ta_tl a (o + 1) n = o + (ta_tl a (o + 1) n + 1) by omega] at this
theorem ta_tl_uniq {a : Nat → Int32} {o n m : Nat} (h1 : m ≤ n) (h2 : ∀ k, k < m → a (o + k) ≠ 0) (h3 : m < n → a (o + m) = 0) : m = ta_tl a o n := by
  obtain ⟨g1, g2, g3⟩ := ta_tl_spec a n o
  rcases Nat.lt_trichotomy m (ta_tl a o n) with x | x | x
  · exact absurd (h3 (by omega)) (g2 m x)
  · exact x
  · exact absurd (g3 (by omega)) (h2 _ x)
def ta_wf (a : Nat → Int32) (o n : Nat) : Prop := ta_z a (o + ta_tl a o n) (n - ta_tl a o n)
theorem ta_wf_iff {a : Nat → Int32} {o n : Nat} : ta_wf a o n ↔ ∀ i j, i < j → j < n → a (o + i) = 0 → a (o + j) = 0 := by
  obtain ⟨g1, g2, g3⟩ := ta_tl_spec a n o
  constructor
  · intro h i j hij hj hi
    have hi2 : ta_tl a o n ≤ i := by
      rcases Nat.lt_or_ge i (ta_tl a o n) with x | x
      · exact absurd hi (g2 i x)
      · exact x
    have := h (j - ta_tl a o n) (by omega)
    rwa [show o + ta_tl a o n + (j - ta_tl a o n) = o + j by omega] at this
  · intro h k hk
    have hz := g3 (by omega)
    rcases Nat.eq_zero_or_pos k with x | x
    · rw [x]; exact hz
    · have := h (ta_tl a o n) (ta_tl a o n + k) (by omega) (by omega) hz
      rwa [← Nat.add_assoc] at this
/-- the path of a header -/
def ta_T (a : Nat → Int32) (o : Nat) : List Int32 :=
  if ta_tl a (o + 47) 10 = 0 then ta_sg a o (ta_tl a o 12) else ta_sg a (o + 47) (ta_tl a (o + 47) 10) ++ 47 :: ta_sg a o (ta_tl a o 12)
theorem ta_T_len (a : Nat → Int32) (o : Nat) : (ta_T a o).length ≤ 23 := by
  have h1 := (ta_tl_spec a 12 o).1
  have h2 := (ta_tl_spec a 10 (o + 47)).1
  unfold ta_T
  split
  · rw [ta_sg_len]; omega
  · rw [List.length_append, List.length_cons, ta_sg_len, ta_sg_len]; omega
def ta_g (T : List Int32) : Nat → Int32 := fun k => T.getD k 0
def ta_vp (T : List Int32) : Prop := ta_VP (ta_g T) T.length ∧ T.count 47 ≤ 5
theorem ta_g_wr {a : Nat → Int32} {T : List Int32} {k : Nat} (h : k < T.length) : ta_wr a 0 T k = ta_g T k := by
  have := ta_wr_in (a := a) (o := 0) h
  rwa [Nat.zero_add] at this
theorem ta_g_sg (T : List Int32) : ta_sg (ta_g T) 0 T.length = T := by
  have := ta_wr_sg (fun _ => 0) 0 T
  rw [← this]
  conv => lhs; rw [this]
  apply ta_sg_congr
  intro k hk
  rw [Nat.zero_add]
  exact (ta_g_wr hk).symm
theorem ta_take_sg (a : Nat → Int32) (o : Nat) {k n : Nat} (h : k ≤ n) : (ta_sg a o n).take k = ta_sg a o k := by
  obtain ⟨d, rfl⟩ : ∃ d, n = k + d := ⟨n - k, by omega⟩
  rw [ta_sg_app, List.take_append_of_le_length (by rw [ta_sg_len]; omega), List.take_of_length_le (by rw [ta_sg_len]; omega)]
theorem ta_drop_sg (a : Nat → Int32) (o : Nat) {k n : Nat} (h : k ≤ n) : (ta_sg a o n).drop k = ta_sg a (o + k) (n - k) := by
  obtain ⟨d, rfl⟩ : ∃ d, n = k + d := ⟨n - k, by omega⟩
  rw [ta_sg_app, List.drop_append_of_le_length (by rw [ta_sg_len]; omega), List.drop_eq_nil_of_le (by rw [ta_sg_len]; omega), show k + d - k = d by omega]
  rfl
def ta_Ck (a : Nat → Int32) (o : Nat) : Prop := ta_ok a (o + 20) 5 ∧ nI (ta_ov a (o + 20) 5) = ta_cs a o 64
def ta_Mg (a : Nat → Int32) (o : Nat) : Prop := ∀ k, k < 8 → a (o + 39 + k) = ta_mg.getD k 0
def ta_Ty (a : Nat → Int32) (o : Nat) : Prop := a (o + 26) = 48 ∨ a (o + 26) = 49 ∨ a (o + 26) = 53
def ta_Fl (a : Nat → Int32) (o : Nat) : Prop := ta_ok a (o + 12) 3 ∧ ta_ok a (o + 16) 3 ∧ ta_z a (o + 57) 7
def ta_Sz (a : Nat → Int32) (o : Nat) : Prop := a (o + 26) ≠ 48 → ta_ov a (o + 16) 3 = 0
/-- what is wrong with a header by itself -/
def ta_HF (a : Nat → Int32) (o : Nat) (r : Int32) : Prop :=
  (¬ ta_Ck a o ∧ r = -15) ∨ (ta_Ck a o ∧ ¬ ta_Mg a o ∧ r = -16) ∨ (ta_Ck a o ∧ ta_Mg a o ∧ ¬ ta_Ty a o ∧ r = -17) ∨
  (ta_Ck a o ∧ ta_Mg a o ∧ ta_Ty a o ∧ ¬ (ta_Fl a o ∧ ta_Sz a o) ∧ r = -18) ∨
  (ta_Ck a o ∧ ta_Mg a o ∧ ta_Ty a o ∧ ta_Fl a o ∧ ta_Sz a o ∧ ¬ ta_ov a (o + 16) 3 ≤ 32 ∧ r = -19) ∨
  (ta_Ck a o ∧ ta_Mg a o ∧ ta_Ty a o ∧ ta_Fl a o ∧ ta_Sz a o ∧ ta_ov a (o + 16) 3 ≤ 32 ∧ r = 0)
def ta_Nm (a : Nat → Int32) (o : Nat) : Prop := ta_wf a o 12 ∧ ta_wf a (o + 47) 10 ∧ ta_vp (ta_T a o)
/-- nd is the parent of a path whose last name begins at s -/
def ta_Pa (c : Nat) (kd : Nat → Int32) (P : Nat → List Int32) (T : List Int32) (s : Nat) (nd : Int32) : Prop :=
  (s = 0 ∧ nd = -1) ∨ (0 < s ∧ ∃ q, q < c ∧ P q = T.take (s - 1) ∧ kd (8 + q) = 3 ∧ nd = nI q)
/-- t is the target of a header -/
def ta_Lk (a : Nat → Int32) (o c : Nat) (kd tg : Nat → Int32) (P : Nat → List Int32) (t : Int32) : Prop :=
  (a (o + 26) ≠ 49 ∧ ta_z a (o + 27) 12 ∧ t = -1) ∨
  (a (o + 26) = 49 ∧ ta_wf a (o + 27) 12 ∧ ∃ j, j < c ∧ P j = ta_sg a (o + 27) (ta_tl a (o + 27) 12) ∧ kd (8 + j) ≠ 3 ∧ t = if kd (8 + j) = 2 then tg (8 + j) else nI j)
/-- what keeps a header out of the tree; if nothing does: the parent, the name, the target -/
def ta_EF (a : Nat → Int32) (o mn c : Nat) (kd tg : Nat → Int32) (P : Nat → List Int32) (r nd nv t : Int32) : Prop :=
  (¬ ta_Nm a o ∧ r = -5) ∨ (ta_Nm a o ∧ c = mn ∧ r = -20) ∨
  (ta_Nm a o ∧ c ≠ mn ∧ ∃ s, ta_St (ta_g (ta_T a o)) s (ta_T a o).length ∧ (((∀ x, ¬ ta_Pa c kd P (ta_T a o) s x) ∧ r = -6) ∨
    (ta_Pa c kd P (ta_T a o) s nd ∧ (((∃ j, j < c ∧ P j = ta_T a o) ∧ r = -8) ∨ ((¬ ∃ j, j < c ∧ P j = ta_T a o) ∧
      nv = ta_pk (ta_g (ta_T a o)) s ((ta_T a o).length - s) ∧ (((∀ x, ¬ ta_Lk a o c kd tg P x) ∧ r = -10) ∨ (ta_Lk a o c kd tg P t ∧ r = 0)))))))
end
section
/-! 08: a new entry of the extracted tree -/
section
variable {b c : Nat} {kd par nm : Nat → Int32} {P : Nat → List Int32}
theorem ta_vp_last {T : List Int32} {s : Nat} (hv : ta_vp T) (hs : ta_St (ta_g T) s T.length) : s < T.length ∧ T.length ≤ s + 4 ∧ ∀ i, i < T.length - s → ta_nc (ta_g T (s + i)) := by
  obtain ⟨h1, h2, h3⟩ := ta_VP_at hv.1 (Nat.le_refl _) (Or.inl rfl) hs
  exact ⟨h1, h2, fun i hi => h3 (s + i) (by omega) (by omega)⟩
theorem ta_vp_name {T : List Int32} {s : Nat} (hv : ta_vp T) (hs : ta_St (ta_g T) s T.length) : ta_V (ta_pk (ta_g T) s (T.length - s)) ∧ ta_t (ta_pk (ta_g T) s (T.length - s)) = ta_sg (ta_g T) s (T.length - s) := by
  obtain ⟨h1, h2, h3⟩ := ta_vp_last hv hs
  exact ta_pk_V (by omega) (by omega) h3
theorem ta_Pa_At {T : List Int32} {s : Nat} {nd : Int32} (h : ta_Pa c kd P T s nd) (hs : ta_St (ta_g T) s T.length) : ta_At par nm P c (ta_g T) 0 s nd := by
  rcases h with h | ⟨h0, q, hq, h1, h2, h3⟩
  · exact Or.inl h
  · refine Or.inr ⟨h0, ?_, q, hq, h3, ?_⟩
    · rw [Nat.zero_add]
      rcases hs.2.1 with z | z
      · omega
      · exact z
    · rw [h1]
      conv => lhs; rw [← ta_g_sg T]
      exact ta_take_sg _ _ (by have := hs.1; omega)
theorem ta_dup (H : ta_Tr 8 c kd par nm P) (hc : c < 2 ^ 31) {T : List Int32} {s : Nat} {nd : Int32} (h : ta_Pa c kd P T s nd) (hs : ta_St (ta_g T) s T.length) (hv : ta_vp T) :
    (∃ j, j < c ∧ P j = T) ↔ (∃ j, j < c ∧ par (8 + j) = nd ∧ nm (8 + j) = ta_pk (ta_g T) s (T.length - s)) := by
  have A : ta_At par nm P c (ta_g T) 0 s nd := ta_Pa_At h hs
  have N := ta_vp_name hv hs
  constructor
  · rintro ⟨j, hj, e⟩
    obtain ⟨x, y⟩ := ta_At_of H hc (k := T.length) A hs.1 (fun i h1 h2 => by rw [Nat.zero_add]; exact hs.2.2 i h1 h2) hj (by rw [e, ta_g_sg])
    refine ⟨j, hj, x, ta_t_inj (H.1 j hj).1 N.1 ?_⟩
    rw [y, N.2, Nat.zero_add]
  · rintro ⟨j, hj, e1, e2⟩
    refine ⟨j, hj, ?_⟩
    rw [ta_At_to H hc (k := T.length) A hs.1 hj e1 (by rw [e2, N.2, Nat.zero_add]), ta_g_sg]
theorem ta_ext_add (H : ta_Tr 8 c kd par nm P) (hc : c < 2 ^ 31) {T : List Int32} {s : Nat} {nd : Int32} (h : ta_Pa c kd P T s nd) (hs : ta_St (ta_g T) s T.length) (hv : ta_vp T)
    (hd : ¬ ∃ j, j < c ∧ P j = T) (e1 : par (8 + c) = nd) (e2 : nm (8 + c) = ta_pk (ta_g T) s (T.length - s)) : ta_Tr 8 (c + 1) kd par nm (fun i => if i = c then T else P i) := by
  have N := ta_vp_name hv hs
  refine ta_Tr_add H (by rw [e2]; exact N.1) hv.2 ?_ ?_
  · rw [e1, e2, N.2]
    rcases h with ⟨h0, h1⟩ | ⟨h0, q, hq, h1, h2, h3⟩
    · refine Or.inl ⟨h1, ?_⟩
      rw [h0, Nat.sub_zero, ta_g_sg]
    · refine Or.inr ⟨q, hq, h3, h2, ?_⟩
      have hs1 := hs.1
      have hl := (ta_vp_last hv hs).1
      have h47 : ta_g T (0 + (s - 1)) = 47 := by
        rw [Nat.zero_add]
        rcases hs.2.1 with z | z
        · omega
        · exact z
      have hc := ta_St_sg (a := ta_g T) (o := 0) (s := s - 1) (k := T.length) (by omega) h47
      rw [ta_g_sg, show 0 + (s - 1) + 1 = s by omega, show T.length - (s - 1) - 1 = T.length - s by omega] at hc
      rw [h1]
      have ht : T.take (s - 1) = ta_sg (ta_g T) 0 (s - 1) := by
        conv => lhs; rw [← ta_g_sg T]
        exact ta_take_sg _ _ (by omega)
      rw [ht]
      exact hc
  · intro i hi f1 f2
    exact hd ((ta_dup H hc h hs hv).mpr ⟨i, hi, f1.trans e1, f2.trans e2⟩)
/-- what the walk by components answers -/
def ta_Fd (c : Nat) (P : Nat → List Int32) (T : List Int32) (r : Int32) : Prop := (∃ j, j < c ∧ P j = T ∧ r = nI j) ∨ ((∀ j, j < c → P j ≠ T) ∧ r = -2)
/-- a component that no child bears: nobody has the text -/
theorem ta_Fd_no (H : ta_Tr b c kd par nm P) (hc : c < 2 ^ 31) {a : Nat → Int32} {o s k n : Nat} {nd : Int32} (h : ta_At par nm P c a o s nd) (hs : s ≤ k) (hk : k ≤ n) (hn : ∀ i, s ≤ i → i < k → a (o + i) ≠ 47) (he : k = n ∨ a (o + k) = 47)
    (hx : ∀ j, j < c → par (b + j) = nd → ta_t (nm (b + j)) = ta_sg a (o + s) (k - s) → False) : ∀ j, j < c → P j ≠ ta_sg a o n := by
  intro j hj e
  have : ∃ q, q < c ∧ P q = ta_sg a o k := by
    rcases Nat.lt_or_ge k n with z | z
    · rcases he with y | y
      · omega
      · rw [ta_St_sg z y] at e
        obtain ⟨q, hq, f⟩ := ta_P_anc H j hj _ _ e
        exact ⟨q, by omega, f⟩
    · rw [show n = k by omega] at e
      exact ⟨j, hj, e⟩
  obtain ⟨q, hq, f⟩ := this
  obtain ⟨x, y⟩ := ta_At_of H hc h hs hn hq f
  exact hx q hq x y
end
def ta_Nx (b : Nat) (kd sz tg : Nat → Int32) (i : Nat) : Prop :=
  (kd (b + i) = 1 ∨ kd (b + i) = 2 ∨ kd (b + i) = 3) ∧ (kd (b + i) = 2 → ∃ q, q < i ∧ tg (b + i) = nI q ∧ kd (b + q) = 1) ∧ (∃ s, s ≤ 32 ∧ sz (b + i) = nI s) ∧ (kd (b + i) ≠ 1 → sz (b + i) = 0)
theorem ta_Nx_cg {b c : Nat} {kd sz tg kd' sz' tg' : Nat → Int32} (h : ∀ i, i < c → ta_Nx b kd sz tg i) (h1 : ∀ i, i < c → kd' (b + i) = kd (b + i)) (h2 : ∀ i, i < c → sz' (b + i) = sz (b + i)) (h3 : ∀ i, i < c → tg' (b + i) = tg (b + i)) : ∀ i, i < c → ta_Nx b kd' sz' tg' i := by
  intro i hi
  obtain ⟨x, y, z, w⟩ := h i hi
  refine ⟨by rw [h1 i hi]; exact x, ?_, by rw [h2 i hi]; exact z, by rw [h1 i hi, h2 i hi]; exact w⟩
  rw [h1 i hi, h3 i hi]
  intro e
  obtain ⟨q, q1, q2, q3⟩ := y e
  exact ⟨q, q1, q2, by rw [h1 q (by omega)]; exact q3⟩
theorem ta_Tr_res {b c : Nat} {kd par nm : Nat → Int32} {P : Nat → List Int32} (H : ta_Tr b c kd par nm P) : ta_Tr b c kd par nm (fun i => if i < c then P i else []) := by
  refine ⟨fun i hi => ?_, H.2⟩
  obtain ⟨x, y, z⟩ := H.1 i hi
  refine ⟨x, by simpa [hi] using y, ?_⟩
  rcases z with ⟨z1, z2⟩ | ⟨q, q1, q2, q3, q4⟩
  · exact Or.inl ⟨z1, by simpa [hi] using z2⟩
  · refine Or.inr ⟨q, q1, q2, q3, ?_⟩
    show (if i < c then P i else []) = (if q < c then P q else []) ++ _
    rw [if_pos hi, if_pos (by omega), q4]
end
section
/-! 10: the component's small methods -/
theorem xa_clamp {post : Int32 → Prop} {p : Int32} (a b : Nat) (hab : a ≤ b) (hb : b < 2 ^ 31) (h : ∀ n, a ≤ n → n ≤ b → (p < nI a → n = a) → (¬ p < nI a → p ≤ nI b → p = nI n) → (¬ p ≤ nI b → n = b) → post (nI n)) : wpX_clamp post () p (nI a) (nI b) := by
  refine br_c (fun z => br_c (fun w => ?_) (fun w => ?_)) (fun z => ?_)
  · have h0 : ¬ p < 0 := fun y => Int32.not_lt.mpr z (Int32.lt_of_lt_of_le y (nI_pos' (by omega)))
    obtain ⟨j, hj, rfl⟩ := nI_of h0
    have g1 := (nI_leI (by omega) hj).mp z
    have g2 := (nI_leI hj hb).mp w
    exact h j g1 g2 (fun y => absurd y (nI_nlt g1 hj)) (fun _ _ => rfl) (fun y => absurd w y)
  · exact h b hab (Nat.le_refl _) (fun y => absurd y (Int32.not_lt.mpr z)) (fun _ y => absurd y w) (fun _ => rfl)
  · refine h a (Nat.le_refl _) hab (fun _ => rfl) (fun y => absurd (Int32.not_le.mp z) y) (fun y => ?_)
    exact absurd (Int32.le_trans (Int32.le_of_lt (Int32.not_le.mp z)) (nI_le hab hb)) y
theorem xa_nl {post : Int32 → Prop} {v : Int32} (h : post (nI (ta_l v))) : ∀ d k, k ≤ ta_l v → ta_l v < k + d → wX_nameLength_2 post v d (nI k) := by
  obtain ⟨s1, s2, s3⟩ := ta_l_spec v
  intro d
  induction d with
  | zero => intro k h1 h2; omega
  | succ d ih =>
    intro k h1 h2
    refine pk_le 4 k (fun g => ?_) (fun g => ?_)
    · have : k = ta_l v := by omega
      rw [this]; exact h
    · refine br_c (fun z => ?_) (fun z => ?_)
      · have : k = ta_l v := by
          rcases Nat.lt_or_ge k (ta_l v) with y | y
          · exact absurd z (s2 k y)
          · omega
        rw [this]; exact h
      · have : k < ta_l v := by
          rcases Nat.lt_or_ge k (ta_l v) with y | y
          · exact y
          · have e : k = ta_l v := by omega
            have f := s3 (by omega)
            rw [← e] at f
            exact absurd f z
        exact nm_r (nI_1 k) (ih (k + 1) (by omega) (by omega))
theorem xa_nameLength {post : Int32 → Prop} {v : Int32} (h : post (nI (ta_l v))) : wpX_nameLength post () v :=
  ⟨5, xa_nl h 5 0 (Nat.zero_le _) (by have := (ta_l_spec v).1; omega)⟩
theorem xa_isNameChar {post : Int32 → Prop} {c : Int32} (h1 : ta_nc c → post 1) (h0 : ¬ ta_nc c → post 0) : wpX_isNameChar post () c := by
  have B : ¬ (97 ≤ c ∧ c ≤ 122) → ¬ (48 ≤ c ∧ c ≤ 57) → wX_isNameChar_24 post c := fun x y =>
    br_c (fun z => h1 (Or.inr (Or.inr z))) (fun z => h0 (fun w => w.elim x (fun w => w.elim y z)))
  have A : ¬ (97 ≤ c ∧ c ≤ 122) → wX_isNameChar_12 post c := fun x =>
    br_c (fun z => B x (fun w => Int32.not_lt.mpr w.1 z)) (fun z => br_c (fun w => h1 (Or.inr (Or.inl ⟨Int32.not_lt.mp z, w⟩))) (fun w => B x (fun y => w y.2)))
  exact br_c (fun z => A (fun w => Int32.not_lt.mpr w.1 z)) (fun z => br_c (fun w => h1 (Or.inl ⟨Int32.not_lt.mp z, w⟩)) (fun w => A (fun y => w y.2)))
theorem xa_v35 {post : Int32 → Prop} {v : Int32} (h1 : ta_V v → post 1) (h0 : ¬ ta_V v → post 0) (hn : ∀ j, j < ta_l v → ta_nc (ta_b v j)) : ∀ d k, ta_l v ≤ k → k ≤ 4 → 4 < k + d → (∀ j, ta_l v ≤ j → j < k → ta_b v j = 0) → wX_isValidName_35 post v (nI (ta_l v)) d (nI k) := by
  have s1 := (ta_l_spec v).1
  intro d
  induction d with
  | zero => intro k _ _ g; omega
  | succ d ih =>
    intro k g1 g2 g3 g4
    refine pk_le 4 k (fun g => ?_) (fun g => ?_)
    · exact pk_lt (ta_l v) 1 (fun y => h0 (fun w => by have := w.1; omega)) (fun y => h1 ⟨y, hn, fun j a b => g4 j a (by omega)⟩)
    · refine br_c (fun z => ?_) (fun z => ?_)
      · refine nm_r (nI_1 k) (ih (k + 1) (by omega) (by omega) (by omega) (fun j a b => ?_))
        rcases Nat.lt_or_ge j k with y | y
        · exact g4 j a y
        · rw [show j = k by omega]; exact z
      · exact h0 (fun w => z (w.2.2 k g1 (by omega)))
theorem xa_v7 {post : Int32 → Prop} {v : Int32} (h1 : ta_V v → post 1) (h0 : ¬ ta_V v → post 0) : ∀ d k, k ≤ ta_l v → ta_l v < k + d → (∀ j, j < k → ta_nc (ta_b v j)) → wX_isValidName_7 post v (nI (ta_l v)) d (nI k) := by
  have s1 := (ta_l_spec v).1
  intro d
  induction d with
  | zero => intro k _ g; omega
  | succ d ih =>
    intro k g1 g2 g3
    refine pk_le (ta_l v) k (fun g => ?_) (fun g => ?_)
    · have e : k = ta_l v := by omega
      rw [e] at g3
      exact ⟨5, xa_v35 h1 h0 g3 5 (ta_l v) (Nat.le_refl _) s1 (by omega) (fun j a b => by omega)⟩
    · refine xa_isNameChar (fun z => br_f (by decide) ?_) (fun z => br_t rfl ?_)
      · refine nm_r (nI_1 k) (ih (k + 1) (by omega) (by omega) (fun j a => ?_))
        rcases Nat.lt_or_ge j k with y | y
        · exact g3 j y
        · rw [show j = k by omega]; exact z
      · exact h0 (fun w => z (w.2.1 k g))
theorem xa_isValidName {post : Int32 → Prop} {v : Int32} (h1 : ta_V v → post 1) (h0 : ¬ ta_V v → post 0) : wpX_isValidName post () v :=
  xa_nameLength ⟨5, xa_v7 h1 h0 5 0 (Nat.zero_le _) (by have := (ta_l_spec v).1; omega) (fun j a => by omega)⟩
theorem ta_ix (t j : Nat) : nI t * 8 + nI j = nI (8 * t + j) := by
  rw [show (8 : Int32) = nI 8 from rfl, pk_mul, nI_add, Nat.mul_comm]
section
variable {fa fb fl fe fp fn ft : Int32} {ct kd pr nm md sz tg dt ar pa : Nat → Int32}
theorem xa_isNode {post : Int32 → Prop} {t c : Nat} {i : Int32} (ht : t < 2) (hc : ct t = nI c) (hcc : c ≤ 8) (h1 : ∀ j, j < c → i = nI j → post 1) (h0 : (∀ j, j < c → i ≠ nI j) → post 0) :
    wpX_isNode post (fa, fb, fl, fe, fp, fn, ft, ct, kd, pr, nm, md, sz, tg, dt, ar, pa) (nI t) i := by
  refine br_c (fun z => h0 (fun j hj e => ?_)) (fun z => ⟨vp_in_nI ht (by omega), ?_⟩)
  · rw [e] at z; exact nI_pos (by omega) z
  · obtain ⟨j, hj, rfl⟩ := nI_of z
    have e : ct (nI t).toNatClampNeg = nI c := by rw [nI_clamp (by omega)]; exact hc
    exact pk_le c j (fun g => h0 (fun q hq f => by have := (nI_eq hj (by omega)).mp f; omega)) (fun g => h1 j g rfl) (hx := e)
theorem xa_isDir {post : Int32 → Prop} {t c : Nat} {i : Int32} (ht : t < 2) (hc : ct t = nI c) (hcc : c ≤ 8) (h1 : ∀ j, j < c → i = nI j → kd (8 * t + j) = 3 → post 1) (h0 : (∀ j, j < c → i = nI j → kd (8 * t + j) ≠ 3) → post 0) :
    wpX_isDir post (fa, fb, fl, fe, fp, fn, ft, ct, kd, pr, nm, md, sz, tg, dt, ar, pa) (nI t) i := by
  unfold wpX_isDir
  refine xa_isNode ht hc hcc (fun j hj e => br_f (by decide) ?_) (fun g => br_t rfl (h0 (fun j hj e => absurd e (g j hj))))
  subst e
  have e1 : (nI t * 8 + nI j).toNatClampNeg = 8 * t + j := by rw [ta_ix, nI_clamp (by omega)]
  refine ⟨by rw [ta_ix]; exact vp_in_nI (by omega) (by omega), ?_⟩
  rw [e1]
  refine br_c (fun z => h1 j hj rfl z) (fun z => h0 (fun q hq f => ?_))
  have : j = q := (nI_eq (by omega) (by omega)).mp f
  rw [← this]; exact z
theorem xa_fileBehind {post : Int32 → Prop} {t c : Nat} {i : Int32} (ht : t < 2) (hc : ct t = nI c) (hcc : c ≤ 8) (h2 : ∀ j, j < c → i = nI j → kd (8 * t + j) ≠ 3 → kd (8 * t + j) = 2 → post (tg (8 * t + j)))
    (h1 : ∀ j, j < c → i = nI j → kd (8 * t + j) ≠ 3 → kd (8 * t + j) ≠ 2 → post (nI j)) (h0 : (∀ j, j < c → i = nI j → kd (8 * t + j) = 3) → post (-2)) :
    wpX_fileBehind post (fa, fb, fl, fe, fp, fn, ft, ct, kd, pr, nm, md, sz, tg, dt, ar, pa) (nI t) i := by
  unfold wpX_fileBehind
  refine xa_isNode ht hc hcc (fun j hj e => br_f (by decide) ?_) (fun g => br_t rfl (h0 (fun j hj e => absurd e (g j hj))))
  refine xa_isDir ht hc hcc (fun q hq f k => br_f (by decide) (h0 (fun q' hq' f' => ?_))) (fun g => br_t rfl ?_)
  · have : q = q' := (nI_eq (by omega) (by omega)).mp (f.symm.trans f')
    rw [← this]; exact k
  · subst e
    refine nm_r (ta_ix t j) ⟨vp_in_nI (by omega) (by omega), ?_⟩
    rw [nI_clamp (by omega)]
    exact br_c (fun z => ⟨vp_in_nI (by omega) (by omega), h2 j hj rfl (g j hj rfl) z⟩) (fun z => h1 j hj rfl (g j hj rfl) z)
/-- the first child of that name, or none -/
theorem xa_fc {post : Int32 → Prop} {t c : Nat} {p v : Int32} (ht : t < 2) (hc : ct t = nI c) (hcc : c ≤ 8) (h1 : ∀ j, j < c → pr (8 * t + j) = p → nm (8 * t + j) = v → post (nI j)) (h0 : (∀ j, j < c → pr (8 * t + j) = p → nm (8 * t + j) = v → False) → post (-2)) :
    ∀ d k, k ≤ c → c < k + d → (∀ j, j < k → pr (8 * t + j) = p → nm (8 * t + j) = v → False) → wX_findChild_9 post (nI t) p v (nI (8 * t)) fa fb fl fe fp fn ft ct kd pr nm md sz tg dt ar pa d (nI k) := by
  intro d
  induction d with
  | zero => intro k _ g; omega
  | succ d ih =>
    intro k g1 g2 g3
    have e : ct (nI t).toNatClampNeg = nI c := by rw [nI_clamp (by omega)]; exact hc
    refine ⟨vp_in_nI ht (by omega), pk_le c k (fun g => h0 (fun j hj => g3 j (by omega))) (fun g => ?_) (hx := e)⟩
    have ei : nI (8 * t) + nI k = nI (8 * t + k) := nI_add _ _
    have ec : (nI (8 * t) + nI k).toNatClampNeg = 8 * t + k := by rw [ei, nI_clamp (by omega)]
    have iv : vp_in (nI (8 * t) + nI k) 16 := by rw [ei]; exact vp_in_nI (by omega) (by omega)
    refine ⟨iv, ?_⟩
    rw [ec]
    refine br_c (fun z => ⟨iv, br_c (fun w => h1 k g z w) (fun w => nm_r (nI_1 k) (ih (k + 1) (by omega) (by omega) (fun j hj => ?_)))⟩) (fun z => nm_r (nI_1 k) (ih (k + 1) (by omega) (by omega) (fun j hj => ?_)))
    · rcases Nat.lt_or_ge j k with y | y
      · exact g3 j y
      · rw [show j = k by omega]; exact fun _ x => w x
    · rcases Nat.lt_or_ge j k with y | y
      · exact g3 j y
      · rw [show j = k by omega]; exact fun x _ => z x
theorem xa_findChild {post : Int32 → Prop} {t c : Nat} {p v : Int32} (ht : t < 2) (hc : ct t = nI c) (hcc : c ≤ 8) (h1 : ∀ j, j < c → pr (8 * t + j) = p → nm (8 * t + j) = v → post (nI j)) (h0 : (∀ j, j < c → pr (8 * t + j) = p → nm (8 * t + j) = v → False) → post (-2)) :
    wpX_findChild post (fa, fb, fl, fe, fp, fn, ft, ct, kd, pr, nm, md, sz, tg, dt, ar, pa) (nI t) p v := by
  refine nm_r (e' := nI (8 * t)) (by rw [show (8 : Int32) = nI 8 from rfl, pk_mul, Nat.mul_comm]) ?_
  exact ⟨c + 1, xa_fc ht hc hcc h1 h0 (c + 1) 0 (Nat.zero_le _) (by omega) (fun j hj => by omega)⟩
theorem xa_putNode {post : St2 → Prop} {t c : Nat} {p1 p2 p3 p4 p5 : Int32} (ht : t < 2) (hc : ct t = nI c) (hcc : c < 8)
    (h : post (fa, fb, fl, fe, fp, fn, ft, upd ct t (nI (c + 1)), upd kd (8 * t + c) p1, upd pr (8 * t + c) p2, upd nm (8 * t + c) p3, upd md (8 * t + c) p4, upd sz (8 * t + c) 0, upd tg (8 * t + c) p5, dt, ar, pa)) :
    wpX_putNode post (fa, fb, fl, fe, fp, fn, ft, ct, kd, pr, nm, md, sz, tg, dt, ar, pa) (nI t) p1 p2 p3 p4 p5 := by
  have et : (nI t).toNatClampNeg = t := nI_clamp (by omega)
  have e : ct (nI t).toNatClampNeg = nI c := by rw [et]; exact hc
  have i2 : vp_in (nI t) 2 := vp_in_nI ht (by omega)
  have i16 : vp_in (nI (8 * t + c)) 16 := vp_in_nI (by omega) (by omega)
  have en : (nI (8 * t + c)).toNatClampNeg = 8 * t + c := nI_clamp (by omega)
  refine ⟨i2, nm_r (e' := nI (8 * t + c)) (by rw [e, ta_ix]) ⟨i16, nm_r (by rw [en]) ⟨i16, nm_r (by rw [en]) ⟨i16, nm_r (by rw [en]) ⟨i16, nm_r (by rw [en]) ⟨i16, nm_r (by rw [en]) ⟨i16, nm_r (by rw [en]) ⟨i2, i2, nm_r (e' := upd ct t (nI (c + 1))) (by rw [e, nI_1, et]) h⟩⟩⟩⟩⟩⟩⟩⟩
end
end
section
/-! 11: the component's paths -/
theorem ta_Nd0 {c : Nat} {kd par nm : Nat → Int32} {P : Nat → List Int32} (T : ta_Tr 0 c kd par nm P) {i : Nat} (hi : i < c) : ta_V (nm i) ∧ (P i).count 47 ≤ 5 ∧ ((par i = -1 ∧ P i = ta_t (nm i)) ∨ (∃ q, q < i ∧ par i = nI q ∧ kd q = 3 ∧ P i = P q ++ 47 :: ta_t (nm i))) := by
  have h := T.1 i hi
  unfold ta_Nd at h
  simpa only [Nat.zero_add] using h
theorem ta_cntq {v : Int32} (hv : ta_V v) (L : List Int32) : (L ++ 47 :: ta_t v).count 47 = L.count 47 + 1 := by
  rw [List.count_append, List.count_cons_self, ta_cnt hv]
theorem ta_lenq (v : Int32) (L : List Int32) : (L ++ 47 :: ta_t v).length = L.length + 1 + ta_l v := by
  rw [List.length_append, List.length_cons, ta_t_len]; omega
theorem ta_wr_pre (a : Nat → Int32) (o : Nat) (L M : List Int32) : ta_wr (ta_wr a (o + L.length) M) o L = ta_wr a o (L ++ M) := by
  rw [ta_wr_comm _ (Or.inr (Nat.le_refl _)), ta_wr_app]
theorem ta_m1 {q : Nat} (h : q < 2 ^ 31) : ¬ nI q = -1 := by
  intro e
  have := nI_pos h
  rw [e] at this
  exact this (by decide)
theorem ta_pm (m : Nat) : nI m + (-1) = nI m - 1 := by
  cases m with
  | zero => decide
  | succ m => rw [pk_m1, nI_pred]
section
variable {fa fb fl fe fp fn ft : Int32} {ct kd pr nm md sz tg dt ar pa : Nat → Int32} {P : Nat → List Int32} {c : Nat}
theorem xa_sd (T : ta_Tr 0 c kd pr nm P) (hc : c ≤ 8) {post : Int32 → Prop} : ∀ n d i, i < c → d + (P i).count 47 + 1 ≤ 6 → (P i).count 47 + 1 < n → post (nI (d + (P i).count 47 + 1)) → wX_sourceDepth_4 post fa fb fl fe fp fn ft ct kd pr nm md sz tg dt ar pa n (nI d) (nI i) := by
  intro n
  induction n with
  | zero => intro d i _ _ g; omega
  | succ n ih =>
    intro d i hi h1 h2 hp
    obtain ⟨hv, _, h⟩ := ta_Nd0 T hi
    refine br_f (nI_ge (b := 6) (by omega) (by decide)) (br_f (ta_m1 (by omega)) ⟨vp_in_nI (by omega) (by omega), nm_r (by rw [nI_clamp (by omega)]) (nm_r (nI_1 d) ?_)⟩)
    rcases h with ⟨e, f⟩ | ⟨q, hq, e, _, f⟩
    · rw [e]
      rw [f, ta_cnt hv] at hp
      obtain ⟨n, rfl⟩ : ∃ m, n = m + 1 := ⟨n - 1, by omega⟩
      exact br_c (fun _ => hp) (fun _ => br_t rfl hp)
    · have z := ta_cntq hv (P q)
      rw [← f] at z
      rw [e]
      refine ih (d + 1) q (by omega) (by omega) (by omega) ?_
      rw [show d + 1 + (P q).count 47 + 1 = d + (P i).count 47 + 1 by omega]
      exact hp
theorem xa_sourceDepth (T : ta_Tr 0 c kd pr nm P) (hc : c ≤ 8) {post : Int32 → Prop} {i : Nat} (hi : i < c) (h : post (nI ((P i).count 47 + 1))) : wpX_sourceDepth post (fa, fb, fl, fe, fp, fn, ft, ct, kd, pr, nm, md, sz, tg, dt, ar, pa) (nI i) := by
  have h5 := (T.1 i hi).2.1
  refine ⟨7, xa_sd T hc 7 0 i hi (by omega) (by omega) ?_⟩
  rw [Nat.zero_add]; exact h
theorem xa_sourceDepth0 {post : Int32 → Prop} (h : post 0) : wpX_sourceDepth post (fa, fb, fl, fe, fp, fn, ft, ct, kd, pr, nm, md, sz, tg, dt, ar, pa) (-1) :=
  ⟨1, br_f (by decide) (br_t rfl h)⟩
theorem xa_spl (T : ta_Tr 0 c kd pr nm P) (hc : c ≤ 8) {post : Int32 → Prop} : ∀ n tot i d, i < c → d + (P i).count 47 + 1 ≤ 6 → (P i).count 47 + 1 < n → post (nI (tot + (P i).length + if d = 0 then 0 else 1)) → wX_sourcePathLength_7 post fa fb fl fe fp fn ft ct kd pr nm md sz tg dt ar pa n (nI tot) (nI i) (nI d) := by
  intro n
  induction n with
  | zero => intro tot d i _ _ g; omega
  | succ n ih =>
    intro tot i d hi h1 h2 hp
    obtain ⟨hv, _, h⟩ := ta_Nd0 T hi
    have key : ∀ z : Nat, post (nI (tot + (P i).length + z)) → wX_sourcePathLength_29 post (wX_sourcePathLength_7 post fa fb fl fe fp fn ft ct kd pr nm md sz tg dt ar pa n) (nI tot) (nI i) (nI d) (nI z) fa fb fl fe fp fn ft ct kd pr nm md sz tg dt ar pa := by
      intro z hz
      refine ⟨vp_in_nI (by omega) (by omega), ?_⟩
      rw [nI_clamp (by omega)]
      refine xa_nameLength (nm_r (e' := nI (tot + (ta_l (nm i) + z))) (by rw [nI_add, nI_add]) ⟨vp_in_nI (by omega) (by omega), nm_e (nm_r (nI_1 d) ?_)⟩)
      rcases h with ⟨e, f⟩ | ⟨q, hq, e, _, f⟩
      · rw [e]
        have hl : (P i).length = ta_l (nm i) := by rw [f, ta_t_len]
        rw [hl, Nat.add_assoc] at hz
        obtain ⟨n, rfl⟩ : ∃ m, n = m + 1 := ⟨n - 1, by omega⟩
        exact br_c (fun _ => hz) (fun _ => br_t rfl hz)
      · have zc := ta_cntq hv (P q)
        have zl := ta_lenq (nm i) (P q)
        rw [← f] at zc zl
        rw [e]
        refine ih _ q (d + 1) (by omega) (by omega) (by omega) ?_
        rw [if_neg (by omega), show tot + (ta_l (nm i) + z) + (P q).length + 1 = tot + (P i).length + z by omega]
        exact hz
    refine br_f (nI_ge (b := 6) (by omega) (by decide)) (br_f (ta_m1 (by omega)) ?_)
    refine pk_le d 0 (fun g => ?_) (fun g => ?_)
    · rw [if_pos (by omega)] at hp
      exact key 0 hp
    · rw [if_neg (by omega)] at hp
      exact key 1 hp
theorem xa_sourcePathLength (T : ta_Tr 0 c kd pr nm P) (hc : c ≤ 8) {post : Int32 → Prop} {i : Nat} (hi : i < c) (h : post (nI (P i).length)) : wpX_sourcePathLength post (fa, fb, fl, fe, fp, fn, ft, ct, kd, pr, nm, md, sz, tg, dt, ar, pa) (nI i) := by
  have h5 := (T.1 i hi).2.1
  refine ⟨7, xa_spl T hc 7 0 i 0 hi (by omega) (by omega) ?_⟩
  rw [if_pos rfl, Nat.zero_add, Nat.add_zero]; exact h
theorem xa_l48 {post : Int32 → St2 → Prop} {J : Int32 → Int32 → Int32 → (Nat → Int32) → (Nat → Int32) → (Nat → Int32) → (Nat → Int32) → (Nat → Int32) → (Nat → Int32) → (Nat → Int32) → (Nat → Int32) → (Nat → Int32) → (Nat → Int32) → Prop} {x2 x5 : Int32} {i s : Nat} (hi : i < 8) (hs : s + ta_l (nm i) ≤ 30)
    (h : J (nI s - 1) (pr i) (x5 + 1) ct kd pr nm md sz tg dt ar (if s = 0 then ta_wr pa s (ta_t (nm i)) else upd (ta_wr pa s (ta_t (nm i))) (s - 1) 47)) :
    ∀ n k, k ≤ ta_l (nm i) → ta_l (nm i) < k + n → wX_loadSourcePath_48 post J x2 (nI i) x5 (nI (ta_l (nm i))) (nI s) fa fb fl fe fp fn ft n (nI k) ct kd pr nm md sz tg dt ar (ta_wr pa s (ta_sg (ta_b (nm i)) 0 k)) := by
  have h4 := (ta_l_spec (nm i)).1
  intro n
  induction n with
  | zero => intro k _ g; omega
  | succ n ih =>
    intro k g1 g2
    refine pk_le (ta_l (nm i)) k (fun g => ?_) (fun g => ?_)
    · have e : k = ta_l (nm i) := by omega
      have et : ta_wr pa s (ta_sg (ta_b (nm i)) 0 k) = ta_wr pa s (ta_t (nm i)) := by rw [e]; rfl
      rw [et]
      refine pk_le s 0 (fun w => ?_) (fun w => ?_)
      · rw [if_pos (by omega)] at h
        exact nm_e ⟨vp_in_nI (by omega) (by omega), nm_r (by rw [nI_clamp (by omega)]) (nm_e h)⟩
      · rw [if_neg (by omega)] at h
        have es : nI s - 1 = nI (s - 1) := by
          obtain ⟨m, rfl⟩ : ∃ m, s = m + 1 := ⟨s - 1, by omega⟩
          rw [nI_pred]; rfl
        refine ⟨by rw [es]; exact vp_in_nI (by omega) (by omega), nm_r (e' := upd (ta_wr pa s (ta_t (nm i))) (s - 1) 47) (by rw [es, nI_clamp (by omega)]) ?_⟩
        exact nm_e ⟨vp_in_nI (by omega) (by omega), nm_r (by rw [nI_clamp (by omega)]) (nm_e h)⟩
    · refine ⟨vp_in_nI (by omega) (by omega), ?_⟩
      rw [nI_clamp (by omega)]
      have ei : nI s + nI k = nI (s + k) := nI_add _ _
      refine ⟨by rw [ei]; exact vp_in_nI (by omega) (by omega), nm_r (e' := ta_wr pa s (ta_sg (ta_b (nm i)) 0 (k + 1))) ?_ (nm_r (nI_1 k) (ih (k + 1) (by omega) (by omega)))⟩
      rw [ei, nI_clamp (by omega), ta_sg_S, ← ta_wr_snoc, ta_sg_len, Nat.zero_add]
      rfl
theorem xa_l48z {post : Int32 → St2 → Prop} {J : Int32 → Int32 → Int32 → (Nat → Int32) → (Nat → Int32) → (Nat → Int32) → (Nat → Int32) → (Nat → Int32) → (Nat → Int32) → (Nat → Int32) → (Nat → Int32) → (Nat → Int32) → (Nat → Int32) → Prop} {x2 x5 : Int32} {i s : Nat} (hi : i < 8) (hs : s + ta_l (nm i) ≤ 30)
    (h : J (nI s - 1) (pr i) (x5 + 1) ct kd pr nm md sz tg dt ar (if s = 0 then ta_wr pa s (ta_t (nm i)) else upd (ta_wr pa s (ta_t (nm i))) (s - 1) 47)) :
    wX_loadSourcePath_48 post J x2 (nI i) x5 (nI (ta_l (nm i))) (nI s) fa fb fl fe fp fn ft 5 0 ct kd pr nm md sz tg dt ar pa := by
  have h4 := (ta_l_spec (nm i)).1
  have K := xa_l48 (fa := fa) (fb := fb) (fl := fl) (fe := fe) (fp := fp) (fn := fn) (ft := ft) (post := post) (x2 := x2) hi hs h 5 0 (Nat.zero_le _) (by omega)
  rw [ta_sg_0, ta_wr_nil] at K
  exact K
theorem xa_l14 (T : ta_Tr 0 c kd pr nm P) (hc : c ≤ 8) {post : Int32 → St2 → Prop} {nd : Nat} (hn : nd < c) (h : post (nI (P nd).length) (fa, fb, fl, fe, fp, fn, ft, ct, kd, pr, nm, md, sz, tg, dt, ar, ta_wr pa 0 (P nd))) :
    ∀ n i d R, i < c → d + (P i).count 47 + 1 ≤ 6 → (P i).count 47 + 1 < n → P nd = P i ++ R → wX_loadSourcePath_14 post (nI (P nd).length) fa fb fl fe fp fn ft n (nI (P i).length) (nI i) (nI d) ct kd pr nm md sz tg dt ar (ta_wr pa (P i).length R) := by
  have h29 := ta_P_29 T hn
  intro n
  induction n with
  | zero => intro d i _ _ _ g; omega
  | succ n ih =>
    intro i d R hi h1 h2 hR
    obtain ⟨hv, _, hx⟩ := ta_Nd0 T hi
    have hRl : (P i).length ≤ 29 := by have := congrArg List.length hR; rw [List.length_append] at this; omega
    refine br_f (nI_ge (b := 6) (by omega) (by decide)) (br_f (ta_m1 (by omega)) ⟨vp_in_nI (by omega) (by omega), ?_⟩)
    rw [nI_clamp (by omega)]
    have hl : ta_l (nm i) ≤ (P i).length := by
      rcases hx with ⟨_, f⟩ | ⟨q, _, _, _, f⟩
      · rw [f, ta_t_len]; exact Nat.le_refl _
      · rw [f, ta_lenq]; omega
    have h4 := (ta_l_spec (nm i)).1
    refine xa_nameLength (nm_r (pk_sub hl) ⟨5, ?_⟩)
    refine xa_l48z (nm := nm) (i := i) (s := (P i).length - ta_l (nm i)) (by omega) (by omega) ?_
    rcases hx with ⟨e, f⟩ | ⟨q, hq, e, _, f⟩
    · have hl0 : (P i).length - ta_l (nm i) = 0 := by rw [f, ta_t_len]; omega
      rw [hl0, if_pos rfl, e]
      have hw : ta_wr (ta_wr pa (P i).length R) 0 (ta_t (nm i)) = ta_wr pa 0 (P nd) := by
        rw [hR, ← ta_wr_pre, Nat.zero_add, f]
      rw [hw]
      obtain ⟨n, rfl⟩ : ∃ m, n = m + 1 := ⟨n - 1, by omega⟩
      exact br_c (fun _ => h) (fun _ => br_t rfl h)
    · have zc := ta_cntq hv (P q)
      have zl := ta_lenq (nm i) (P q)
      rw [← f] at zc zl
      have hs : (P i).length - ta_l (nm i) = (P q).length + 1 := by omega
      rw [hs, if_neg (by omega), nI_pred, e, nI_1]
      have hw : upd (ta_wr (ta_wr pa (P i).length R) ((P q).length + 1) (ta_t (nm i))) ((P q).length + 1 - 1) 47 = ta_wr pa (P q).length (47 :: ta_t (nm i) ++ R) := by
        have e1 : (P i).length = (P q).length + 1 + (ta_t (nm i)).length := by rw [ta_t_len]; omega
        rw [e1, ta_wr_pre, show (P q).length + 1 - 1 = (P q).length by omega, ta_wr_1]
        exact ta_wr_pre pa (P q).length [47] (ta_t (nm i) ++ R)
      rw [hw]
      refine ih q (d + 1) _ (by omega) (by omega) (by omega) ?_
      rw [hR, f, List.append_assoc]
theorem xa_loadSourcePath (T : ta_Tr 0 c kd pr nm P) (hc : c ≤ 8) {post : Int32 → St2 → Prop} {i : Nat} (hi : i < c) (h : post (nI (P i).length) (fa, fb, fl, fe, fp, fn, ft, ct, kd, pr, nm, md, sz, tg, dt, ar, ta_wr pa 0 (P i))) : wpX_loadSourcePath post (fa, fb, fl, fe, fp, fn, ft, ct, kd, pr, nm, md, sz, tg, dt, ar, pa) (nI i) := by
  unfold wpX_loadSourcePath
  have h5 := (T.1 i hi).2.1
  refine xa_sourcePathLength T hc hi ⟨7, ?_⟩
  have := xa_l14 T hc hi h 7 i 0 [] hi (by omega) (by omega) (by simp)
  rw [ta_wr_nil] at this
  exact this
theorem xa_s15 {post : Int32 → Prop} {g : Nat → Int32} (hg : ∀ s, s ≤ 10 → pa s = g s) : ∀ m s n, (s + m = 11 ∨ (m = 0 ∧ 11 ≤ s)) → s < 100 → m < n → post (ta_fs g s m) → wX_splitPlace_15 post fa fb fl fe fp fn ft ct kd pr nm md sz tg dt ar pa n (nI s) := by
  intro m
  induction m with
  | zero =>
    intro s n h1 h3 h2 hp
    obtain ⟨n, rfl⟩ : ∃ k, n = k + 1 := ⟨n - 1, by omega⟩
    exact br_t (nI_lt (a := 10) (by omega) (by omega)) hp
  | succ m ih =>
    intro s n h1 h3 h2 hp
    obtain ⟨n, rfl⟩ : ∃ k, n = k + 1 := ⟨n - 1, by omega⟩
    have hs : s ≤ 10 := by omega
    refine br_f (nI_nlt (a := 10) (by omega) (by decide)) ⟨vp_in_nI (by omega) (by omega), ?_⟩
    rw [nI_clamp (by omega), hg s hs]
    have hp : post (if g s = 47 then nI s else ta_fs g (s + 1) m) := hp
    refine br_c (fun z => ?_) (fun z => ?_)
    · rw [if_pos z] at hp; exact hp
    · rw [if_neg z] at hp
      exact nm_r (nI_1 s) (ih (s + 1) n (by omega) (by omega) (by omega) hp)
theorem xa_splitPlace {post : Int32 → Prop} {L : List Int32} (hL : L.length ≤ 29) (hpa : ∀ k, k < L.length → pa k = L.getD k 0) (h : post (ta_sp L)) : wpX_splitPlace post (fa, fb, fl, fe, fp, fn, ft, ct, kd, pr, nm, md, sz, tg, dt, ar, pa) (nI L.length) := by
  unfold ta_sp at h
  refine pk_lt 12 L.length (fun g => ?_) (fun g => ?_)
  · rw [if_neg (by omega)] at h
    refine nm_r (e' := nI (L.length - 13)) ?_ ⟨30, ?_⟩
    · rw [show (12 : Int32) = nI 12 from rfl, pk_sub (by omega), show (1 : Int32) = nI 1 from rfl, pk_sub (by omega)]; rfl
    · exact xa_s15 (g := fun k => L.getD k 0) (fun s hs => hpa s (by omega)) (24 - L.length) (L.length - 13) 30 (by omega) (by omega) (by omega) h
  · rw [if_pos g] at h
    exact h
theorem xa_pathsFit (T : ta_Tr 0 c kd pr nm P) (hc : c ≤ 8) (X : ∀ i, i < c → ta_Nx 0 kd sz tg i) {post : Int32 → St2 → Prop} {i : Nat} (hi : i < c)
    (h1 : ta_ft kd tg P i → post 1 (fa, fb, fl, fe, fp, fn, ft, ct, kd, pr, nm, md, sz, tg, dt, ar, ta_wr pa 0 (P i)))
    (h0 : ¬ ta_ft kd tg P i → post 0 (fa, fb, fl, fe, fp, fn, ft, ct, kd, pr, nm, md, sz, tg, dt, ar, ta_wr pa 0 (P i))) : wpX_pathsFit post (fa, fb, fl, fe, fp, fn, ft, ct, kd, pr, nm, md, sz, tg, dt, ar, pa) (nI i) := by
  unfold wpX_pathsFit
  refine xa_loadSourcePath T hc hi ?_
  refine xa_splitPlace (ta_P_29 T hi) (fun k hk => ta_g_wr hk) (br_c (fun z => h0 (fun w => w.1 z)) (fun z => ⟨vp_in_nI (by omega) (by omega), ?_⟩))
  rw [nI_clamp (by omega)]
  refine br_c (fun k2 => ⟨vp_in_nI (by omega) (by omega), ?_⟩) (fun k2 => h1 ⟨z, fun w => absurd w k2⟩)
  obtain ⟨_, hx, _⟩ := X i hi
  simp only [Nat.zero_add] at hx
  obtain ⟨q, hq, e, _⟩ := hx k2
  have en : ta_n (tg i) = q := by unfold ta_n; rw [e, nI_clamp (by omega)]
  rw [e]
  have h29 := ta_P_29 T (show q < c by omega)
  refine xa_sourcePathLength T hc (by omega) (pk_lt 12 (P q).length (fun g => h0 (fun w => ?_)) (fun g => h1 ⟨z, fun _ => ?_⟩))
  · have := w.2 k2
    rw [en] at this
    omega
  · rw [en]; exact g
end
end
section
/-! 12: the component's create -/
def ta_cz (a : Nat → Int32) (k : Nat) : Nat → Int32 := fun j => if j < k then 0 else a j
theorem ta_cz_0 (a : Nat → Int32) : ta_cz a 0 = a := by
  funext j
  exact if_neg (Nat.not_lt_zero j)
theorem ta_cz_S (a : Nat → Int32) (k : Nat) : upd (ta_cz a k) k 0 = ta_cz a (k + 1) := by
  funext j
  unfold upd ta_cz
  by_cases h : j = k
  · rw [if_pos h, if_pos (by omega)]
  · rw [if_neg h]
    by_cases h2 : j < k
    · rw [if_pos h2, if_pos (by omega)]
    · rw [if_neg h2, if_neg (by omega)]
theorem ta_fc_z {sz : Nat → Int32} {k : Nat} (h : ta_n (sz k) = 0) : ta_fc sz (k + 1) = ta_fc sz k := by
  show ta_fc sz k + (if 0 < ta_n (sz k) then 1 else 0) = _
  rw [if_neg (by omega), Nat.add_zero]
theorem ta_fc_p {sz : Nat → Int32} {k : Nat} (h : 0 < ta_n (sz k)) : ta_fc sz (k + 1) = ta_fc sz k + 1 := by
  show ta_fc sz k + (if 0 < ta_n (sz k) then 1 else 0) = _
  rw [if_pos h]
theorem ta_mgb : ∀ k : Nat, k < 8 → (((((3472275803963945845 : Int64).toUInt64 >>> ((8 * nI k).toInt64.toUInt64 &&& Int64.toUInt64 63)).toInt64).toInt32) &&& 255) = ta_mg.getD k 0 := by decide +kernel
theorem ta_mgt : ∀ k : Nat, k < 8 → ta_mg.take (k + 1) = ta_mg.take k ++ [ta_mg.getD k 0] := by decide +kernel
theorem ta_mgl : ∀ k : Nat, k ≤ 8 → (ta_mg.take k).length = k := by decide +kernel
theorem xa_typeflag {post : Int32 → Prop} {k : Int32} (h : post (ta_ty k)) : wpX_typeflag post () k := by
  unfold ta_ty at h
  refine br_c (fun z => ?_) (fun z => br_c (fun w => ?_) (fun w => ?_))
  · rw [if_pos z] at h; exact h
  · rw [if_neg z, if_pos w] at h; exact h
  · rw [if_neg z, if_neg w] at h; exact h
theorem xa_magicByte {post : Int32 → Prop} {k : Nat} (hk : k < 8) (h : post (ta_mg.getD k 0)) : wpX_magicByte post () (nI k) := by
  rw [← ta_mgb k hk] at h
  exact h
section
variable {fa fb fl fe fp fn ft : Int32} {ct kd pr nm md sz tg dt ar pa : Nat → Int32} {P : Nat → List Int32} {c : Nat}
theorem xa_bn (hc : c ≤ 8) (hct : ct 0 = nI c) (hs : ∀ i, i < c → ∃ s, s ≤ 32 ∧ sz i = nI s) {post : Int32 → Prop} (h : post (nI (c + 2 + ta_fc sz c))) :
    ∀ n k, k ≤ c → c < k + n → wX_blocksNeeded_11 post fa fb fl fe fp fn ft ct kd pr nm md sz tg dt ar pa n (nI (c + 2 + ta_fc sz k)) (nI k) := by
  intro n
  induction n with
  | zero => intro k _ g; omega
  | succ n ih =>
    intro k g1 g2
    refine pk_le c k (fun g => ?_) (fun g => ⟨vp_in_nI (by omega) (by omega), ?_⟩) (hx := hct)
    · rw [show k = c by omega]; exact h
    · obtain ⟨s, s1, s2⟩ := hs k g
      rw [nI_clamp (by omega)]
      have en : ta_n (sz k) = s := by unfold ta_n; rw [s2, nI_clamp (by omega)]
      refine pk_le s 0 (fun w => nm_r (nI_1 k) ?_) (fun w => nm_r (nI_1 _) (nm_r (nI_1 k) ?_)) (hx := s2)
      · have := ih (k + 1) (by omega) (by omega)
        rw [ta_fc_z (by omega)] at this
        exact this
      · have := ih (k + 1) (by omega) (by omega)
        rw [ta_fc_p (by omega)] at this
        exact this
theorem xa_blocksNeeded (hc : c ≤ 8) (hct : ct 0 = nI c) (hs : ∀ i, i < c → ∃ s, s ≤ 32 ∧ sz i = nI s) {post : Int32 → Prop} (h : post (nI (c + 2 + ta_fc sz c))) : wpX_blocksNeeded post (fa, fb, fl, fe, fp, fn, ft, ct, kd, pr, nm, md, sz, tg, dt, ar, pa) := by
  refine nm_r (e' := nI (c + 2 + ta_fc sz 0)) (by rw [hct]; exact nI_add c 2) ⟨c + 1, xa_bn hc hct hs h (c + 1) 0 (Nat.zero_le _) (by omega)⟩
theorem xa_ca {post : St2 → Prop} (h : post (fa, fb, fl, fe, fp, fn, ft, ct, kd, pr, nm, md, sz, tg, dt, ta_cz ar 768, pa)) : ∀ n k, k ≤ 768 → 768 < k + n → wX_clearArchive_2 post fa fb fl fe fp fn ft n (nI k) ct kd pr nm md sz tg dt (ta_cz ar k) pa := by
  intro n
  induction n with
  | zero => intro k _ g; omega
  | succ n ih =>
    intro k g1 g2
    refine pk_le 768 k (fun g => ?_) (fun g => ⟨vp_in_nI (by omega) (by omega), nm_r (e' := ta_cz ar (k + 1)) (by rw [nI_clamp (by omega), ta_cz_S]) (nm_r (nI_1 k) (ih (k + 1) (by omega) (by omega)))⟩)
    rw [show k = 768 by omega]; exact h
theorem xa_clearArchive {post : St2 → Prop} (h : post (fa, fb, fl, fe, fp, fn, ft, ct, kd, pr, nm, md, sz, tg, dt, ta_cz ar 768, pa)) : wpX_clearArchive post (fa, fb, fl, fe, fp, fn, ft, ct, kd, pr, nm, md, sz, tg, dt, ar, pa) := by
  have := xa_ca h 769 0 (by omega) (by omega)
  rw [ta_cz_0] at this
  exact ⟨769, this⟩
theorem xa_wp {post : St2 → Prop} {f m o : Nat} {p2 : Int32} (e : p2 = nI o) (hf : f + m ≤ 30) (ho : o + m ≤ 768) (h : post (fa, fb, fl, fe, fp, fn, ft, ct, kd, pr, nm, md, sz, tg, dt, ta_wr ar o (ta_sg pa f m), pa)) :
    ∀ n k, k ≤ m → m < k + n → wX_writePath_3 post (nI f) (nI (f + m)) p2 fa fb fl fe fp fn ft n (nI (f + k)) ct kd pr nm md sz tg dt (ta_wr ar o (ta_sg pa f k)) pa := by
  intro n
  induction n with
  | zero => intro k _ g; omega
  | succ n ih =>
    intro k g1 g2
    have ei : p2 + nI (f + k) - nI f = nI (o + k) := by rw [e, nI_add, pk_sub (by omega), show o + (f + k) - f = o + k by omega]
    refine pk_le (f + m) (f + k) (fun g => ?_) (fun g => ⟨vp_in_nI (by omega) (by omega), by rw [ei]; exact vp_in_nI (by omega) (by omega), nm_r (e' := ta_wr ar o (ta_sg pa f (k + 1))) ?_ (nm_r (nI_1 (f + k)) (ih (k + 1) (by omega) (by omega)))⟩)
    · rw [show k = m by omega]; exact h
    · rw [ei, nI_clamp (by omega), nI_clamp (by omega), ta_sg_S, ← ta_wr_snoc, ta_sg_len]
theorem xa_writePath {post : St2 → Prop} {f m o : Nat} {p2 : Int32} (e : p2 = nI o) (hf : f + m ≤ 30) (ho : o + m ≤ 768) (h : post (fa, fb, fl, fe, fp, fn, ft, ct, kd, pr, nm, md, sz, tg, dt, ta_wr ar o (ta_sg pa f m), pa)) :
    wpX_writePath post (fa, fb, fl, fe, fp, fn, ft, ct, kd, pr, nm, md, sz, tg, dt, ar, pa) (nI f) (nI (f + m)) p2 := by
  have := xa_wp e hf ho h (m + 1) 0 (Nat.zero_le _) (by omega)
  rw [ta_sg_0, ta_wr_nil] at this
  exact ⟨m + 1, this⟩
theorem xa_writePathE {post : St2 → Prop} {p2 : Int32} (h : post (fa, fb, fl, fe, fp, fn, ft, ct, kd, pr, nm, md, sz, tg, dt, ar, pa)) :
    wpX_writePath post (fa, fb, fl, fe, fp, fn, ft, ct, kd, pr, nm, md, sz, tg, dt, ar, pa) 0 (-1) p2 := ⟨1, br_t (by decide) h⟩
theorem xa_wo {post : St2 → Prop} {p2 : Int32} {o : Nat} (e : p2 = nI o) : ∀ m v ar n, m < n → o + m ≤ 768 → post (fa, fb, fl, fe, fp, fn, ft, ct, kd, pr, nm, md, sz, tg, dt, ta_wr ar o (ta_ol m v), pa) → wX_writeOctal_8 post p2 fa fb fl fe fp fn ft n v (nI m - 1) ct kd pr nm md sz tg dt ar pa := by
  intro m
  induction m with
  | zero =>
    intro v ar n hn _ h
    obtain ⟨n, rfl⟩ : ∃ k, n = k + 1 := ⟨n - 1, by omega⟩
    have h : post (fa, fb, fl, fe, fp, fn, ft, ct, kd, pr, nm, md, sz, tg, dt, ta_wr ar o [], pa) := h
    rw [ta_wr_nil] at h
    exact br_t (by decide) h
  | succ m ih =>
    intro v ar n hn ho h
    obtain ⟨n, rfl⟩ : ∃ k, n = k + 1 := ⟨n - 1, by omega⟩
    rw [nI_pred]
    have ei : p2 + nI m = nI (o + m) := by rw [e, nI_add]
    refine br_f (nI_pos (by omega)) ⟨by rw [ei]; exact vp_in_nI (by omega) (by omega), nm_r (by rw [ei, nI_clamp (by omega)]) (nm_e (nm_r (ta_pm m) (ih _ _ n (by omega) (by omega) ?_)))⟩
    rw [← ta_ol_wr] at h
    exact h
theorem xa_writeOctal {post : St2 → Prop} {p2 v : Int32} {o : Nat} (m : Nat) (e : p2 = nI o) (ho : o + m ≤ 768) (h : post (fa, fb, fl, fe, fp, fn, ft, ct, kd, pr, nm, md, sz, tg, dt, ta_wr ar o (ta_ol m v), pa)) :
    wpX_writeOctal post (fa, fb, fl, fe, fp, fn, ft, ct, kd, pr, nm, md, sz, tg, dt, ar, pa) v (nI m) p2 :=
  nm_e ⟨m + 1, xa_wo e m v ar (m + 1) (by omega) ho h⟩
theorem xa_ck {post : Int32 → Prop} {o : Nat} (ho : o + 64 ≤ 768) (h : post (ta_cs ar o 64)) : ∀ n k, k ≤ 64 → 64 < k + n → wX_checksum_4 post (nI o) fa fb fl fe fp fn ft ct kd pr nm md sz tg dt ar pa n (ta_cs ar o k) (nI k) := by
  intro n
  induction n with
  | zero => intro k _ g; omega
  | succ n ih =>
    intro k g1 g2
    have ei : nI o + nI k = nI (o + k) := nI_add _ _
    have A : k < 64 → ¬ (20 ≤ k ∧ k < 26) → wX_checksum_26 post (wX_checksum_4 post (nI o) fa fb fl fe fp fn ft ct kd pr nm md sz tg dt ar pa n) (nI o) (ta_cs ar o k) (nI k) fa fb fl fe fp fn ft ct kd pr nm md sz tg dt ar pa := by
      intro hk hr
      refine br_t rfl ⟨by rw [ei]; exact vp_in_nI (by omega) (by omega), nm_r (e' := ta_cs ar o (k + 1)) ?_ (nm_r (nI_1 k) (ih (k + 1) (by omega) (by omega)))⟩
      show _ = ta_cs ar o k + (if 20 ≤ k ∧ k < 26 then 32 else ar (o + k))
      rw [if_neg hr, ei, nI_clamp (by omega)]
    refine pk_le 64 k (fun g => ?_) (fun g => pk_lt k 20 (fun w => A g (by omega)) (fun w => pk_le 26 k (fun y => A g (by omega)) (fun y => br_f (by decide) (nm_r (e' := ta_cs ar o (k + 1)) ?_ (nm_r (nI_1 k) (ih (k + 1) (by omega) (by omega)))))))
    · rw [show k = 64 by omega]; exact h
    · show _ = ta_cs ar o k + (if 20 ≤ k ∧ k < 26 then 32 else ar (o + k))
      rw [if_pos ⟨w, y⟩]
theorem xa_checksum {post : Int32 → Prop} {o : Nat} (ho : o + 64 ≤ 768) (h : post (ta_cs ar o 64)) : wpX_checksum post (fa, fb, fl, fe, fp, fn, ft, ct, kd, pr, nm, md, sz, tg, dt, ar, pa) (nI o) :=
  ⟨65, xa_ck ho h 65 0 (by omega) (by omega)⟩
theorem xa_h120 {post : St2 → Prop} {o : Nat} (ho : o + 64 ≤ 768) (h : post (fa, fb, fl, fe, fp, fn, ft, ct, kd, pr, nm, md, sz, tg, dt, ta_wr (ta_wr ar (o + 39) ta_mg) (o + 20) (ta_ol 5 (ta_cs (ta_wr ar (o + 39) ta_mg) o 64)), pa)) :
    ∀ n k, k ≤ 8 → 8 < k + n → wX_writeHeader_120 post (nI o) fa fb fl fe fp fn ft n (nI k) ct kd pr nm md sz tg dt (ta_wr ar (o + 39) (ta_mg.take k)) pa := by
  intro n
  induction n with
  | zero => intro k _ g; omega
  | succ n ih =>
    intro k g1 g2
    refine pk_le 8 k (fun g => ?_) (fun g => xa_magicByte g ?_)
    · have e : ta_mg.take k = ta_mg := by rw [show k = 8 by omega]; rfl
      rw [e]
      exact xa_checksum ho (xa_writeOctal 5 (nI_add o 20) (by omega) h)
    · have ei : nI o + 39 + nI k = nI (o + 39 + k) := by rw [show (39 : Int32) = nI 39 from rfl, nI_add, nI_add]
      refine ⟨by rw [ei]; exact vp_in_nI (by omega) (by omega), nm_r (e' := ta_wr ar (o + 39) (ta_mg.take (k + 1))) ?_ (nm_r (nI_1 k) (ih (k + 1) (by omega) (by omega)))⟩
      rw [ei, nI_clamp (by omega), ta_mgt k g, ← ta_wr_snoc, ta_mgl k (by omega)]
theorem xa_h69 {post : St2 → Prop} {i o : Nat} (hi : i < 8) (ho : o + 64 ≤ 768)
    (h : post (fa, fb, fl, fe, fp, fn, ft, ct, kd, pr, nm, md, sz, tg, dt, ta_wr (ta_wr (ta_wr (ta_wr (ta_wr ar (o + 12) (ta_ol 3 (md i))) (o + 16) (ta_ol 3 (sz i))) (o + 26) [ta_ty (kd i)]) (o + 39) ta_mg) (o + 20) (ta_ol 5 (ta_cs (ta_wr (ta_wr (ta_wr (ta_wr ar (o + 12) (ta_ol 3 (md i))) (o + 16) (ta_ol 3 (sz i))) (o + 26) [ta_ty (kd i)]) (o + 39) ta_mg) o 64)), pa)) :
    wX_writeHeader_69 post (nI i) (nI o) fa fb fl fe fp fn ft ct kd pr nm md sz tg dt ar pa := by
  have i16 : vp_in (nI i) 16 := vp_in_nI (by omega) (by omega)
  have en : (nI i).toNatClampNeg = i := nI_clamp (by omega)
  refine ⟨i16, ?_⟩
  rw [en]
  refine xa_writeOctal 3 (nI_add o 12) (by omega) ⟨i16, ?_⟩
  refine xa_writeOctal 3 (nI_add o 16) (by omega) ⟨i16, ?_⟩
  refine xa_typeflag ?_
  have ei : nI o + 26 = nI (o + 26) := nI_add o 26
  refine ⟨by rw [ei]; exact vp_in_nI (by omega) (by omega), nm_r (e' := ta_wr (ta_wr (ta_wr ar (o + 12) (ta_ol 3 (md i))) (o + 16) (ta_ol 3 (sz i))) (o + 26) [ta_ty (kd i)]) (by rw [ei, nI_clamp (by omega), ta_wr_1]) ?_⟩
  have := xa_h120 (fa := fa) (fb := fb) (fl := fl) (fe := fe) (fp := fp) (fn := fn) (ft := ft) (ct := ct) (kd := kd) (pr := pr) (nm := nm) (md := md) (sz := sz) (tg := tg) (dt := dt) (pa := pa) ho h 9 0 (by omega) (by omega)
  rw [List.take_zero, ta_wr_nil] at this
  exact ⟨9, this⟩
end
end
section
/-! 13: the component's create, whole -/
section
variable {fa fb fl fe fp fn ft : Int32} {ct kd pr nm md sz tg dt ar pa : Nat → Int32} {P : Nat → List Int32} {c : Nat}
theorem ta_wr_take {a : Nat → Int32} {L : List Int32} {k : Nat} (h : k ≤ L.length) : ta_sg (ta_wr a 0 L) 0 k = L.take k := by
  rw [← ta_take_sg (ta_wr a 0 L) 0 h, ta_wr_sg]
theorem ta_wr_drop {a : Nat → Int32} {L : List Int32} {k : Nat} (h : k ≤ L.length) : ta_sg (ta_wr a 0 L) k (L.length - k) = L.drop k := by
  have := ta_drop_sg (ta_wr a 0 L) 0 h
  rw [ta_wr_sg, Nat.zero_add] at this
  exact this.symm
theorem xa_writePath0 {post : St2 → Prop} {m o : Nat} {p2 : Int32} (e : p2 = nI o) (hf : m ≤ 30) (ho : o + m ≤ 768) (h : post (fa, fb, fl, fe, fp, fn, ft, ct, kd, pr, nm, md, sz, tg, dt, ta_wr ar o (ta_sg pa 0 m), pa)) :
    wpX_writePath post (fa, fb, fl, fe, fp, fn, ft, ct, kd, pr, nm, md, sz, tg, dt, ar, pa) 0 (nI m) p2 := by
  have hw := xa_writePath (f := 0) (m := m) e (by omega) ho h
  rw [Nat.zero_add] at hw
  exact hw
theorem xa_writeHeader (T : ta_Tr 0 c kd pr nm P) (hc : c ≤ 8) (X : ∀ i, i < c → ta_Nx 0 kd sz tg i) {post : St2 → Prop} {i o : Nat} (hi : i < c) (hft : ta_ft kd tg P i) (ho : o + 64 ≤ 768)
    (h : ∀ pa', post (fa, fb, fl, fe, fp, fn, ft, ct, kd, pr, nm, md, sz, tg, dt, ta_h ar o (P i) (ta_lk kd tg P i) (md i) (sz i) (ta_ty (kd i)), pa')) :
    wpX_writeHeader post (fa, fb, fl, fe, fp, fn, ft, ct, kd, pr, nm, md, sz, tg, dt, ar, pa) (nI i) (nI o) := by
  have h29 := ta_P_29 T hi
  have K : ∀ pa', wpX_writePath (fun u => match u with
      | (fa, fb, fl, fe, fp, fn, ft, ct, kd, pr, nm, md, sz, tg, dt, ar, pa) => (vp_in (nI i) 16 ∧ ((((kd (nI i).toNatClampNeg) = 2 → (vp_in (nI i) 16 ∧ (wpX_loadSourcePath (fun r_159 u => match u with
        | (fa, fb, fl, fe, fp, fn, ft, ct, kd, pr, nm, md, sz, tg, dt, ar, pa) => (wpX_writePath (fun u => match u with
          | (fa, fb, fl, fe, fp, fn, ft, ct, kd, pr, nm, md, sz, tg, dt, ar, pa) => (wX_writeHeader_69 post (nI i) (nI o) fa fb fl fe fp fn ft ct kd pr nm md sz tg dt ar pa)) (fa, fb, fl, fe, fp, fn, ft, ct, kd, pr, nm, md, sz, tg, dt, ar, pa) 0 r_159 (nI o + 27))) (fa, fb, fl, fe, fp, fn, ft, ct, kd, pr, nm, md, sz, tg, dt, ar, pa) (tg (nI i).toNatClampNeg)))) ∧ (¬ (kd (nI i).toNatClampNeg) = 2 → (wX_writeHeader_69 post (nI i) (nI o) fa fb fl fe fp fn ft ct kd pr nm md sz tg dt ar pa)))))) (fa, fb, fl, fe, fp, fn, ft, ct, kd, pr, nm, md, sz, tg, dt, ta_wr ar (o + 47) ((P i).take (ta_nb (P i) - 1)), ta_wr pa' 0 (P i)) (nI (ta_nb (P i))) (nI (ta_nb (P i) + ((P i).length - ta_nb (P i)))) (nI o + 0) := by
    intro pa'
    have hnb : ta_nb (P i) ≤ (P i).length ∧ (P i).length - ta_nb (P i) ≤ 12 := by
      rcases ta_nb_spec hft.1 with ⟨a, _, b⟩ | ⟨s, _, _, a, b, _, _, d⟩
      · rw [b]; omega
      · rw [d]; omega
    refine xa_writePath (nI_add o 0) (by omega) (by omega) ?_
    rw [ta_wr_drop hnb.1]
    refine ⟨vp_in_nI (by omega) (by omega), ?_⟩
    rw [nI_clamp (by omega)]
    refine br_c (fun k2 => ⟨vp_in_nI (by omega) (by omega), ?_⟩) (fun k2 => xa_h69 (by omega) ho ?_)
    · obtain ⟨_, hx, _⟩ := X i hi
      simp only [Nat.zero_add] at hx
      obtain ⟨q, hq, e, _⟩ := hx k2
      have en : ta_n (tg i) = q := by unfold ta_n; rw [e, nI_clamp (by omega)]
      have hl := hft.2 k2
      rw [en] at hl
      rw [e]
      refine xa_loadSourcePath T hc (by omega) ?_
      refine xa_writePath0 (nI_add o 27) (by omega) (by omega) (xa_h69 (by omega) ho ?_)
      rw [ta_wr_sg]
      have hlk : ta_lk kd tg P i = P q := by unfold ta_lk; rw [if_pos k2, en]
      have := h (ta_wr (ta_wr pa' 0 (P i)) 0 (P q))
      rw [hlk] at this
      exact this
    · have hlk : ta_lk kd tg P i = [] := by unfold ta_lk; rw [if_neg k2]
      have := h (ta_wr pa' 0 (P i))
      rw [hlk] at this
      unfold ta_h ta_h0 at this
      rw [ta_wr_nil] at this
      exact this
  unfold wpX_writeHeader
  refine xa_loadSourcePath T hc hi ?_
  refine xa_splitPlace h29 (fun k hk => ta_g_wr hk) ?_
  have K := K pa
  rcases ta_nb_spec hft.1 with ⟨a, b, d⟩ | ⟨s, a1, a2, a3, a4, a5, b, d⟩
  · rw [b]
    refine xa_writePathE ?_
    rw [d] at K
    rw [Nat.sub_zero, Nat.zero_add, Nat.zero_sub, List.take_zero, ta_wr_nil] at K
    exact K
  · rw [b]
    refine xa_writePath0 (nI_add o 47) (by omega) (by omega) ?_
    rw [ta_wr_take (by omega)]
    rw [d, show s + 1 + ((P i).length - (s + 1)) = (P i).length by omega, show s + 1 - 1 = s by omega] at K
    rw [nI_1]
    exact K
theorem xa_wd {post : St2 → Prop} {i o s : Nat} (hi : i < 8) (hs : sz i = nI s) (hs2 : s ≤ 32) (ho : o + 32 ≤ 768) (h : post (fa, fb, fl, fe, fp, fn, ft, ct, kd, pr, nm, md, sz, tg, dt, ta_wr ar o (ta_sg dt (32 * i) s), pa)) :
    ∀ n k, k ≤ s → s < k + n → wX_writeData_2 post (nI i) (nI o) fa fb fl fe fp fn ft n (nI k) ct kd pr nm md sz tg dt (ta_wr ar o (ta_sg dt (32 * i) k)) pa := by
  intro n
  induction n with
  | zero => intro k _ g; omega
  | succ n ih =>
    intro k g1 g2
    have e : sz (nI i).toNatClampNeg = nI s := by rw [nI_clamp (by omega)]; exact hs
    have ei : nI i * 32 + nI k = nI (32 * i + k) := by rw [show (32 : Int32) = nI 32 from rfl, pk_mul, nI_add, Nat.mul_comm]
    have eo : nI o + nI k = nI (o + k) := nI_add _ _
    refine ⟨vp_in_nI (by omega) (by omega), pk_le s k (fun g => ?_) (fun g => ⟨by rw [ei]; exact vp_in_nI (by omega) (by omega), by rw [eo]; exact vp_in_nI (by omega) (by omega), nm_r (e' := ta_wr ar o (ta_sg dt (32 * i) (k + 1))) ?_ (nm_r (nI_1 k) (ih (k + 1) (by omega) (by omega)))⟩) (hx := e)⟩
    · rw [show k = s by omega]; exact h
    · rw [ei, eo, nI_clamp (by omega), nI_clamp (by omega), ta_sg_S, ← ta_wr_snoc, ta_sg_len]
theorem xa_writeData {post : St2 → Prop} {i o s : Nat} (hi : i < 8) (hs : sz i = nI s) (hs2 : s ≤ 32) (ho : o + 32 ≤ 768) (h : post (fa, fb, fl, fe, fp, fn, ft, ct, kd, pr, nm, md, sz, tg, dt, ta_wr ar o (ta_sg dt (32 * i) s), pa)) :
    wpX_writeData post (fa, fb, fl, fe, fp, fn, ft, ct, kd, pr, nm, md, sz, tg, dt, ar, pa) (nI i) (nI o) := by
  have := xa_wd (fa := fa) (fb := fb) (fl := fl) (fe := fe) (fp := fp) (fn := fn) (ft := ft) (ct := ct) (kd := kd) (pr := pr) (nm := nm) (md := md) (tg := tg) hi hs hs2 ho h (s + 1) 0 (Nat.zero_le _) (by omega)
  rw [ta_sg_0, ta_wr_nil] at this
  exact ⟨s + 1, this⟩
theorem xa_c64 (T : ta_Tr 0 c kd pr nm P) (hc : c ≤ 8) (X : ∀ i, i < c → ta_Nx 0 kd sz tg i) (hft : ∀ i, i < c → ta_ft kd tg P i) {post : Int32 → St2 → Prop} {z : Nat → Int32} {B : Int32} (hB : c + ta_fc sz c ≤ 10)
    (h : ∀ pa', post B (fa, fb, fl, fe, fp, fn, ft, ct, kd, pr, nm, md, sz, tg, dt, ta_cr kd md sz tg dt P z c, pa')) :
    ∀ n k pa, k ≤ c → c < k + n → wX_create_64 post (nI c) B n (nI (ta_of sz k)) (nI k) fa fb fl fe fp fn ft ct kd pr nm md sz tg dt (ta_cr kd md sz tg dt P z k) pa := by
  intro n
  induction n with
  | zero => intro k _ _ g; omega
  | succ n ih =>
    intro k pa g1 g2
    refine pk_le c k (fun g => ?_) (fun g => ?_)
    · rw [show k = c by omega]; exact h pa
    · have hm := ta_fc_mono sz (show k + 1 ≤ c by omega)
      have hm0 := ta_fc_mono sz (show k ≤ c by omega)
      have eo : ta_of sz k = 64 * (k + ta_fc sz k) := rfl
      obtain ⟨_, _, ⟨s, s1, s2⟩, _⟩ := X k g
      rw [Nat.zero_add] at s2
      have en : ta_n (sz k) = s := by unfold ta_n; rw [s2, nI_clamp (by omega)]
      refine xa_writeHeader T hc X g (hft k g) (by omega) (fun pa' => ?_)
      refine nm_r (nI_add (ta_of sz k) 64) ⟨vp_in_nI (by omega) (by omega), ?_⟩
      rw [nI_clamp (by omega)]
      refine pk_le s 0 (fun w => nm_r (nI_1 k) ?_) (fun w => ?_) (hx := s2)
      · have e1 : ta_of sz (k + 1) = ta_of sz k + 64 := by
          have : ta_of sz (k + 1) = 64 * (k + 1 + ta_fc sz (k + 1)) := rfl
          rw [this, ta_fc_z (by omega)]; omega
        have e2 : ta_cr kd md sz tg dt P z (k + 1) = ta_h (ta_cr kd md sz tg dt P z k) (ta_of sz k) (P k) (ta_lk kd tg P k) (md k) (sz k) (ta_ty (kd k)) := if_neg (by omega)
        have := ih (k + 1) pa' (by omega) (by omega)
        rw [e1, e2] at this
        exact this
      · have hp := ta_fc_p (sz := sz) (k := k) (by omega)
        have e1 : ta_of sz (k + 1) = ta_of sz k + 64 + 64 := by
          have : ta_of sz (k + 1) = 64 * (k + 1 + ta_fc sz (k + 1)) := rfl
          rw [this, hp]; omega
        have e2 : ta_cr kd md sz tg dt P z (k + 1) = ta_wr (ta_h (ta_cr kd md sz tg dt P z k) (ta_of sz k) (P k) (ta_lk kd tg P k) (md k) (sz k) (ta_ty (kd k))) (ta_of sz k + 64) (ta_sg dt (32 * k) (ta_n (sz k))) := if_pos (by omega)
        have := ih (k + 1) pa' (by omega) (by omega)
        rw [e1, e2, en] at this
        exact xa_writeData (by omega) s2 s1 (by omega) (nm_r (nI_add (ta_of sz k + 64) 64) (nm_r (nI_1 k) this))
theorem xa_c9 (T : ta_Tr 0 c kd pr nm P) (hc : c ≤ 8) (X : ∀ i, i < c → ta_Nx 0 kd sz tg i) (hct : ct 0 = nI c) {mb : Nat} (hmb : mb ≤ 12) {post : Int32 → St2 → Prop}
    (h1 : (∀ i, i < c → ta_ft kd tg P i) → c + 2 + ta_fc sz c ≤ mb → ∀ pa', post (nI (c + 2 + ta_fc sz c)) (fa, nI mb, nI (64 * (c + 2 + ta_fc sz c)), fe, fp, fn, ft, ct, kd, pr, nm, md, sz, tg, dt, ta_cr kd md sz tg dt P (ta_cz ar 768) c, pa'))
    (h2 : (∀ i, i < c → ta_ft kd tg P i) → mb < c + 2 + ta_fc sz c → ∀ pa', post (-12) (fa, nI mb, fl, fe, fp, fn, ft, ct, kd, pr, nm, md, sz, tg, dt, ar, pa'))
    (h3 : (¬ ∀ i, i < c → ta_ft kd tg P i) → ∀ pa', post (-11) (fa, nI mb, fl, fe, fp, fn, ft, ct, kd, pr, nm, md, sz, tg, dt, ar, pa')) :
    ∀ n k pa, k ≤ c → c < k + n → (∀ i, i < k → ta_ft kd tg P i) → wX_create_9 post (nI c) n (nI k) fa (nI mb) fl fe fp fn ft ct kd pr nm md sz tg dt ar pa := by
  have hfl := ta_fc_le sz c
  intro n
  induction n with
  | zero => intro k _ _ g; omega
  | succ n ih =>
    intro k pa g1 g2 g3
    refine pk_le c k (fun g => ?_) (fun g => ?_)
    · have hft : ∀ i, i < c → ta_ft kd tg P i := fun i hi => g3 i (by omega)
      refine xa_blocksNeeded hc hct (fun i hi => by obtain ⟨_, _, ⟨s, s1, s2⟩, _⟩ := X i hi; rw [Nat.zero_add] at s2; exact ⟨s, s1, s2⟩) ?_
      refine pk_le (c + 2 + ta_fc sz c) mb (fun w => ?_) (fun w => h2 hft w pa)
      refine nm_r (e' := nI (64 * (c + 2 + ta_fc sz c))) (by rw [show (64 : Int32) = nI 64 from rfl, pk_mul, Nat.mul_comm]) (xa_clearArchive ⟨c + 1, ?_⟩)
      exact xa_c64 T hc X hft (by omega) (h1 hft w) (c + 1) 0 pa (Nat.zero_le _) (by omega)
    · refine xa_pathsFit T hc X g (fun w => br_f (by decide) (nm_r (nI_1 k) (ih (k + 1) _ (by omega) (by omega) (fun i hi => ?_)))) (fun w => br_t rfl (h3 (fun y => w (y k g)) _))
      rcases Nat.lt_or_ge i k with y | y
      · exact g3 i y
      · rw [show i = k by omega]; exact w
theorem xa_create (T : ta_Tr 0 c kd pr nm P) (hc : c ≤ 8) (X : ∀ i, i < c → ta_Nx 0 kd sz tg i) (hct : ct 0 = nI c) {mb : Nat} (hmb : mb ≤ 12) {post : Int32 → St2 → Prop}
    (h1 : (∀ i, i < c → ta_ft kd tg P i) → c + 2 + ta_fc sz c ≤ mb → ∀ pa', post (nI (c + 2 + ta_fc sz c)) (fa, nI mb, nI (64 * (c + 2 + ta_fc sz c)), fe, fp, fn, ft, ct, kd, pr, nm, md, sz, tg, dt, ta_cr kd md sz tg dt P (ta_cz ar 768) c, pa'))
    (h2 : (∀ i, i < c → ta_ft kd tg P i) → mb < c + 2 + ta_fc sz c → ∀ pa', post (-12) (fa, nI mb, fl, fe, fp, fn, ft, ct, kd, pr, nm, md, sz, tg, dt, ar, pa'))
    (h3 : (¬ ∀ i, i < c → ta_ft kd tg P i) → ∀ pa', post (-11) (fa, nI mb, fl, fe, fp, fn, ft, ct, kd, pr, nm, md, sz, tg, dt, ar, pa')) :
    wpX_create post (fa, nI mb, fl, fe, fp, fn, ft, ct, kd, pr, nm, md, sz, tg, dt, ar, pa) :=
  nm_r hct ⟨c + 1, xa_c9 T hc X hct hmb h1 h2 h3 (c + 1) 0 pa (Nat.zero_le _) (by omega) (fun i hi => by omega)⟩
end
end
section
/-! 14: what the component looks at in a header -/
theorem ta_by_of {x : Int32} (h : ta_by x) : ∃ n, n < 256 ∧ x = nI n := h
section
variable {fa fb fl fe fp fn ft : Int32} {ct kd pr nm md sz tg dt ar pa : Nat → Int32} {P : Nat → List Int32} {c : Nat}
theorem xa_iz {post : Int32 → Prop} {f m : Nat} (hf : f + m ≤ 768) (h1 : ta_z ar f m → post 1) (h0 : ¬ ta_z ar f m → post 0) : ∀ n k, k ≤ m → m < k + n → (∀ j, j < k → ar (f + j) = 0) → wX_isZero_2 post (nI (f + m)) fa fb fl fe fp fn ft ct kd pr nm md sz tg dt ar pa n (nI (f + k)) := by
  intro n
  induction n with
  | zero => intro k _ g; omega
  | succ n ih =>
    intro k g1 g2 g3
    refine pk_le (f + m) (f + k) (fun g => h1 (fun j hj => g3 j (by omega))) (fun g => ⟨vp_in_nI (by omega) (by omega), ?_⟩)
    rw [nI_clamp (by omega)]
    refine br_c (fun z => nm_r (nI_1 (f + k)) (ih (k + 1) (by omega) (by omega) (fun j hj => ?_))) (fun z => h0 (fun w => z (w k (by omega))))
    rcases Nat.lt_or_ge j k with y | y
    · exact g3 j y
    · rw [show j = k by omega]; exact z
theorem xa_isZero {post : Int32 → Prop} {p0 p1 : Int32} (f m : Nat) (e0 : p0 = nI f) (e1 : p1 = nI (f + m)) (hf : f + m ≤ 768) (h1 : ta_z ar f m → post 1) (h0 : ¬ ta_z ar f m → post 0) : wpX_isZero post (fa, fb, fl, fe, fp, fn, ft, ct, kd, pr, nm, md, sz, tg, dt, ar, pa) p0 p1 := by
  subst e0 e1
  exact ⟨m + 1, xa_iz hf h1 h0 (m + 1) 0 (Nat.zero_le _) (by omega) (fun j hj => by omega)⟩
theorem xa_isWhole {post : Int32 → Prop} {p0 : Int32} {L b : Nat} (e : p0 = nI b) (hL : L ≤ 768) (hb : b < 1000) (h1 : 64 * (b + 1) ≤ L → post 1) (h0 : L < 64 * (b + 1) → post 0) : wpX_isWhole post (fa, fb, nI L, fe, fp, fn, ft, ct, kd, pr, nm, md, sz, tg, dt, ar, pa) p0 := by
  have ei : 64 * (p0 + 1) = nI (64 * (b + 1)) := by rw [e, nI_1, show (64 : Int32) = nI 64 from rfl, pk_mul]
  exact pk_lt L (64 * (b + 1)) h0 h1 (hy := ei)
theorem xa_ov {post : Int32 → Prop} {o d : Nat} (hb : ∀ j, ta_by (ar j)) (ho : o + d < 768) (hd : d ≤ 5) (h1 : ta_ok ar o d → post (nI (ta_ov ar o d))) (h0 : ¬ ta_ok ar o d → post (-1)) :
    ∀ n k, k ≤ d → d < k + n → ta_od ar o k → wX_octalValue_5 post (nI o) (nI d) fa fb fl fe fp fn ft ct kd pr nm md sz tg dt ar pa n (nI (ta_ov ar o k)) (nI k) := by
  intro n
  induction n with
  | zero => intro k _ g; omega
  | succ n ih =>
    intro k g1 g2 g3
    have ed : nI o + nI d = nI (o + d) := nI_add _ _
    have ek : nI o + nI k = nI (o + k) := nI_add _ _
    refine pk_le d k (fun g => ⟨by rw [ed]; exact vp_in_nI (by omega) (by omega), ?_⟩) (fun g => ⟨by rw [ek]; exact vp_in_nI (by omega) (by omega), nm_r (by rw [ek, nI_clamp (by omega)]) ?_⟩)
    · have e : k = d := by omega
      rw [ed, nI_clamp (by omega)]
      subst e
      exact br_c (fun z => h1 ⟨g3, z⟩) (fun z => h0 (fun w => z w.2))
    · refine br_c (fun z => h0 (fun w => Int32.not_lt.mpr (w.1 k g).1 z)) (fun z => br_c (fun w => ?_) (fun w => h0 (fun y => w (y.1 k g).2)))
      obtain ⟨m, m1, m2, m3⟩ := ta_dg ⟨Int32.not_lt.mp z, w⟩
      refine nm_r (e' := nI (ta_ov ar o (k + 1))) ?_ (nm_r (nI_1 k) (ih (k + 1) (by omega) (by omega) (fun j hj => ?_)))
      · show _ = nI (ta_ov ar o k * 8 + (ta_n (ar (o + k)) - 48))
        rw [m3, m2, show (8 : Int32) = nI 8 from rfl, pk_mul, nI_add, show (48 : Int32) = nI 48 from rfl, pk_sub (by omega)]
        exact congrArg nI (by omega)
      · rcases Nat.lt_or_ge j k with y | y
        · exact g3 j y
        · rw [show j = k by omega]; exact ⟨Int32.not_lt.mp z, w⟩
theorem xa_octalValue {post : Int32 → Prop} {p0 : Int32} {o : Nat} (d : Nat) (e : p0 = nI o) (hb : ∀ j, ta_by (ar j)) (ho : o + d < 768) (hd : d ≤ 5) (h1 : ta_ok ar o d → post (nI (ta_ov ar o d))) (h0 : ¬ ta_ok ar o d → post (-1)) :
    wpX_octalValue post (fa, fb, fl, fe, fp, fn, ft, ct, kd, pr, nm, md, sz, tg, dt, ar, pa) p0 (nI d) := by
  subst e
  exact ⟨d + 1, xa_ov hb ho hd h1 h0 (d + 1) 0 (Nat.zero_le _) (by omega) (fun j hj => by omega)⟩
theorem xa_hm {post : Int32 → Prop} {o : Nat} (ho : o + 64 ≤ 768) (h1 : ta_Mg ar o → post 1) (h0 : ¬ ta_Mg ar o → post 0) : ∀ n k, k ≤ 8 → 8 < k + n → (∀ j, j < k → ar (o + 39 + j) = ta_mg.getD j 0) → wX_hasMagic_2 post (nI o) fa fb fl fe fp fn ft ct kd pr nm md sz tg dt ar pa n (nI k) := by
  intro n
  induction n with
  | zero => intro k _ g; omega
  | succ n ih =>
    intro k g1 g2 g3
    have ei : nI o + 39 + nI k = nI (o + 39 + k) := by rw [show (39 : Int32) = nI 39 from rfl, nI_add, nI_add]
    refine pk_le 8 k (fun g => h1 (fun j hj => g3 j (by omega))) (fun g => ⟨by rw [ei]; exact vp_in_nI (by omega) (by omega), xa_magicByte g ?_⟩)
    rw [ei, nI_clamp (by omega)]
    refine br_c (fun z => nm_r (nI_1 k) (ih (k + 1) (by omega) (by omega) (fun j hj => ?_))) (fun z => h0 (fun w => z (w k g)))
    rcases Nat.lt_or_ge j k with y | y
    · exact g3 j y
    · rw [show j = k by omega]; exact z
theorem xa_hasMagic {post : Int32 → Prop} {o : Nat} (ho : o + 64 ≤ 768) (h1 : ta_Mg ar o → post 1) (h0 : ¬ ta_Mg ar o → post 0) : wpX_hasMagic post (fa, fb, fl, fe, fp, fn, ft, ct, kd, pr, nm, md, sz, tg, dt, ar, pa) (nI o) :=
  ⟨9, xa_hm ho h1 h0 9 0 (by omega) (by omega) (fun j hj => by omega)⟩
theorem xa_h62 {post : Int32 → Prop} {o : Nat} (hb : ∀ j, ta_by (ar j)) (ho : o + 64 ≤ 768) (a1 : ta_Ck ar o) (a2 : ta_Mg ar o) (a3 : ta_Ty ar o) (h : ∀ r, ta_HF ar o r → post r) :
    wX_headerFault_62 post (nI o) (ar (o + 26)) fa fb fl fe fp fn ft ct kd pr nm md sz tg dt ar pa := by
  have F : ¬ (ta_Fl ar o ∧ ta_Sz ar o) → post (-18) := fun w => h _ (Or.inr (Or.inr (Or.inr (Or.inl ⟨a1, a2, a3, w, rfl⟩))))
  unfold wX_headerFault_62
  refine xa_octalValue 3 (nI_add o 12) hb (by omega) (by omega) (fun m1 => ?_) (fun m0 => ?_)
  · refine xa_octalValue 3 (nI_add o 16) hb (by omega) (by omega) (fun s1 => ?_) (fun s0 => ?_)
    · have b1 := ta_ov_lt 3 m1.1
      have b2 := ta_ov_lt 3 s1.1
      refine br_f (ta_m1 (by omega)) (br_f (ta_m1 (by omega)) ?_)
      refine xa_isZero (o + 57) 7 (nI_add o 57) (nI_add o 64) (by omega) (fun z1 => br_f (by decide) ?_) (fun z0 => br_t rfl (F (fun w => z0 w.1.2.2)))
      have L : ta_Sz ar o → wX_headerFault_126 post (nI (ta_ov ar (o + 16) 3)) fa fb fl fe fp fn ft ct kd pr nm md sz tg dt ar pa := fun s =>
        pk_le (ta_ov ar (o + 16) 3) 32 (fun g => h 0 (Or.inr (Or.inr (Or.inr (Or.inr (Or.inr ⟨a1, a2, a3, ⟨m1, s1, z1⟩, s, g, rfl⟩))))))
          (fun g => h _ (Or.inr (Or.inr (Or.inr (Or.inr (Or.inl ⟨a1, a2, a3, ⟨m1, s1, z1⟩, s, by omega, rfl⟩))))))
      refine br_c (fun t => L (fun w => absurd t w)) (fun t => ?_)
      exact pk_eq (ta_ov ar (o + 16) 3) 0 (fun g => L (fun _ => g)) (fun g => F (fun w => g (w.2 t)))
    · have b1 := ta_ov_lt 3 m1.1
      exact br_f (ta_m1 (by omega)) (br_t rfl (F (fun w => s0 w.1.2.1)))
  · refine xa_octalValue 3 (nI_add o 16) hb (by omega) (by omega) (fun s1 => br_t rfl (F (fun w => m0 w.1.1))) (fun s0 => br_t rfl (F (fun w => m0 w.1.1)))
theorem xa_headerFault {post : Int32 → Prop} {o : Nat} (hb : ∀ j, ta_by (ar j)) (ho : o + 64 ≤ 768) (h : ∀ r, ta_HF ar o r → post r) : wpX_headerFault post (fa, fb, fl, fe, fp, fn, ft, ct, kd, pr, nm, md, sz, tg, dt, ar, pa) (nI o) := by
  unfold wpX_headerFault
  have R : ta_Ck ar o → wpX_hasMagic (fun r_38 => (((r_38 = 0 → (post (-16))) ∧ (¬ r_38 = 0 → (vp_in (nI o + 26) 768 ∧ (∀ x2_58, x2_58 = ar (nI o + 26).toNatClampNeg → (((x2_58 = 48 → (wX_headerFault_62 post (nI o) x2_58 fa fb fl fe fp fn ft ct kd pr nm md sz tg dt ar pa)) ∧ (¬ x2_58 = 48 → (((x2_58 = 49 → (wX_headerFault_62 post (nI o) x2_58 fa fb fl fe fp fn ft ct kd pr nm md sz tg dt ar pa)) ∧ (¬ x2_58 = 49 → (((x2_58 = 53 → (wX_headerFault_62 post (nI o) x2_58 fa fb fl fe fp fn ft ct kd pr nm md sz tg dt ar pa)) ∧ (¬ x2_58 = 53 → (post (-17))))))))))))))))) (fa, fb, fl, fe, fp, fn, ft, ct, kd, pr, nm, md, sz, tg, dt, ar, pa) (nI o) := by
    intro a1
    refine xa_hasMagic ho (fun a2 => br_f (by decide) ?_) (fun a2 => br_t rfl (h _ (Or.inr (Or.inl ⟨a1, a2, rfl⟩))))
    have ei : nI o + 26 = nI (o + 26) := nI_add o 26
    refine ⟨by rw [ei]; exact vp_in_nI (by omega) (by omega), nm_r (e' := ar (o + 26)) (by rw [ei, nI_clamp (by omega)]) ?_⟩
    refine br_c (fun z => xa_h62 hb ho a1 a2 (Or.inl z) h) (fun z => br_c (fun w => xa_h62 hb ho a1 a2 (Or.inr (Or.inl w)) h) (fun w => br_c (fun y => xa_h62 hb ho a1 a2 (Or.inr (Or.inr y)) h) (fun y => ?_)))
    exact h _ (Or.inr (Or.inr (Or.inl ⟨a1, a2, fun q => q.elim z (fun q => q.elim w y), rfl⟩)))
  refine xa_octalValue 5 (nI_add o 20) hb (by omega) (by omega) (fun k1 => ?_) (fun k0 => ?_)
  · refine xa_checksum ho (br_c (fun z => R ⟨k1, z⟩) (fun z => h _ (Or.inl ⟨fun w => z w.2, rfl⟩)))
  · obtain ⟨m, m1, m2⟩ := ta_cs_by (o := o) hb 64 (by omega)
    refine xa_checksum ho (br_f (fun z => ?_) (h _ (Or.inl ⟨fun w => k0 w.1, rfl⟩)))
    rw [m2] at z
    exact ta_m1 (by omega) z.symm
theorem xa_tl {post : Int32 → Prop} {o m : Nat} (ho : o + m ≤ 768) (h : post (nI (ta_tl ar o m))) : ∀ n k, k ≤ m → m < k + n → (∀ j, j < k → ar (o + j) ≠ 0) → wX_textLength_2 post (nI o) (nI m) fa fb fl fe fp fn ft ct kd pr nm md sz tg dt ar pa n (nI k) := by
  intro n
  induction n with
  | zero => intro k _ g; omega
  | succ n ih =>
    intro k g1 g2 g3
    have ek : nI o + nI k = nI (o + k) := nI_add _ _
    refine pk_le m k (fun g => ?_) (fun g => ⟨by rw [ek]; exact vp_in_nI (by omega) (by omega), ?_⟩)
    · rw [← ta_tl_uniq g1 g3 (fun y => by omega)] at h; exact h
    · rw [ek, nI_clamp (by omega)]
      refine br_c (fun z => ?_) (fun z => nm_r (nI_1 k) (ih (k + 1) (by omega) (by omega) (fun j hj => ?_)))
      · rw [← ta_tl_uniq g1 g3 (fun _ => z)] at h; exact h
      · rcases Nat.lt_or_ge j k with y | y
        · exact g3 j y
        · rw [show j = k by omega]; exact z
theorem xa_textLength {post : Int32 → Prop} {p0 : Int32} {o : Nat} (m : Nat) (e : p0 = nI o) (ho : o + m ≤ 768) (h : post (nI (ta_tl ar o m))) : wpX_textLength post (fa, fb, fl, fe, fp, fn, ft, ct, kd, pr, nm, md, sz, tg, dt, ar, pa) p0 (nI m) := by
  subst e
  exact ⟨m + 1, xa_tl ho h (m + 1) 0 (Nat.zero_le _) (by omega) (fun j hj => by omega)⟩
theorem xa_lh57 {post : Int32 → St2 → Prop} {o s m : Nat} (ho : o + m ≤ 768) (hs : s + m ≤ 30) (h : post (nI (s + m)) (fa, fb, fl, fe, fp, fn, ft, ct, kd, pr, nm, md, sz, tg, dt, ar, ta_wr pa s (ta_sg ar o m))) :
    ∀ n k, k ≤ m → m < k + n → wX_loadHeaderPath_57 post (nI o) (nI m) (nI s) fa fb fl fe fp fn ft n (nI k) ct kd pr nm md sz tg dt ar (ta_wr pa s (ta_sg ar o k)) := by
  intro n
  induction n with
  | zero => intro k _ g; omega
  | succ n ih =>
    intro k g1 g2
    have ei : nI o + 0 + nI k = nI (o + k) := by rw [show (0 : Int32) = nI 0 from rfl, nI_add, nI_add]; rfl
    have es : nI s + nI k = nI (s + k) := nI_add _ _
    refine pk_le m k (fun g => ?_) (fun g => ⟨by rw [ei]; exact vp_in_nI (by omega) (by omega), by rw [es]; exact vp_in_nI (by omega) (by omega), nm_r (e' := ta_wr pa s (ta_sg ar o (k + 1))) ?_ (nm_r (nI_1 k) (ih (k + 1) (by omega) (by omega)))⟩)
    · rw [nI_add, show k = m by omega]; exact h
    · rw [ei, es, nI_clamp (by omega), nI_clamp (by omega), ta_sg_S, ← ta_wr_snoc, ta_sg_len]
theorem xa_lh57z {post : Int32 → St2 → Prop} {o s m : Nat} (ho : o + m ≤ 768) (hs : s + m ≤ 30) (h : post (nI (s + m)) (fa, fb, fl, fe, fp, fn, ft, ct, kd, pr, nm, md, sz, tg, dt, ar, ta_wr pa s (ta_sg ar o m))) :
    ∃ n, wX_loadHeaderPath_57 post (nI o) (nI m) (nI s) fa fb fl fe fp fn ft n 0 ct kd pr nm md sz tg dt ar pa := by
  have := xa_lh57 ho hs h (m + 1) 0 (Nat.zero_le _) (by omega)
  rw [ta_sg_0, ta_wr_nil] at this
  exact ⟨_, this⟩
theorem xa_lh10 {post : Int32 → St2 → Prop} {o p m : Nat} (ho : o + 64 ≤ 768) (hp : p ≤ 10) (hm : m ≤ 12) (h : post (nI (p + 1 + m)) (fa, fb, fl, fe, fp, fn, ft, ct, kd, pr, nm, md, sz, tg, dt, ar, ta_wr pa 0 (ta_sg ar (o + 47) p ++ 47 :: ta_sg ar o m))) :
    ∀ n k, k ≤ p → p < k + n → wX_loadHeaderPath_10 post (nI o) (nI p) (nI m) fa fb fl fe fp fn ft n (nI k) ct kd pr nm md sz tg dt ar (ta_wr pa 0 (ta_sg ar (o + 47) k)) := by
  intro n
  induction n with
  | zero => intro k _ g; omega
  | succ n ih =>
    intro k g1 g2
    have ei : nI o + 47 + nI k = nI (o + 47 + k) := by rw [show (47 : Int32) = nI 47 from rfl, nI_add, nI_add]
    refine pk_le p k (fun g => ⟨vp_in_nI (by omega) (by omega), nm_r (e' := ta_wr pa 0 (ta_sg ar (o + 47) p ++ [47])) ?_ (nm_r (nI_1 p) (xa_lh57z (by omega) (by omega) ?_))⟩) (fun g => ⟨by rw [ei]; exact vp_in_nI (by omega) (by omega), vp_in_nI (by omega) (by omega), nm_r (e' := ta_wr pa 0 (ta_sg ar (o + 47) (k + 1))) ?_ (nm_r (nI_1 k) (ih (k + 1) (by omega) (by omega)))⟩)
    · rw [show k = p by omega, nI_clamp (by omega), ← ta_wr_snoc, ta_sg_len, Nat.zero_add]
    · have hw := ta_wr_app pa 0 (ta_sg ar (o + 47) p ++ [47]) (ta_sg ar o m)
      rw [List.length_append, ta_sg_len, Nat.zero_add, List.append_assoc] at hw
      have hw : ta_wr (ta_wr pa 0 (ta_sg ar (o + 47) p ++ [47])) (p + 1) (ta_sg ar o m) = ta_wr pa 0 (ta_sg ar (o + 47) p ++ 47 :: ta_sg ar o m) := hw
      rw [hw]; exact h
    · rw [ei, nI_clamp (by omega), nI_clamp (by omega), ta_sg_S, ← ta_wr_snoc, ta_sg_len, Nat.zero_add]
theorem xa_loadHeaderPath {post : Int32 → St2 → Prop} {o : Nat} (ho : o + 64 ≤ 768) (h : post (nI (ta_T ar o).length) (fa, fb, fl, fe, fp, fn, ft, ct, kd, pr, nm, md, sz, tg, dt, ar, ta_wr pa 0 (ta_T ar o))) :
    wpX_loadHeaderPath post (fa, fb, fl, fe, fp, fn, ft, ct, kd, pr, nm, md, sz, tg, dt, ar, pa) (nI o) (nI (ta_tl ar (o + 47) 10)) (nI (ta_tl ar o 12)) := by
  have b1 := (ta_tl_spec ar 12 o).1
  have b2 := (ta_tl_spec ar 10 (o + 47)).1
  unfold ta_T at h
  refine pk_le (ta_tl ar (o + 47) 10) 0 (fun g => ?_) (fun g => ?_)
  · rw [if_pos (by omega), ta_sg_len] at h
    refine xa_lh57z (s := 0) (by omega) (by omega) ?_
    rw [Nat.zero_add]; exact h
  · rw [if_neg (by omega), List.length_append, List.length_cons, ta_sg_len, ta_sg_len] at h
    have := xa_lh10 ho b2 b1 (by rw [show ta_tl ar (o + 47) 10 + 1 + ta_tl ar o 12 = ta_tl ar (o + 47) 10 + (ta_tl ar o 12 + 1) by omega]; exact h) (ta_tl ar (o + 47) 10 + 1) 0 (Nat.zero_le _) (by omega)
    rw [ta_sg_0, ta_wr_nil] at this
    exact ⟨_, this⟩
theorem xa_pn_path {post : Int32 → Prop} {f m : Nat} (hf : f + m ≤ 30) (h4 : m ≤ 4) (h1 : (∀ j, j < m → ta_nc (pa (f + j))) → post (ta_pk pa f m)) (h0 : (¬ ∀ j, j < m → ta_nc (pa (f + j))) → post 0) :
    ∀ n k, k ≤ m → m < k + n → (∀ j, j < k → ta_nc (pa (f + j))) → wX_packName_21 post (nI f) (nI (f + m)) pa n (ta_pk pa f k) (nI (f + k)) := by
  intro n
  induction n with
  | zero => intro k _ g; omega
  | succ n ih =>
    intro k g1 g2 g3
    refine pk_le (f + m) (f + k) (fun g => ?_) (fun g => ⟨vp_in_nI (by omega) (by omega), nm_r (by rw [nI_clamp (by omega)]) ?_⟩)
    · have e : k = m := by omega
      subst e
      exact h1 g3
    · refine xa_isNameChar (fun z => br_f (by decide) (nm_r (e' := ta_pk pa f (k + 1)) ?_ (nm_r (nI_1 (f + k)) (ih (k + 1) (by omega) (by omega) (fun j hj => ?_))))) (fun z => br_t rfl (h0 (fun w => z (w k (by omega)))))
      · rw [pk_sub (by omega), show f + k - f = k by omega]; rfl
      · rcases Nat.lt_or_ge j k with y | y
        · exact g3 j y
        · rw [show j = k by omega]; exact z
theorem xa_packName_path {post : Int32 → Prop} {p1 p2 : Int32} (f m : Nat) (e1 : p1 = nI f) (e2 : p2 = nI (f + m)) (hf : f + m ≤ 30) (h1 : 1 ≤ m → m ≤ 4 → (∀ j, j < m → ta_nc (pa (f + j))) → post (ta_pk pa f m)) (h0 : ¬ (1 ≤ m ∧ m ≤ 4 ∧ ∀ j, j < m → ta_nc (pa (f + j))) → post 0) :
    wpX_packName post pa p1 p2 := by
  subst e1 e2
  have ei : nI (f + m) - nI f = nI m := by rw [pk_sub (by omega), show f + m - f = m by omega]
  refine pk_lt m 1 (fun g => h0 (fun w => by omega)) (fun g => pk_le m 4 (fun w => ⟨m + 1, ?_⟩) (fun w => h0 (fun y => by omega)) (hx := ei)) (hx := ei)
  exact xa_pn_path hf w (h1 g w) (fun y => h0 (fun q => y q.2.2)) (m + 1) 0 (Nat.zero_le _) (by omega) (fun j hj => by omega)
theorem xa_pn_archive {post : Int32 → Prop} {f m : Nat} (hf : f + m ≤ 768) (h4 : m ≤ 4) (h1 : (∀ j, j < m → ta_nc (ar (f + j))) → post (ta_pk ar f m)) (h0 : (¬ ∀ j, j < m → ta_nc (ar (f + j))) → post 0) :
    ∀ n k, k ≤ m → m < k + n → (∀ j, j < k → ta_nc (ar (f + j))) → wX_packName_2_21 post (nI f) (nI (f + m)) ar n (ta_pk ar f k) (nI (f + k)) := by
  intro n
  induction n with
  | zero => intro k _ g; omega
  | succ n ih =>
    intro k g1 g2 g3
    refine pk_le (f + m) (f + k) (fun g => ?_) (fun g => ⟨vp_in_nI (by omega) (by omega), nm_r (by rw [nI_clamp (by omega)]) ?_⟩)
    · have e : k = m := by omega
      subst e
      exact h1 g3
    · refine xa_isNameChar (fun z => br_f (by decide) (nm_r (e' := ta_pk ar f (k + 1)) ?_ (nm_r (nI_1 (f + k)) (ih (k + 1) (by omega) (by omega) (fun j hj => ?_))))) (fun z => br_t rfl (h0 (fun w => z (w k (by omega)))))
      · rw [pk_sub (by omega), show f + k - f = k by omega]; rfl
      · rcases Nat.lt_or_ge j k with y | y
        · exact g3 j y
        · rw [show j = k by omega]; exact z
theorem xa_packName_archive {post : Int32 → Prop} {p1 p2 : Int32} (f m : Nat) (e1 : p1 = nI f) (e2 : p2 = nI (f + m)) (hf : f + m ≤ 768) (h1 : 1 ≤ m → m ≤ 4 → (∀ j, j < m → ta_nc (ar (f + j))) → post (ta_pk ar f m)) (h0 : ¬ (1 ≤ m ∧ m ≤ 4 ∧ ∀ j, j < m → ta_nc (ar (f + j))) → post 0) :
    wpX_packName_2 post ar p1 p2 := by
  subst e1 e2
  have ei : nI (f + m) - nI f = nI m := by rw [pk_sub (by omega), show f + m - f = m by omega]
  refine pk_lt m 1 (fun g => h0 (fun w => by omega)) (fun g => pk_le m 4 (fun w => ⟨m + 1, ?_⟩) (fun w => h0 (fun y => by omega)) (hx := ei)) (hx := ei)
  exact xa_pn_archive hf w (h1 g w) (fun y => h0 (fun q => y q.2.2)) (m + 1) 0 (Nat.zero_le _) (by omega) (fun j hj => by omega)
end
end
section
/-! 15: the component's entries -/
section
variable {fa fb fl fe fp fn ft : Int32} {ct kd pr nm md sz tg dt ar pa : Nat → Int32} {P : Nat → List Int32} {c : Nat}
/-- the component that ends at k is a name -/
def ta_Gd (a : Nat → Int32) (k : Nat) : Prop := ∃ s, s < k ∧ k ≤ s + 4 ∧ (s = 0 ∨ a (s - 1) = 47) ∧ ∀ j, s ≤ j → j < k → ta_nc (a j)
theorem ta_St_Gd {a : Nat → Int32} {s k : Nat} (hs : ta_St a s k) : ta_Gd a k ↔ (1 ≤ k - s ∧ k - s ≤ 4 ∧ ∀ j, j < k - s → ta_nc (a (s + j))) := by
  constructor
  · rintro ⟨s', h1, h2, h3, h4⟩
    have V : s' = s := by
      obtain ⟨g1, g2, g3⟩ := hs
      rcases Nat.lt_trichotomy s' s with x | x | x
      · rcases g2 with y | y
        · omega
        · exact absurd y (ta_nc_ne (h4 (s - 1) (by omega) (by omega)))
      · exact x
      · rcases h3 with y | y
        · omega
        · exact absurd y (g3 (s' - 1) (by omega) (by omega))
    subst V
    exact ⟨by omega, by omega, fun j hj => h4 (s' + j) (by omega) (by omega)⟩
  · rintro ⟨h1, h2, h3⟩
    refine ⟨s, by omega, by omega, hs.2.1, fun j x y => ?_⟩
    have := h3 (j - s) (by omega)
    rwa [show s + (j - s) = j by omega] at this
theorem xa_vp7 {post : Int32 → Prop} {m : Nat} (hm : m < 30) (h1 : ta_VP pa m → (ta_sg pa 0 m).count 47 ≤ 5 → post 1) (h0 : ¬ (ta_VP pa m ∧ (ta_sg pa 0 m).count 47 ≤ 5) → post 0) :
    ∀ n k s, k ≤ m → m + 1 < k + n → ta_St pa s k → (∀ e, e < k → pa e = 47 → ta_Gd pa e) → wX_isValidPath_7 post (nI m) fa fb fl fe fp fn ft ct kd pr nm md sz tg dt ar pa n (nI ((ta_sg pa 0 k).count 47)) (nI s) (nI k) := by
  intro n
  induction n with
  | zero => intro k s _ g; omega
  | succ n ih =>
    intro k s g1 g2 g3 g4
    have hcl : ∀ j, (ta_sg pa 0 j).count 47 ≤ j := fun j => Nat.le_trans List.count_le_length (by rw [ta_sg_len]; exact Nat.le_refl _)
    have hck := hcl k
    have hs := g3.1
    have K : (k = m ∨ (k < m ∧ pa k = 47)) → wX_isValidPath_31 post (wX_isValidPath_7 post (nI m) fa fb fl fe fp fn ft ct kd pr nm md sz tg dt ar pa n) (nI m) (nI ((ta_sg pa 0 k).count 47)) (nI s) (nI k) fa fb fl fe fp fn ft ct kd pr nm md sz tg dt ar pa := by
      intro hk
      unfold wX_isValidPath_31
      refine xa_packName_path s (k - s) rfl (by rw [show s + (k - s) = k by omega]) (by omega) (fun a1 a4 ac => ?_) (fun nv => br_t rfl (h0 (fun w => ?_)))
      · have hGd : ta_Gd pa k := (ta_St_Gd g3).mpr ⟨a1, a4, ac⟩
        have hV := (ta_pk_V a1 a4 ac).1
        refine br_f (ta_V_ne hV) (nm_r (nI_1 _) (nm_r (nI_1 k) (nm_r (nI_1 k) ?_)))
        rcases hk with hk | ⟨hk, h47⟩
        · subst hk
          obtain ⟨n, rfl⟩ : ∃ q, n = q + 1 := ⟨n - 1, by omega⟩
          refine br_t (nI_lt (by omega) (by omega)) ?_
          have hall : ta_VP pa k := by
            intro e he he2
            rcases Nat.lt_or_ge e k with y | y
            · rcases he2 with z | z
              · omega
              · exact g4 e y z
            · rw [show e = k by omega]; exact hGd
          exact pk_lt 6 ((ta_sg pa 0 k).count 47 + 1) (fun g => h0 (fun w => by have := w.2; omega)) (fun g => h1 hall (by omega))
        · have e : (ta_sg pa 0 (k + 1)).count 47 = (ta_sg pa 0 k).count 47 + 1 := by
            rw [ta_sg_S, Nat.zero_add, h47, List.count_append, List.count_singleton_self]
          rw [← e]
          refine ih (k + 1) (k + 1) (by omega) (by omega) ⟨Nat.le_refl _, Or.inr (by rw [Nat.add_sub_cancel]; exact h47), fun j x y => by omega⟩ (fun e he h => ?_)
          rcases Nat.lt_or_ge e k with y | y
          · exact g4 e y h
          · rw [show e = k by omega]; exact hGd
      · have hGd : ta_Gd pa k := w.1 k g1 (by
          rcases hk with x | x
          · exact Or.inl x
          · exact Or.inr x.2)
        exact nv ((ta_St_Gd g3).mp hGd)
    refine br_f (nI_nlt g1 (by omega)) (pk_eq k m (fun g => K (Or.inl g)) (fun g => ⟨vp_in_nI (by omega) (by omega), ?_⟩))
    rw [nI_clamp (by omega)]
    refine br_c (fun z => K (Or.inr ⟨by omega, z⟩)) (fun z => nm_r (nI_1 k) ?_)
    have e : (ta_sg pa 0 (k + 1)).count 47 = (ta_sg pa 0 k).count 47 := by
      rw [ta_sg_S, Nat.zero_add, List.count_append, (List.count_eq_zero (l := [pa k])).mpr (fun h => z (List.mem_singleton.mp h).symm), Nat.add_zero]
    rw [← e]
    refine ih (k + 1) s (by omega) (by omega) ⟨by omega, g3.2.1, fun j x y => ?_⟩ (fun e he h => ?_)
    · rcases Nat.lt_or_ge j k with q | q
      · exact g3.2.2 j x q
      · rw [show j = k by omega]; exact z
    · rcases Nat.lt_or_ge e k with y | y
      · exact g4 e y h
      · rw [show e = k by omega] at h; exact absurd h z
theorem xa_isValidPath {post : Int32 → Prop} {T : List Int32} (hT : T.length < 30) (hpa : ∀ k, k < T.length → pa k = ta_g T k) (h1 : ta_vp T → post 1) (h0 : ¬ ta_vp T → post 0) : wpX_isValidPath post (fa, fb, fl, fe, fp, fn, ft, ct, kd, pr, nm, md, sz, tg, dt, ar, pa) (nI T.length) := by
  have e : ta_sg pa 0 T.length = T := by
    rw [← ta_g_sg T]
    conv => lhs; rw [ta_g_sg T]
    exact ta_sg_congr (fun k hk => by rw [Nat.zero_add]; exact hpa k hk)
  have eV : ta_VP pa T.length ↔ ta_VP (ta_g T) T.length := ta_VP_cgI hpa
  refine ⟨T.length + 2, ?_⟩
  refine xa_vp7 hT (fun a b => h1 ⟨eV.mp a, by rw [e] at b; exact b⟩) (fun w => h0 (fun y => w ⟨eV.mpr y.1, by rw [e]; exact y.2⟩)) (T.length + 2) 0 0 (Nat.zero_le _) (by omega) ⟨Nat.le_refl _, Or.inl rfl, fun j x y => by omega⟩ (fun e he => by omega)
theorem xa_lns {post : Int32 → Prop} {m : Nat} (hm : m < 30) (h : ∀ s, ta_St pa s m → post (nI s)) : ∀ s n, s ≤ m → s < n → (∀ j, s ≤ j → j < m → pa j ≠ 47) → wX_lastNameStart_2 post fa fb fl fe fp fn ft ct kd pr nm md sz tg dt ar pa n (nI s) := by
  intro s
  induction s with
  | zero =>
    intro n _ hn g
    obtain ⟨n, rfl⟩ : ∃ q, n = q + 1 := ⟨n - 1, by omega⟩
    exact br_t (by decide) (h 0 ⟨Nat.zero_le _, Or.inl rfl, g⟩)
  | succ s ih =>
    intro n hs hn g
    obtain ⟨n, rfl⟩ : ∃ q, n = q + 1 := ⟨n - 1, by omega⟩
    refine br_f (nI_nle (by omega) (by omega)) ?_
    rw [nI_pred]
    refine ⟨vp_in_nI (by omega) (by omega), ?_⟩
    rw [nI_clamp (by omega)]
    refine br_c (fun z => h (s + 1) ⟨hs, Or.inr (by rw [Nat.add_sub_cancel]; exact z), g⟩) (fun z => nm_r (pk_m1 s) (ih n (by omega) (by omega) (fun j x y => ?_)))
    rcases Nat.lt_or_ge s j with q | q
    · exact g j q y
    · rw [show j = s by omega]; exact z
theorem xa_lastNameStart {post : Int32 → Prop} {T : List Int32} (hT : T.length < 30) (hpa : ∀ k, k < T.length → pa k = ta_g T k) (h : ∀ s, ta_St (ta_g T) s T.length → post (nI s)) : wpX_lastNameStart post (fa, fb, fl, fe, fp, fn, ft, ct, kd, pr, nm, md, sz, tg, dt, ar, pa) (nI T.length) :=
  ⟨T.length + 1, xa_lns hT (fun s hs => h s (ta_St_cg hpa hs)) T.length (T.length + 1) (Nat.le_refl _) (by omega) (fun j x y => by omega)⟩
theorem xa_fp_path (H : ta_Tr 8 c kd pr nm P) (hc : c ≤ 8) (hct : ct 1 = nI c) {post : Int32 → Prop} {o m : Nat} (hm : o + m ≤ 30) (h : ∀ r, ta_Fd c P (ta_sg pa o m) r → post r) :
    ∀ n k s nd, k ≤ m → m + 1 < k + n → s ≤ k → (∀ j, s ≤ j → j < k → pa (o + j) ≠ 47) → ta_At pr nm P c pa o s nd → wX_findPath_9 post (nI (o + m)) fa fb fl fe fp fn ft ct kd pr nm md sz tg dt ar pa n nd (nI (o + s)) (nI (o + k)) := by
  intro n
  induction n with
  | zero => intro k s nd _ g; omega
  | succ n ih =>
    intro k s nd g1 g2 g3 g4 g5
    have K : (k = m ∨ (k < m ∧ pa (o + k) = 47)) → wX_findPath_30 post (wX_findPath_9 post (nI (o + m)) fa fb fl fe fp fn ft ct kd pr nm md sz tg dt ar pa n) (nI (o + m)) nd (nI (o + s)) (nI (o + k)) fa fb fl fe fp fn ft ct kd pr nm md sz tg dt ar pa := by
      intro hk
      have hk' : k = m ∨ pa (o + k) = 47 := hk.elim Or.inl (fun x => Or.inr x.2)
      unfold wX_findPath_30
      refine xa_packName_path (o + s) (k - s) rfl (by rw [show o + s + (k - s) = o + k by omega]) (by omega) (fun a1 a4 ac => ?_) (fun nv => ?_)
      · obtain ⟨hV, hT⟩ := ta_pk_V a1 a4 ac
        refine xa_findChild (t := 1) (by omega) hct hc (fun j hj e1 e2 => ?_) (fun no => br_t rfl (h _ (Or.inr ⟨?_, rfl⟩)))
        · have hP : P j = ta_sg pa o k := ta_At_to H (by omega) g5 g3 hj e1 (by rw [show nm (8 + j) = _ from e2]; exact hT)
          refine br_f (fun z => nI_pos (n := j) (by omega) (by rw [z]; decide)) (nm_r (nI_1 (o + k)) (nm_r (nI_1 (o + k)) ?_))
          rcases hk with hk | ⟨hk, h47⟩
          · subst hk
            obtain ⟨n, rfl⟩ : ∃ q, n = q + 1 := ⟨n - 1, by omega⟩
            exact br_t (nI_lt (by omega) (by omega)) (h _ (Or.inl ⟨j, hj, hP, rfl⟩))
          · exact ih (k + 1) (k + 1) (nI j) (by omega) (by omega) (Nat.le_refl _) (fun q x y => by omega) (Or.inr ⟨by omega, by rw [Nat.add_sub_cancel]; exact h47, j, hj, rfl, by rw [Nat.add_sub_cancel]; exact hP⟩)
        · refine ta_Fd_no H (by omega) g5 g3 g1 g4 hk' (fun j hj e1 e2 => no j hj e1 ?_)
          exact ta_t_inj (H.1 j hj).1 hV (e2.trans hT.symm)
      · refine xa_findChild (t := 1) (by omega) hct hc (fun j hj e1 e2 => absurd e2 (ta_V_ne (H.1 j hj).1)) (fun no => br_t rfl (h _ (Or.inr ⟨?_, rfl⟩)))
        refine ta_Fd_no H (by omega) g5 g3 g1 g4 hk' (fun j hj e1 e2 => nv ?_)
        have hv := (H.1 j hj).1
        have hl : ta_l (nm (8 + j)) = k - s := by have := congrArg List.length e2; rwa [ta_t_len, ta_sg_len] at this
        have h4 := (ta_l_spec (nm (8 + j))).1
        have h1 := hv.1
        refine ⟨by omega, by omega, fun q hq => ?_⟩
        exact ta_t_mem hv (by rw [e2]; exact ta_sg_mem.mpr ⟨q, hq, rfl⟩)
    refine br_f (nI_nlt (by omega) (by omega)) (pk_eq (o + k) (o + m) (fun g => K (Or.inl (by omega))) (fun g => ⟨vp_in_nI (by omega) (by omega), ?_⟩))
    rw [nI_clamp (by omega)]
    refine br_c (fun z => K (Or.inr ⟨by omega, z⟩)) (fun z => nm_r (nI_1 (o + k)) (ih (k + 1) s nd (by omega) (by omega) (by omega) (fun j x y => ?_) g5))
    rcases Nat.lt_or_ge j k with q | q
    · exact g4 j x q
    · rw [show j = k by omega]; exact z
theorem xa_findPath_path (H : ta_Tr 8 c kd pr nm P) (hc : c ≤ 8) (hct : ct 1 = nI c) {post : Int32 → Prop} {p1 p2 : Int32} (o m : Nat) (e1 : p1 = nI o) (e2 : p2 = nI (o + m)) (hm : o + m ≤ 30) (h : ∀ r, ta_Fd c P (ta_sg pa o m) r → post r) :
    wpX_findPath post (fa, fb, fl, fe, fp, fn, ft, ct, kd, pr, nm, md, sz, tg, dt, ar, pa) p1 p2 := by
  subst e1 e2
  exact ⟨m + 2, xa_fp_path H hc hct hm h (m + 2) 0 0 (-1) (Nat.zero_le _) (by omega) (Nat.le_refl _) (fun j x y => by omega) (Or.inl ⟨rfl, rfl⟩)⟩
theorem xa_fp_archive (H : ta_Tr 8 c kd pr nm P) (hc : c ≤ 8) (hct : ct 1 = nI c) {post : Int32 → Prop} {o m : Nat} (hm : o + m ≤ 768) (h : ∀ r, ta_Fd c P (ta_sg ar o m) r → post r) :
    ∀ n k s nd, k ≤ m → m + 1 < k + n → s ≤ k → (∀ j, s ≤ j → j < k → ar (o + j) ≠ 47) → ta_At pr nm P c ar o s nd → wX_findPath_2_9 post (nI (o + m)) fa fb fl fe fp fn ft ct kd pr nm md sz tg dt ar pa n nd (nI (o + s)) (nI (o + k)) := by
  intro n
  induction n with
  | zero => intro k s nd _ g; omega
  | succ n ih =>
    intro k s nd g1 g2 g3 g4 g5
    have K : (k = m ∨ (k < m ∧ ar (o + k) = 47)) → wX_findPath_2_30 post (wX_findPath_2_9 post (nI (o + m)) fa fb fl fe fp fn ft ct kd pr nm md sz tg dt ar pa n) (nI (o + m)) nd (nI (o + s)) (nI (o + k)) fa fb fl fe fp fn ft ct kd pr nm md sz tg dt ar pa := by
      intro hk
      have hk' : k = m ∨ ar (o + k) = 47 := hk.elim Or.inl (fun x => Or.inr x.2)
      unfold wX_findPath_2_30
      refine xa_packName_archive (o + s) (k - s) rfl (by rw [show o + s + (k - s) = o + k by omega]) (by omega) (fun a1 a4 ac => ?_) (fun nv => ?_)
      · obtain ⟨hV, hT⟩ := ta_pk_V a1 a4 ac
        refine xa_findChild (t := 1) (by omega) hct hc (fun j hj e1 e2 => ?_) (fun no => br_t rfl (h _ (Or.inr ⟨?_, rfl⟩)))
        · have hP : P j = ta_sg ar o k := ta_At_to H (by omega) g5 g3 hj e1 (by rw [show nm (8 + j) = _ from e2]; exact hT)
          refine br_f (fun z => nI_pos (n := j) (by omega) (by rw [z]; decide)) (nm_r (nI_1 (o + k)) (nm_r (nI_1 (o + k)) ?_))
          rcases hk with hk | ⟨hk, h47⟩
          · subst hk
            obtain ⟨n, rfl⟩ : ∃ q, n = q + 1 := ⟨n - 1, by omega⟩
            exact br_t (nI_lt (by omega) (by omega)) (h _ (Or.inl ⟨j, hj, hP, rfl⟩))
          · exact ih (k + 1) (k + 1) (nI j) (by omega) (by omega) (Nat.le_refl _) (fun q x y => by omega) (Or.inr ⟨by omega, by rw [Nat.add_sub_cancel]; exact h47, j, hj, rfl, by rw [Nat.add_sub_cancel]; exact hP⟩)
        · refine ta_Fd_no H (by omega) g5 g3 g1 g4 hk' (fun j hj e1 e2 => no j hj e1 ?_)
          exact ta_t_inj (H.1 j hj).1 hV (e2.trans hT.symm)
      · refine xa_findChild (t := 1) (by omega) hct hc (fun j hj e1 e2 => absurd e2 (ta_V_ne (H.1 j hj).1)) (fun no => br_t rfl (h _ (Or.inr ⟨?_, rfl⟩)))
        refine ta_Fd_no H (by omega) g5 g3 g1 g4 hk' (fun j hj e1 e2 => nv ?_)
        have hv := (H.1 j hj).1
        have hl : ta_l (nm (8 + j)) = k - s := by have := congrArg List.length e2; rwa [ta_t_len, ta_sg_len] at this
        have h4 := (ta_l_spec (nm (8 + j))).1
        have h1 := hv.1
        refine ⟨by omega, by omega, fun q hq => ?_⟩
        exact ta_t_mem hv (by rw [e2]; exact ta_sg_mem.mpr ⟨q, hq, rfl⟩)
    refine br_f (nI_nlt (by omega) (by omega)) (pk_eq (o + k) (o + m) (fun g => K (Or.inl (by omega))) (fun g => ⟨vp_in_nI (by omega) (by omega), ?_⟩))
    rw [nI_clamp (by omega)]
    refine br_c (fun z => K (Or.inr ⟨by omega, z⟩)) (fun z => nm_r (nI_1 (o + k)) (ih (k + 1) s nd (by omega) (by omega) (by omega) (fun j x y => ?_) g5))
    rcases Nat.lt_or_ge j k with q | q
    · exact g4 j x q
    · rw [show j = k by omega]; exact z
theorem xa_findPath_archive (H : ta_Tr 8 c kd pr nm P) (hc : c ≤ 8) (hct : ct 1 = nI c) {post : Int32 → Prop} {p1 p2 : Int32} (o m : Nat) (e1 : p1 = nI o) (e2 : p2 = nI (o + m)) (hm : o + m ≤ 768) (h : ∀ r, ta_Fd c P (ta_sg ar o m) r → post r) :
    wpX_findPath_2 post (fa, fb, fl, fe, fp, fn, ft, ct, kd, pr, nm, md, sz, tg, dt, ar, pa) p1 p2 := by
  subst e1 e2
  exact ⟨m + 2, xa_fp_archive H hc hct hm h (m + 2) 0 0 (-1) (Nat.zero_le _) (by omega) (Nat.le_refl _) (fun j x y => by omega) (Or.inl ⟨rfl, rfl⟩)⟩
/-- the target of a header, or none -/
theorem xa_linkFault (H : ta_Tr 8 c kd pr nm P) (hc : c ≤ 8) (hct : ct 1 = nI c) (X : ∀ i, i < c → ta_Nx 8 kd sz tg i) {post : Int32 → St2 → Prop} {o : Nat} (ho : o + 64 ≤ 768)
    (h1 : ∀ t, ta_Lk ar o c kd tg P t → post 0 (fa, fb, fl, fe, fp, fn, t, ct, kd, pr, nm, md, sz, tg, dt, ar, pa))
    (h0 : (∀ t, ¬ ta_Lk ar o c kd tg P t) → ∀ ft', post (-10) (fa, fb, fl, fe, fp, fn, ft', ct, kd, pr, nm, md, sz, tg, dt, ar, pa)) :
    wpX_linkFault post (fa, fb, fl, fe, fp, fn, ft, ct, kd, pr, nm, md, sz, tg, dt, ar, pa) (nI o) := by
  have e26 : nI o + 26 = nI (o + 26) := nI_add o 26
  have b := (ta_tl_spec ar 12 (o + 27)).1
  refine nm_r (nI_add o 27) ⟨by rw [e26]; exact vp_in_nI (by omega) (by omega), ?_⟩
  rw [e26, nI_clamp (by omega)]
  refine br_c (fun t1 => ?_) (fun t1 => ?_)
  · refine xa_textLength 12 rfl (by omega) ?_
    refine xa_isZero (o + 27 + ta_tl ar (o + 27) 12) (12 - ta_tl ar (o + 27) 12) (nI_add _ _) (by rw [show o + 27 + ta_tl ar (o + 27) 12 + (12 - ta_tl ar (o + 27) 12) = o + 27 + 12 by omega]; exact nI_add (o + 27) 12) (by omega) (fun wf => br_f (by decide) ?_) (fun wf => br_t rfl (h0 (fun t q => ?_) _))
    · refine xa_findPath_archive H hc hct (o + 27) (ta_tl ar (o + 27) 12) rfl (nI_add _ _) (by omega) (fun r hr => ?_)
      rcases hr with ⟨j, hj, hP, rfl⟩ | ⟨no, rfl⟩
      · refine xa_fileBehind (t := 1) (by omega) hct hc (fun q hq e k3 k2 => ?_) (fun q hq e k3 k2 => ?_) (fun w => br_t rfl (h0 (fun t q => ?_) _))
        · have : j = q := (nI_eq (by omega) (by omega)).mp e
          subst this
          have k3 : kd (8 + j) ≠ 3 := k3
          have k2 : kd (8 + j) = 2 := k2
          obtain ⟨g, g1, g2, _⟩ := (X j hj).2.1 k2
          refine br_f (fun z => nI_pos (n := g) (by omega) (by rw [← g2, show tg (8 + j) = -2 from z]; decide)) (h1 _ (Or.inr ⟨t1, wf, j, hj, hP, k3, ?_⟩))
          rw [if_pos k2]
        · have : j = q := (nI_eq (by omega) (by omega)).mp e
          subst this
          have k3 : kd (8 + j) ≠ 3 := k3
          have k2 : kd (8 + j) ≠ 2 := k2
          refine br_f (fun z => nI_pos (n := j) (by omega) (by rw [z]; decide)) (h1 _ (Or.inr ⟨t1, wf, j, hj, hP, k3, ?_⟩))
          rw [if_neg k2]
        · rcases q with ⟨q, _⟩ | ⟨_, _, i, hi, hPi, k3, _⟩
          · exact q t1
          · have : i = j := ta_P_inj H i j hi hj (hPi.trans hP.symm)
            subst this
            exact k3 (w i hi rfl)
      · refine xa_fileBehind (t := 1) (by omega) hct hc (fun q hq e _ _ => ?_) (fun q hq e _ _ => ?_) (fun w => br_t rfl (h0 (fun t q => ?_) _))
        · exact absurd (show nI q < 0 by rw [← e]; decide) (nI_pos (by omega))
        · exact absurd (show nI q < 0 by rw [← e]; decide) (nI_pos (by omega))
        · rcases q with ⟨q, _⟩ | ⟨_, _, i, hi, hPi, _⟩
          · exact q t1
          · exact no i hi hPi
    · rcases q with ⟨q, _⟩ | ⟨_, q, _⟩
      · exact q t1
      · exact wf q
  · refine xa_isZero (o + 27) 12 rfl (nI_add (o + 27) 12) (by omega) (fun z => br_f (by decide) (h1 _ (Or.inl ⟨t1, z, rfl⟩))) (fun z => br_t rfl (h0 (fun t q => ?_) _))
    rcases q with ⟨_, q, _⟩ | ⟨q, _⟩
    · exact z q
    · exact t1 q
end
end
section
/-! 16: the component's extract, a step -/
def ta_ki (y : Int32) : Int32 := if y = 53 then 3 else if y = 49 then 2 else 1
theorem ta_upd2 (a : Nat → Int32) (k : Nat) (x y : Int32) : upd (upd a k x) k y = upd a k y := by
  funext j
  unfold upd
  by_cases h : j = k
  · rw [if_pos h, if_pos h]
  · rw [if_neg h, if_neg h, if_neg h]
/-- the run stops at block b: its answer, its error block -/
def ta_Stop (ar : Nat → Int32) (L mn c : Nat) (kd tg : Nat → Int32) (P : Nat → List Int32) (b : Nat) (r e : Int32) : Prop :=
  (L < 64 * (b + 1) ∧ r = -13 ∧ e = nI b) ∨
  (64 * (b + 1) ≤ L ∧ ta_z ar (64 * b) 64 ∧ ((L < 64 * (b + 2) ∧ r = -13 ∧ e = nI (b + 1)) ∨ (64 * (b + 2) ≤ L ∧ ¬ ta_z ar (64 * (b + 1)) 64 ∧ r = -14 ∧ e = nI (b + 1)) ∨ (64 * (b + 2) ≤ L ∧ ta_z ar (64 * (b + 1)) 64 ∧ r = nI c ∧ e = -1))) ∨
  (64 * (b + 1) ≤ L ∧ ¬ ta_z ar (64 * b) 64 ∧ ta_HF ar (64 * b) r ∧ r ≠ 0 ∧ e = nI b) ∨
  (64 * (b + 1) ≤ L ∧ ¬ ta_z ar (64 * b) 64 ∧ ta_HF ar (64 * b) 0 ∧ (∃ nd nv t, ta_EF ar (64 * b) mn c kd tg P r nd nv t) ∧ r ≠ 0 ∧ e = nI b) ∨
  (64 * (b + 1) ≤ L ∧ ¬ ta_z ar (64 * b) 64 ∧ ta_HF ar (64 * b) 0 ∧ (∃ nd nv t, ta_EF ar (64 * b) mn c kd tg P 0 nd nv t) ∧ 0 < ta_ov ar (64 * b + 16) 3 ∧ ((L < 64 * (b + 2) ∧ r = -13 ∧ e = nI (b + 1)) ∨ (64 * (b + 2) ≤ L ∧ ¬ ta_z ar (64 * (b + 1) + ta_ov ar (64 * b + 16) 3) (64 - ta_ov ar (64 * b + 16) 3) ∧ r = -21 ∧ e = nI (b + 1))))
/-- or it takes the header at b in -/
def ta_Go (ar : Nat → Int32) (L mn c : Nat) (kd tg : Nat → Int32) (P : Nat → List Int32) (b : Nat) (nd nv t : Int32) : Prop :=
  64 * (b + 1) ≤ L ∧ ¬ ta_z ar (64 * b) 64 ∧ ta_HF ar (64 * b) 0 ∧ ta_EF ar (64 * b) mn c kd tg P 0 nd nv t ∧ (ta_ov ar (64 * b + 16) 3 = 0 ∨ (64 * (b + 2) ≤ L ∧ ta_z ar (64 * (b + 1) + ta_ov ar (64 * b + 16) 3) (64 - ta_ov ar (64 * b + 16) 3)))
theorem ta_HF0 {a : Nat → Int32} {o : Nat} (h : ta_HF a o 0) : ta_Ck a o ∧ ta_Mg a o ∧ ta_Ty a o ∧ ta_Fl a o ∧ ta_Sz a o ∧ ta_ov a (o + 16) 3 ≤ 32 := by
  rcases h with ⟨_, h⟩ | ⟨_, _, h⟩ | ⟨_, _, _, h⟩ | ⟨_, _, _, _, h⟩ | ⟨_, _, _, _, _, _, h⟩ | ⟨h1, h2, h3, h4, h5, h6, _⟩
  · exact absurd h (by decide)
  · exact absurd h (by decide)
  · exact absurd h (by decide)
  · exact absurd h (by decide)
  · exact absurd h (by decide)
  · exact ⟨h1, h2, h3, h4, h5, h6⟩
theorem xa_kindOf {post : Int32 → Prop} {y : Int32} (h : post (ta_ki y)) : wpX_kindOf post () y := by
  unfold ta_ki at h
  refine br_c (fun z => ?_) (fun z => br_c (fun w => ?_) (fun w => ?_))
  · rw [if_pos z] at h; exact h
  · rw [if_neg z, if_pos w] at h; exact h
  · rw [if_neg z, if_neg w] at h; exact h
section
variable {fa fb fl fe fp fn ft : Int32} {ct kd pr nm md sz tg dt ar pa : Nat → Int32} {P : Nat → List Int32} {c : Nat}
theorem xa_e156 (H : ta_Tr 8 c kd pr nm P) (hct : ct 1 = nI c) (X : ∀ i, i < c → ta_Nx 8 kd sz tg i) {mn : Nat} (hc : c ≤ 8) {post : Int32 → St2 → Prop} {o s : Nat} {nd : Int32} (ho : o + 64 ≤ 768) (hNm : ta_Nm ar o) (hcm : c ≠ mn) (hs : ta_St (ta_g (ta_T ar o)) s (ta_T ar o).length) (hP : ta_Pa c kd P (ta_T ar o) s nd) (hpa : ∀ k, k < (ta_T ar o).length → pa k = ta_g (ta_T ar o) k)
    (h1 : ∀ nv t, ta_EF ar o mn c kd tg P 0 nd nv t → post 0 (fa, fb, fl, fe, nd, nv, t, ct, kd, pr, nm, md, sz, tg, dt, ar, pa))
    (h0 : ∀ r nd' nv t, r ≠ 0 → ta_EF ar o mn c kd tg P r nd' nv t → ∀ fp' fn' ft', post r (fa, fb, fl, fe, fp', fn', ft', ct, kd, pr, nm, md, sz, tg, dt, ar, pa)) :
    wX_entryFault_156 post (nI o) (nI (ta_T ar o).length) (nI s) fa fb fl fe nd fn ft ct kd pr nm md sz tg dt ar pa := by
  have h23 := ta_T_len ar o
  obtain ⟨l1, l4, lc⟩ := ta_vp_last hNm.2.2 hs
  have epk : ta_pk pa s ((ta_T ar o).length - s) = ta_pk (ta_g (ta_T ar o)) s ((ta_T ar o).length - s) := ta_pk_cg _ (fun k hk => hpa _ (by omega))
  unfold wX_entryFault_156
  refine xa_packName_path s ((ta_T ar o).length - s) rfl (by rw [show s + ((ta_T ar o).length - s) = (ta_T ar o).length by omega]) (by omega) (fun _ _ _ => ?_) (fun nv => absurd ⟨by omega, by omega, fun j hj => by rw [hpa _ (by omega)]; exact lc j hj⟩ nv)
  rw [epk]
  refine xa_findChild (t := 1) (by omega) hct hc (fun j hj e1 e2 => br_f (fun z => nI_pos (n := j) (by omega) (by rw [z]; decide)) ?_) (fun no => br_t rfl ?_)
  · exact h0 (-8) nd 0 0 (by decide) (Or.inr (Or.inr ⟨hNm, hcm, s, hs, Or.inr ⟨hP, Or.inl ⟨(ta_dup H (by omega) hP hs hNm.2.2).mpr ⟨j, hj, e1, e2⟩, rfl⟩⟩⟩)) _ _ _
  · have nod : ¬ ∃ j, j < c ∧ P j = ta_T ar o := fun w => by
      obtain ⟨j, hj, e1, e2⟩ := (ta_dup H (by omega) hP hs hNm.2.2).mp w
      exact no j hj e1 e2
    refine xa_linkFault H hc hct X ho (fun t ht => ?_) (fun nt ft' => ?_)
    · exact h1 _ t (Or.inr (Or.inr ⟨hNm, hcm, s, hs, Or.inr ⟨hP, Or.inr ⟨nod, rfl, Or.inr ⟨ht, rfl⟩⟩⟩⟩))
    · exact h0 (-10) nd _ 0 (by decide) (Or.inr (Or.inr ⟨hNm, hcm, s, hs, Or.inr ⟨hP, Or.inr ⟨nod, rfl, Or.inl ⟨nt, rfl⟩⟩⟩⟩)) _ _ _
theorem xa_entryFault (H : ta_Tr 8 c kd pr nm P) (hct : ct 1 = nI c) (X : ∀ i, i < c → ta_Nx 8 kd sz tg i) {mn : Nat} (hc : c ≤ mn) (hmn : mn ≤ 8) {post : Int32 → St2 → Prop} {o : Nat} (ho : o + 64 ≤ 768)
    (h1 : ∀ nd nv t pa', ta_EF ar o mn c kd tg P 0 nd nv t → post 0 (nI mn, fb, fl, fe, nd, nv, t, ct, kd, pr, nm, md, sz, tg, dt, ar, pa'))
    (h0 : ∀ r nd nv t, r ≠ 0 → ta_EF ar o mn c kd tg P r nd nv t → ∀ fp' fn' ft' pa', post r (nI mn, fb, fl, fe, fp', fn', ft', ct, kd, pr, nm, md, sz, tg, dt, ar, pa')) :
    wpX_entryFault post (nI mn, fb, fl, fe, fp, fn, ft, ct, kd, pr, nm, md, sz, tg, dt, ar, pa) (nI o) := by
  have b1 := (ta_tl_spec ar 12 o).1
  have b2 := (ta_tl_spec ar 10 (o + 47)).1
  have h23 := ta_T_len ar o
  have e0 : nI o + 0 = nI o := by rw [show (0 : Int32) = nI 0 from rfl, nI_add]; rfl
  have e47 : nI o + 47 = nI (o + 47) := nI_add o 47
  have F : ¬ ta_Nm ar o → ∀ fp' fn' ft' pa', post (-5) (nI mn, fb, fl, fe, fp', fn', ft', ct, kd, pr, nm, md, sz, tg, dt, ar, pa') := fun w => h0 (-5) 0 0 0 (by decide) (Or.inl ⟨w, rfl⟩)
  unfold wpX_entryFault
  refine xa_textLength 12 e0 (by omega) (xa_textLength 10 e47 (by omega) ?_)
  refine xa_isZero (o + ta_tl ar o 12) (12 - ta_tl ar o 12) (by rw [e0, nI_add]) (by rw [e0, show o + ta_tl ar o 12 + (12 - ta_tl ar o 12) = o + 12 by omega]; exact nI_add o 12) (by omega) (fun w1 => br_f (by decide) ?_) (fun w1 => br_t rfl (F (fun w => w1 w.1) _ _ _ _))
  refine xa_isZero (o + 47 + ta_tl ar (o + 47) 10) (10 - ta_tl ar (o + 47) 10) (by rw [e47, nI_add]) (by rw [e47, show o + 47 + ta_tl ar (o + 47) 10 + (10 - ta_tl ar (o + 47) 10) = o + 47 + 10 by omega]; exact nI_add (o + 47) 10) (by omega) (fun w2 => br_f (by decide) ?_) (fun w2 => br_t rfl (F (fun w => w2 w.2.1) _ _ _ _))
  refine xa_loadHeaderPath ho ?_
  have hpa : ∀ k, k < (ta_T ar o).length → ta_wr pa 0 (ta_T ar o) k = ta_g (ta_T ar o) k := fun k hk => ta_g_wr hk
  refine xa_isValidPath (by omega) hpa (fun vp => br_f (by decide) ?_) (fun vp => br_t rfl (F (fun w => vp w.2.2) _ _ _ _))
  have hNm : ta_Nm ar o := ⟨w1, w2, vp⟩
  refine pk_lt c mn (fun g => ?_) (fun g => h0 (-20) 0 0 0 (by decide) (Or.inr (Or.inl ⟨hNm, by omega, rfl⟩)) _ _ _ _) (hx := hct)
  have hcm : c ≠ mn := by omega
  refine xa_lastNameStart (by omega) hpa (fun s hs => ?_)
  obtain ⟨l1, l4, lc⟩ := ta_vp_last vp hs
  refine pk_eq s 0 (fun s0 => ?_) (fun s0 => ?_)
  · refine br_t rfl (xa_e156 H hct X (by omega) ho hNm hcm hs (Or.inl ⟨s0, rfl⟩) hpa (fun nv t w => h1 _ nv t _ w) (fun r nd' nv t w1 w2 fp' fn' ft' => h0 r nd' nv t w1 w2 fp' fn' ft' _))
  · have es : nI s - 1 = nI (s - 1) := by
      obtain ⟨q, rfl⟩ : ∃ q, s = q + 1 := ⟨s - 1, by omega⟩
      rw [nI_pred]; rfl
    have etk : ta_sg (ta_wr pa 0 (ta_T ar o)) 0 (s - 1) = (ta_T ar o).take (s - 1) := ta_wr_take (by omega)
    refine xa_findPath_path H (by omega) hct 0 (s - 1) rfl (by rw [es, Nat.zero_add]) (by omega) (fun r hr => ?_)
    rw [etk] at hr
    rcases hr with ⟨q, hq, hP, rfl⟩ | ⟨no, rfl⟩
    · refine br_f (ta_m1 (by omega)) ?_
      refine xa_isDir (t := 1) (by omega) hct (by omega) (fun j hj e k3 => br_f (by decide) ?_) (fun w => br_t rfl ?_)
      · have : q = j := (nI_eq (by omega) (by omega)).mp e
        subst this
        exact xa_e156 H hct X (by omega) ho hNm hcm hs (Or.inr ⟨by omega, q, hq, hP, k3, rfl⟩) hpa (fun nv t w => h1 _ nv t _ w) (fun r nd' nv t w1 w2 fp' fn' ft' => h0 r nd' nv t w1 w2 fp' fn' ft' _)
      · refine h0 (-6) 0 0 0 (by decide) (Or.inr (Or.inr ⟨hNm, hcm, s, hs, Or.inl ⟨fun x hx => ?_, rfl⟩⟩)) _ _ _ _
        rcases hx with ⟨hx, _⟩ | ⟨_, i, hi, hPi, k3, _⟩
        · exact s0 hx
        · have : i = q := ta_P_inj H i q hi hq (hPi.trans hP.symm)
          subst this
          exact w i hi rfl k3
    · refine br_f (by decide) ?_
      refine xa_isDir (t := 1) (by omega) hct (by omega) (fun j hj e k3 => absurd (show nI j < 0 by rw [← e]; decide) (nI_pos (by omega))) (fun w => br_t rfl ?_)
      refine h0 (-6) 0 0 0 (by decide) (Or.inr (Or.inr ⟨hNm, hcm, s, hs, Or.inl ⟨fun x hx => ?_, rfl⟩⟩)) _ _ _ _
      rcases hx with ⟨hx, _⟩ | ⟨_, i, hi, hPi, k3, _⟩
      · exact s0 hx
      · exact no i hi hPi
theorem xa_pe66 {post : St2 → Prop} {o s q : Nat} (hs : s ≤ 32) (ho : s = 0 ∨ o + 128 ≤ 768) (hq : q < 16) (h : post (fa, fb, fl, fe, fp, fn, ft, ct, kd, pr, nm, md, sz, tg, ta_wr dt (32 * q) (ta_sg ar (o + 64) s), ar, pa)) :
    ∀ n k, k ≤ s → s < k + n → wX_putEntry_66 post (nI o) (nI s) (nI q) fa fb fl fe fp fn ft n (nI k) ct kd pr nm md sz tg (ta_wr dt (32 * q) (ta_sg ar (o + 64) k)) ar pa := by
  intro n
  induction n with
  | zero => intro k _ g; omega
  | succ n ih =>
    intro k g1 g2
    have ei : nI o + 64 + nI k = nI (o + 64 + k) := by rw [show (64 : Int32) = nI 64 from rfl, nI_add, nI_add]
    have eq : nI q * 32 + nI k = nI (32 * q + k) := by rw [show (32 : Int32) = nI 32 from rfl, pk_mul, nI_add, Nat.mul_comm]
    refine pk_le s k (fun g => ?_) (fun g => ⟨by rw [ei]; exact vp_in_nI (by omega) (by omega), by rw [eq]; exact vp_in_nI (by omega) (by omega), nm_r (e' := ta_wr dt (32 * q) (ta_sg ar (o + 64) (k + 1))) ?_ (nm_r (nI_1 k) (ih (k + 1) (by omega) (by omega)))⟩)
    · rw [show k = s by omega]; exact h
    · rw [ei, eq, nI_clamp (by omega), nI_clamp (by omega), ta_sg_S, ← ta_wr_snoc, ta_sg_len]
theorem xa_putEntry (hct : ct 1 = nI c) (hc : c < 8) (hb : ∀ j, ta_by (ar j)) {post : St2 → Prop} {o s : Nat} (hs : s ≤ 32) (ho : o + 64 ≤ 768) (ho2 : s = 0 ∨ o + 128 ≤ 768) (hok : ta_ok ar (o + 12) 3)
    (h : post (fa, fb, fl, fe, fp, fn, ft, upd ct 1 (nI (c + 1)), upd kd (8 + c) (ta_ki (ar (o + 26))), upd pr (8 + c) fp, upd nm (8 + c) fn, upd md (8 + c) (nI (ta_ov ar (o + 12) 3)), upd sz (8 + c) (nI s), upd tg (8 + c) ft, ta_wr dt (32 * (8 + c)) (ta_sg ar (o + 64) s), ar, pa)) :
    wpX_putEntry post (fa, fb, fl, fe, fp, fn, ft, ct, kd, pr, nm, md, sz, tg, dt, ar, pa) (nI o) (nI s) := by
  have e26 : nI o + 26 = nI (o + 26) := nI_add o 26
  refine nm_r (e' := nI (8 + c)) (by rw [hct]; exact nI_add 8 c) ⟨by rw [e26]; exact vp_in_nI (by omega) (by omega), ?_⟩
  rw [e26, nI_clamp (n := o + 26) (by omega)]
  refine xa_kindOf (xa_octalValue 3 (nI_add o 12) hb (by omega) (by omega) (fun _ => ?_) (fun w => absurd hok w))
  refine xa_putNode (t := 1) (by omega) hct hc ⟨vp_in_nI (by omega) (by omega), nm_r (e' := upd sz (8 + c) (nI s)) (by rw [nI_clamp (by omega)]; exact ta_upd2 _ _ _ _) ?_⟩
  have := xa_pe66 (fa := fa) (fb := fb) (fl := fl) (fe := fe) (fp := fp) (fn := fn) (ft := ft) (pa := pa) hs ho2 (q := 8 + c) (by omega) h (s + 1) 0 (Nat.zero_le _) (by omega)
  rw [ta_sg_0, ta_wr_nil] at this
  exact ⟨_, this⟩
theorem xa_dataFault {post : Int32 → Prop} {p0 : Int32} {L b s : Nat} (e : p0 = nI b) (hL : L ≤ 768) (hs : s ≤ 64) (h1 : L < 64 * (b + 1) → post (-13)) (h2 : 64 * (b + 1) ≤ L → ¬ ta_z ar (64 * b + s) (64 - s) → post (-21)) (h3 : 64 * (b + 1) ≤ L → ta_z ar (64 * b + s) (64 - s) → post 0) (hb : b < 1000) :
    wpX_dataFault post (fa, fb, nI L, fe, fp, fn, ft, ct, kd, pr, nm, md, sz, tg, dt, ar, pa) p0 (nI s) := by
  unfold wpX_dataFault
  have em : p0 * 64 = nI (64 * b) := by rw [e, show (64 : Int32) = nI 64 from rfl, pk_mul, Nat.mul_comm]
  refine xa_isWhole e hL hb (fun w2 => br_f (by decide) ?_) (fun w2 => br_t rfl (h1 w2))
  exact xa_isZero (64 * b + s) (64 - s) (by rw [em, nI_add]) (by rw [em, show 64 * b + s + (64 - s) = 64 * b + 64 by omega]; exact nI_add _ 64) (by omega) (fun z2 => br_f (by decide) (h3 w2 z2)) (fun z2 => br_t rfl (h2 w2 z2))
theorem xa_step (H : ta_Tr 8 c kd pr nm P) (hct : ct 1 = nI c) (X : ∀ i, i < c → ta_Nx 8 kd sz tg i) {mn mb L b : Nat} (hc : c ≤ mn) (hmn : mn ≤ 8) (hmb : mb ≤ 12) (hL : L ≤ 64 * mb) (hb : ∀ j, ta_by (ar j)) (hbb : b ≤ mb) {post : Int32 → St2 → Prop} {n : Nat}
    (hS : ∀ r e, ta_Stop ar L mn c kd tg P b r e → ∀ fp' fn' ft' pa', post r (nI mn, nI mb, nI L, e, fp', fn', ft', ct, kd, pr, nm, md, sz, tg, dt, ar, pa'))
    (hG : ∀ nd nv t, ta_Go ar L mn c kd tg P b nd nv t → c < mn → ∀ pa', wX_extract_9 post n (nI (if ta_ov ar (64 * b + 16) 3 = 0 then b + 1 else b + 2)) (nI mn) (nI mb) (nI L) fe nd nv t (upd ct 1 (nI (c + 1))) (upd kd (8 + c) (ta_ki (ar (64 * b + 26)))) (upd pr (8 + c) nd) (upd nm (8 + c) nv) (upd md (8 + c) (nI (ta_ov ar (64 * b + 12) 3))) (upd sz (8 + c) (nI (ta_ov ar (64 * b + 16) 3))) (upd tg (8 + c) t) (ta_wr dt (32 * (8 + c)) (ta_sg ar (64 * b + 64) (ta_ov ar (64 * b + 16) 3))) ar pa') :
    wX_extract_9 post (n + 1) (nI b) (nI mn) (nI mb) (nI L) fe fp fn ft ct kd pr nm md sz tg dt ar pa := by
  refine pk_le mb b (fun g => ?_) (fun g => ?_)
  · have e : mb = b := by omega
    subst e
    exact hS (-13) _ (Or.inl ⟨by omega, rfl, rfl⟩) _ _ _ _
  · refine nm_r (e' := nI (64 * b)) (by rw [show (64 : Int32) = nI 64 from rfl, pk_mul, Nat.mul_comm]) ?_
    refine xa_isWhole rfl (by omega) (by omega) (fun w => br_f (by decide) ?_) (fun w => br_t rfl (hS _ _ (Or.inl ⟨w, rfl, rfl⟩) _ _ _ _))
    refine xa_isZero (64 * b) 64 rfl (nI_add (64 * b) 64) (by omega) (fun z => br_f (by decide) ?_) (fun z => br_t rfl ?_)
    · refine nm_r (nI_1 b) (xa_isWhole rfl (by omega) (by omega) (fun w2 => br_f (by decide) ?_) (fun w2 => br_t rfl (hS _ _ (Or.inr (Or.inl ⟨w, z, Or.inl ⟨w2, rfl, rfl⟩⟩)) _ _ _ _)))
      have em : nI (b + 1) * 64 = nI (64 * (b + 1)) := by rw [show (64 : Int32) = nI 64 from rfl, pk_mul, Nat.mul_comm]
      refine xa_isZero (64 * (b + 1)) 64 em (by rw [em]; exact nI_add _ 64) (by omega) (fun z2 => br_f (by decide) ?_) (fun z2 => br_t rfl (hS _ _ (Or.inr (Or.inl ⟨w, z, Or.inr (Or.inl ⟨w2, z2, rfl, rfl⟩)⟩)) _ _ _ _))
      rw [hct]
      exact hS _ _ (Or.inr (Or.inl ⟨w, z, Or.inr (Or.inr ⟨w2, z2, rfl, rfl⟩)⟩)) _ _ _ _
    · refine xa_headerFault hb (by omega) (fun r hr => br_c (fun r0 => ?_) (fun r0 => ?_))
      · subst r0
        refine xa_entryFault H hct X hc hmn (by omega) (fun nd nv t pa' hE => br_t rfl ?_) (fun r nd nv t rn hE fp' fn' ft' pa' => br_f rn (hS _ _ (Or.inr (Or.inr (Or.inr (Or.inl ⟨w, z, hr, ⟨nd, nv, t, hE⟩, rn, rfl⟩)))) _ _ _ _))
        obtain ⟨_, _, _, hFl, hSz, h32⟩ := ta_HF0 hr
        have hcm : c < mn := by
          rcases hE with ⟨_, q⟩ | ⟨_, _, q⟩ | ⟨_, q, _⟩
          · exact absurd q (by decide)
          · exact absurd q (by decide)
          · omega
        refine xa_octalValue 3 (nI_add (64 * b) 16) hb (by omega) (by omega) (fun _ => ?_) (fun q => absurd hFl.2.1 q)
        refine pk_le (ta_ov ar (64 * b + 16) 3) 0 (fun y => ?_) (fun y => ?_)
        · have y0 : ta_ov ar (64 * b + 16) 3 = 0 := by omega
          refine xa_putEntry hct (by omega) hb h32 (by omega) (Or.inl y0) hFl.1 (br_t (by rw [y0]; decide) (nm_r (nI_1 b) ?_))
          have := hG nd nv t ⟨w, z, hr, hE, Or.inl y0⟩ hcm pa'
          rw [if_pos y0] at this
          exact this
        · have dS : ∀ r e, (L < 64 * (b + 2) ∧ r = -13 ∧ e = nI (b + 1)) ∨ (64 * (b + 2) ≤ L ∧ ¬ ta_z ar (64 * (b + 1) + ta_ov ar (64 * b + 16) 3) (64 - ta_ov ar (64 * b + 16) 3) ∧ r = -21 ∧ e = nI (b + 1)) → ∀ fp' fn' ft' pa', post r (nI mn, nI mb, nI L, e, fp', fn', ft', ct, kd, pr, nm, md, sz, tg, dt, ar, pa') :=
            fun r e q => hS r e (Or.inr (Or.inr (Or.inr (Or.inr ⟨w, z, hr, ⟨nd, nv, t, hE⟩, y, q⟩))))
          refine xa_dataFault (nI_1 b) (by omega) (by omega) (fun w2 => br_f (by decide) ?_) (fun w2 z2 => br_f (by decide) ?_) (fun w2 z2 => br_t rfl ?_) (by omega)
          · have := dS (-13) _ (Or.inl ⟨w2, rfl, rfl⟩) nd nv t pa'
            rw [← nI_1 b] at this
            exact this
          · have := dS (-21) _ (Or.inr ⟨w2, z2, rfl, rfl⟩) nd nv t pa'
            rw [← nI_1 b] at this
            exact this
          · refine xa_putEntry hct (by omega) hb h32 (by omega) (Or.inr (by omega)) hFl.1 (br_f (nI_nle (by omega) (by omega)) (nm_r (nI_1 b) (nm_r (nI_1 (b + 1)) ?_)))
            have := hG nd nv t ⟨w, z, hr, hE, Or.inr ⟨w2, z2⟩⟩ hcm pa'
            rw [if_neg (by omega)] at this
            exact this
      · exact br_f r0 (hS _ _ (Or.inr (Or.inr (Or.inl ⟨w, z, hr, r0, rfl⟩))) _ _ _ _)
end
end
section
/-! 27: a step has one outcome -/
theorem ta_HF_u {a : Nat → Int32} {o : Nat} {r r' : Int32} (h : ta_HF a o r) (h' : ta_HF a o r') : r = r' := by
  unfold ta_HF at h h'
  generalize ta_Ck a o = A at h h'
  generalize ta_Mg a o = B at h h'
  generalize ta_Ty a o = C at h h'
  generalize ta_Fl a o = D at h h'
  generalize ta_Sz a o = E at h h'
  generalize (ta_ov a (o + 16) 3 ≤ 32) = F at h h'
  rcases h with ⟨h1, h⟩ | ⟨h1, h2, h⟩ | ⟨h1, h2, h3, h⟩ | ⟨h1, h2, h3, h4, h⟩ | ⟨h1, h2, h3, h4, h5, h6, h⟩ | ⟨h1, h2, h3, h4, h5, h6, h⟩ <;>
  rcases h' with ⟨g1, g⟩ | ⟨g1, g2, g⟩ | ⟨g1, g2, g3, g⟩ | ⟨g1, g2, g3, g4, g⟩ | ⟨g1, g2, g3, g4, g5, g6, g⟩ | ⟨g1, g2, g3, g4, g5, g6, g⟩ <;>
  first
    | exact h.trans g.symm
    | exact absurd h1 g1
    | exact absurd g1 h1
    | exact absurd h2 g2
    | exact absurd g2 h2
    | exact absurd h3 g3
    | exact absurd g3 h3
    | exact absurd ⟨g4, g5⟩ h4
    | exact absurd ⟨h4, h5⟩ g4
    | exact absurd h6 g6
    | exact absurd g6 h6
section
variable {ar kd pr nm tg : Nat → Int32} {P : Nat → List Int32} {c mn o : Nat}
theorem ta_Pa_u (H : ta_Tr 8 c kd pr nm P) {T : List Int32} {s : Nat} {x y : Int32} (h : ta_Pa c kd P T s x) (h' : ta_Pa c kd P T s y) : x = y := by
  rcases h with ⟨a, b⟩ | ⟨a, q, hq, e, _, f⟩
  · rcases h' with ⟨a', b'⟩ | ⟨a', _⟩
    · exact b.trans b'.symm
    · omega
  · rcases h' with ⟨a', b'⟩ | ⟨a', q', hq', e', _, f'⟩
    · omega
    · have : q = q' := ta_P_inj H q q' hq hq' (e.trans e'.symm)
      rw [f, f', this]
theorem ta_Lk_u (H : ta_Tr 8 c kd pr nm P) {x y : Int32} (h : ta_Lk ar o c kd tg P x) (h' : ta_Lk ar o c kd tg P y) : x = y := by
  rcases h with ⟨a, _, b⟩ | ⟨a, _, q, hq, e, _, f⟩
  · rcases h' with ⟨a', _, b'⟩ | ⟨a', _⟩
    · exact b.trans b'.symm
    · exact absurd a' a
  · rcases h' with ⟨a', _, b'⟩ | ⟨a', _, q', hq', e', _, f'⟩
    · exact absurd a a'
    · have : q = q' := ta_P_inj H q q' hq hq' (e.trans e'.symm)
      rw [f, f', this]
theorem ta_EF_u (H : ta_Tr 8 c kd pr nm P) {r nd nv t r' nd' nv' t' : Int32} (h : ta_EF ar o mn c kd tg P r nd nv t) (h' : ta_EF ar o mn c kd tg P r' nd' nv' t') : r = r' ∧ (r = 0 → nd = nd' ∧ nv = nv' ∧ t = t') := by
  rcases h with ⟨a, b⟩ | ⟨a, a1, b⟩ | ⟨a, a1, s, hs, h⟩
  · rcases h' with ⟨_, b'⟩ | ⟨a', _⟩ | ⟨a', _⟩
    · exact ⟨b.trans b'.symm, fun q => absurd (b.symm.trans q) (by decide)⟩
    · exact absurd a' a
    · exact absurd a' a
  · rcases h' with ⟨a', _⟩ | ⟨_, _, b'⟩ | ⟨_, a', _⟩
    · exact absurd a a'
    · exact ⟨b.trans b'.symm, fun q => absurd (b.symm.trans q) (by decide)⟩
    · exact absurd a1 a'
  · rcases h' with ⟨a', _⟩ | ⟨_, a', _⟩ | ⟨_, _, s', hs', h'⟩
    · exact absurd a a'
    · exact absurd a' a1
    · have es := ta_St_uniq hs hs'
      subst es
      rcases h with ⟨n, b⟩ | ⟨p, h⟩
      · rcases h' with ⟨_, b'⟩ | ⟨p', _⟩
        · exact ⟨b.trans b'.symm, fun q => absurd (b.symm.trans q) (by decide)⟩
        · exact absurd p' (n nd')
      · rcases h' with ⟨n', _⟩ | ⟨p', h'⟩
        · exact absurd p (n' nd)
        · rcases h with ⟨d, b⟩ | ⟨d, v, h⟩
          · rcases h' with ⟨_, b'⟩ | ⟨d', _⟩
            · exact ⟨b.trans b'.symm, fun q => absurd (b.symm.trans q) (by decide)⟩
            · exact absurd d d'
          · rcases h' with ⟨d', _⟩ | ⟨_, v', h'⟩
            · exact absurd d' d
            · rcases h with ⟨n, b⟩ | ⟨l, b⟩
              · rcases h' with ⟨_, b'⟩ | ⟨l', _⟩
                · exact ⟨b.trans b'.symm, fun q => absurd (b.symm.trans q) (by decide)⟩
                · exact absurd l' (n t')
              · rcases h' with ⟨n', _⟩ | ⟨l', b'⟩
                · exact absurd l (n' t)
                · exact ⟨b.trans b'.symm, fun _ => ⟨ta_Pa_u H p p', v.trans v'.symm, ta_Lk_u H l l'⟩⟩
theorem ta_Go_u (H : ta_Tr 8 c kd pr nm P) {L b : Nat} {nd nv t nd' nv' t' : Int32} (h : ta_Go ar L mn c kd tg P b nd nv t) (h' : ta_Go ar L mn c kd tg P b nd' nv' t') : nd = nd' ∧ nv = nv' ∧ t = t' :=
  (ta_EF_u H h.2.2.2.1 h'.2.2.2.1).2 rfl
theorem ta_Stop_Go (H : ta_Tr 8 c kd pr nm P) {L b : Nat} {r e nd nv t : Int32} (h : ta_Stop ar L mn c kd tg P b r e) (h' : ta_Go ar L mn c kd tg P b nd nv t) : False := by
  obtain ⟨g1, g2, g3, g4, g5⟩ := h'
  rcases h with ⟨a, _⟩ | ⟨_, a, _⟩ | ⟨_, _, a, rn, _⟩ | ⟨_, _, _, ⟨x, y, w, a⟩, rn, _⟩ | ⟨_, _, _, _, p, a⟩
  · omega
  · exact g2 a
  · exact rn (ta_HF_u a g3)
  · exact rn (ta_EF_u H a g4).1
  · rcases g5 with g5 | ⟨g5, g6⟩
    · omega
    · rcases a with ⟨a, _⟩ | ⟨_, a, _⟩
      · omega
      · exact a g6
theorem ta_Stop_u (H : ta_Tr 8 c kd pr nm P) {L b : Nat} {r e r' e' : Int32} (h : ta_Stop ar L mn c kd tg P b r e) (h' : ta_Stop ar L mn c kd tg P b r' e') : r = r' ∧ e = e' := by
  rcases h with ⟨a, x, y⟩ | ⟨a0, a, h⟩ | ⟨a0, a, f, rn, y⟩ | ⟨a0, a, f, ⟨u, v, w, k⟩, rn, y⟩ | ⟨a0, a, f, ⟨u, v, w, k⟩, p, h⟩
  · rcases h' with ⟨_, x', y'⟩ | ⟨b0, _⟩ | ⟨b0, _⟩ | ⟨b0, _⟩ | ⟨b0, _⟩
    · exact ⟨x.trans x'.symm, y.trans y'.symm⟩
    · omega
    · omega
    · omega
    · omega
  · rcases h' with ⟨b0, _⟩ | ⟨_, _, h'⟩ | ⟨_, b, _⟩ | ⟨_, b, _⟩ | ⟨_, b, _⟩
    · omega
    · rcases h with ⟨l, x, y⟩ | ⟨l, q, x, y⟩ | ⟨l, q, x, y⟩
      · rcases h' with ⟨_, x', y'⟩ | ⟨l', _⟩ | ⟨l', _⟩
        · exact ⟨x.trans x'.symm, y.trans y'.symm⟩
        · omega
        · omega
      · rcases h' with ⟨l', _⟩ | ⟨_, _, x', y'⟩ | ⟨_, q', _⟩
        · omega
        · exact ⟨x.trans x'.symm, y.trans y'.symm⟩
        · exact absurd q' q
      · rcases h' with ⟨l', _⟩ | ⟨_, q', _⟩ | ⟨_, _, x', y'⟩
        · omega
        · exact absurd q q'
        · exact ⟨x.trans x'.symm, y.trans y'.symm⟩
    · exact absurd a b
    · exact absurd a b
    · exact absurd a b
  · rcases h' with ⟨b0, _⟩ | ⟨_, b, _⟩ | ⟨_, _, g, _, y'⟩ | ⟨_, _, g, _⟩ | ⟨_, _, g, _⟩
    · omega
    · exact absurd b a
    · exact ⟨ta_HF_u f g, y.trans y'.symm⟩
    · exact absurd (ta_HF_u f g) rn
    · exact absurd (ta_HF_u f g) rn
  · rcases h' with ⟨b0, _⟩ | ⟨_, b, _⟩ | ⟨_, _, g, rn', _⟩ | ⟨_, _, _, ⟨u', v', w', k'⟩, _, y'⟩ | ⟨_, _, _, ⟨u', v', w', k'⟩, _⟩
    · omega
    · exact absurd b a
    · exact absurd (ta_HF_u g f) rn'
    · exact ⟨(ta_EF_u H k k').1, y.trans y'.symm⟩
    · exact absurd (ta_EF_u H k k').1 rn
  · rcases h' with ⟨b0, _⟩ | ⟨_, b, _⟩ | ⟨_, _, g, rn', _⟩ | ⟨_, _, _, ⟨u', v', w', k'⟩, rn', _⟩ | ⟨_, _, _, _, _, h'⟩
    · omega
    · exact absurd b a
    · exact absurd (ta_HF_u g f) rn'
    · exact absurd (ta_EF_u H k' k).1 rn'
    · rcases h with ⟨l, x, y⟩ | ⟨l, q, x, y⟩
      · rcases h' with ⟨_, x', y'⟩ | ⟨l', _⟩
        · exact ⟨x.trans x'.symm, y.trans y'.symm⟩
        · omega
      · rcases h' with ⟨l', _⟩ | ⟨_, _, x', y'⟩
        · omega
        · exact ⟨x.trans x'.symm, y.trans y'.symm⟩
end
end
section
/-! 30: invariant, addNode, of whole's parts 27, 29, 30, 31 -/
/-- what both states hold of the trees; md: the component's modes, my: the reference's -/
def ta_I (c0 c : Nat) (ct kd pr nm md my sz tg dt : Nat → Int32) (P0 P : Nat → List Int32) : Prop :=
  ct 0 = nI c0 ∧ ct 1 = nI c ∧ ta_Tr 0 c0 kd pr nm P0 ∧ ta_Tr 8 c kd pr nm P ∧ (∀ i, i < c0 → ta_Nx 0 kd sz tg i) ∧ (∀ i, i < c → ta_Nx 8 kd sz tg i) ∧
  (∀ i, i < c0 → kd i = 2 → md i = 0) ∧ (∀ j, kd j ≠ 2 → md j = my j) ∧ (∀ j, ta_by (dt j))
theorem xa_isByte {post : Int32 → Prop} {x : Int32} (h1 : ¬ x < 0 → x ≤ 255 → ta_by x → post 1) (h0 : (x < 0 ∨ (¬ x < 0 ∧ ¬ x ≤ 255)) → post 0) : wpX_isByte post () x := by
  refine br_c (fun z => h0 (Or.inl z)) (fun z => br_c (fun w => h0 (Or.inr ⟨z, Int32.not_le.mpr w⟩)) (fun w => ?_))
  obtain ⟨j, hj, rfl⟩ := nI_of z
  have hl := Int32.not_lt.mp w
  have := (nI_leI (b := 255) hj (by decide)).mp hl
  exact h1 z hl ⟨j, by omega, rfl⟩
section
variable {fa fb fl fe fp fn ft yc yo yb : Int32} {ct kd pr nm md my sz tg dt ar pa sc st : Nat → Int32} {c t : Nat}
theorem xa_contentSlot {post : Int32 → Prop} {i : Nat} (ht : t < 2) (hc : c ≤ 8) (X : ∀ i, i < c → ta_Nx (8 * t) kd sz tg i) (hi : i < c) (h2 : ∀ q, q < i → kd (8 * t + i) = 2 → tg (8 * t + i) = nI q → kd (8 * t + q) = 1 → post (nI (8 * t + q))) (h1 : kd (8 * t + i) ≠ 2 → post (nI (8 * t + i))) :
    wpX_contentSlot post (fa, fb, fl, fe, fp, fn, ft, ct, kd, pr, nm, md, sz, tg, dt, ar, pa) (nI t) (nI i) := by
  have iv : vp_in (nI (8 * t + i)) 16 := vp_in_nI (by omega) (by omega)
  refine nm_r (ta_ix t i) ⟨iv, ?_⟩
  rw [nI_clamp (by omega)]
  refine br_c (fun k2 => ⟨iv, ?_⟩) (fun k2 => h1 k2)
  obtain ⟨q, q1, q2, q3⟩ := (X i hi).2.1 k2
  rw [q2, ta_ix]
  exact h2 q q1 k2 q2 q3
theorem xa_isTree {post : Int32 → Prop} (ht : t < 2) (h : post 1) : wpX_isTree post () (nI t) := by
  rcases (show t = 0 ∨ t = 1 by omega) with rfl | rfl
  · exact br_t rfl h
  · exact br_f (by decide) (br_t rfl h)
/-- the slot that holds a node's mode, size and bytes -/
theorem ta_own {i : Nat} (hc : c ≤ 8) (X : ∀ i, i < c → ta_Nx (8 * t) kd sz tg i) (hi : i < c) : ∃ f, f < c ∧ kd (8 * t + f) ≠ 2 ∧ ((kd (8 * t + i) = 2 ∧ tg (8 * t + i) = nI f) ∨ (kd (8 * t + i) ≠ 2 ∧ f = i)) ∧ (kd (8 * t + i) = 3 → sz (8 * t + f) = 0) := by
  have hX := X i hi
  by_cases k2 : kd (8 * t + i) = 2
  · obtain ⟨q, q1, q2, q3⟩ := hX.2.1 k2
    exact ⟨q, by omega, by rw [q3]; decide, Or.inl ⟨k2, q2⟩, fun k3 => absurd (k2.symm.trans k3) (by decide)⟩
  · exact ⟨i, hi, k2, Or.inr ⟨k2, rfl⟩, fun k3 => hX.2.2.2 (by rw [k3]; decide)⟩
theorem xa_cs {i f : Nat} (ht : t < 2) (hc : c ≤ 8) (X : ∀ i, i < c → ta_Nx (8 * t) kd sz tg i) (hi : i < c) (hf : f < c) (hf3 : (kd (8 * t + i) = 2 ∧ tg (8 * t + i) = nI f) ∨ (kd (8 * t + i) ≠ 2 ∧ f = i)) {post : Int32 → Prop} (h : post (nI (8 * t + f))) :
    wpX_contentSlot post (fa, fb, fl, fe, fp, fn, ft, ct, kd, pr, nm, md, sz, tg, dt, ar, pa) (nI t) (nI i) := by
  refine xa_contentSlot ht hc X hi (fun q q1 k2 q2 q3 => ?_) (fun k2 => ?_)
  · rcases hf3 with ⟨_, e⟩ | ⟨n2, _⟩
    · have : q = f := (nI_eq (by omega) (by omega)).mp (q2.symm.trans e)
      rw [this]; exact h
    · exact absurd k2 n2
  · rcases hf3 with ⟨k2', _⟩ | ⟨_, e⟩
    · exact absurd k2' k2
    · rw [← e]; exact h
end
def ta_ki3 (kind : Int32) : Prop := kind = 3 ∨ kind = 1 ∨ kind = 2
def ta_aP (c0 : Nat) (kd : Nat → Int32) (p : Int32) : Prop := p = -1 ∨ ∃ q, q < c0 ∧ p = nI q ∧ kd q = 3
def ta_aD (c0 : Nat) (P0 : Nat → List Int32) (p : Int32) : Prop := ∀ q, q < c0 → p = nI q → (P0 q).count 47 + 1 < 6
def ta_aU (c0 : Nat) (pr nm : Nat → Int32) (p v : Int32) : Prop := ∃ j, j < c0 ∧ pr j = p ∧ nm j = v
def ta_aM (m : Int32) : Prop := ¬ m < 0 ∧ m ≤ 511
def ta_aL (c0 : Nat) (kd tg : Nat → Int32) (m t : Int32) : Prop := ∃ q, q < c0 ∧ m = nI q ∧ kd q ≠ 3 ∧ t = if kd q = 2 then tg q else nI q
def ta_AE (c0 mn : Nat) (kd pr nm tg : Nat → Int32) (P0 : Nat → List Int32) (p k v m r : Int32) : Prop :=
  (c0 = mn ∧ r = -3) ∨ (c0 ≠ mn ∧ ¬ ta_ki3 k ∧ r = -4) ∨ (c0 ≠ mn ∧ ta_ki3 k ∧ ¬ ta_V v ∧ r = -5) ∨ (c0 ≠ mn ∧ ta_ki3 k ∧ ta_V v ∧ ¬ ta_aP c0 kd p ∧ r = -6) ∨
  (c0 ≠ mn ∧ ta_ki3 k ∧ ta_V v ∧ ta_aP c0 kd p ∧ ¬ ta_aD c0 P0 p ∧ r = -7) ∨ (c0 ≠ mn ∧ ta_ki3 k ∧ ta_V v ∧ ta_aP c0 kd p ∧ ta_aD c0 P0 p ∧ ta_aU c0 pr nm p v ∧ r = -8) ∨
  (c0 ≠ mn ∧ ta_ki3 k ∧ ta_V v ∧ ta_aP c0 kd p ∧ ta_aD c0 P0 p ∧ ¬ ta_aU c0 pr nm p v ∧ k ≠ 2 ∧ ¬ ta_aM m ∧ r = -9) ∨
  (c0 ≠ mn ∧ ta_ki3 k ∧ ta_V v ∧ ta_aP c0 kd p ∧ ta_aD c0 P0 p ∧ ¬ ta_aU c0 pr nm p v ∧ k = 2 ∧ (¬ ∃ t, ta_aL c0 kd tg m t) ∧ r = -10)
def ta_AS (c0 mn : Nat) (kd pr nm tg : Nat → Int32) (P0 : Nat → List Int32) (p k v m mv t : Int32) : Prop :=
  c0 ≠ mn ∧ ta_ki3 k ∧ ta_V v ∧ ta_aP c0 kd p ∧ ta_aD c0 P0 p ∧ ¬ ta_aU c0 pr nm p v ∧ ((k ≠ 2 ∧ ta_aM m ∧ mv = m ∧ t = -1) ∨ (k = 2 ∧ ta_aL c0 kd tg m t ∧ mv = 0))
section
variable {fa fb fl fe fp fn ft yc yo yb : Int32} {ct kd pr nm md my sz tg dt ar pa sc st : Nat → Int32} {c0 mn : Nat} {P0 : Nat → List Int32}
theorem xa_addNode (T : ta_Tr 0 c0 kd pr nm P0) (hct : ct 0 = nI c0) (hc : c0 ≤ mn) (hmn : mn ≤ 8) {post : Int32 → St2 → Prop} {p k v m : Int32}
    (hE : ∀ r, ta_AE c0 mn kd pr nm tg P0 p k v m r → post r (nI mn, fb, fl, fe, fp, fn, ft, ct, kd, pr, nm, md, sz, tg, dt, ar, pa))
    (hS : ∀ mv t, ta_AS c0 mn kd pr nm tg P0 p k v m mv t → post (nI c0) (nI mn, fb, fl, fe, fp, fn, ft, upd ct 0 (nI (c0 + 1)), upd kd c0 k, upd pr c0 p, upd nm c0 v, upd md c0 mv, upd sz c0 0, upd tg c0 t, dt, ar, pa))
    (X : ∀ i, i < c0 → ta_Nx 0 kd sz tg i) :
    wpX_addNode post (nI mn, fb, fl, fe, fp, fn, ft, ct, kd, pr, nm, md, sz, tg, dt, ar, pa) p k v m := by
  have PN : c0 < 8 → ∀ mv t, post (nI c0) (nI mn, fb, fl, fe, fp, fn, ft, upd ct 0 (nI (c0 + 1)), upd kd c0 k, upd pr c0 p, upd nm c0 v, upd md c0 mv, upd sz c0 0, upd tg c0 t, dt, ar, pa) → wpX_putNode (fun u => match u with | (fa, fb, fl, fe, fp, fn, ft, ct, kd, pr, nm, md, sz, tg, dt, ar, pa) => (post (nI c0) (fa, fb, fl, fe, fp, fn, ft, ct, kd, pr, nm, md, sz, tg, dt, ar, pa))) (nI mn, fb, fl, fe, fp, fn, ft, ct, kd, pr, nm, md, sz, tg, dt, ar, pa) 0 k p v mv t := by
    intro h8 mv t h
    refine xa_putNode (t := 0) (by omega) hct h8 ?_
    have e : 8 * 0 + c0 = c0 := by omega
    rw [e]
    exact h
  have W65 : c0 ≠ mn → ta_ki3 k → ta_V v → ta_aP c0 kd p → wX_addNode_65 post p k v m (nI c0) (nI mn) fb fl fe fp fn ft ct kd pr nm md sz tg dt ar pa := by
    intro h1 h2 h3 h4
    have D : ∀ d : Nat, d ≤ 6 → (d < 6 ↔ ta_aD c0 P0 p) → ((nI d < 6 → (wpX_findChild (fun r_26 => (((r_26 = (-2) → (((k = 2 → (wpX_fileBehind (fun r_66 => (((r_66 = (-2) → (post (-10) (nI mn, fb, fl, fe, fp, fn, ft, ct, kd, pr, nm, md, sz, tg, dt, ar, pa))) ∧ (¬ r_66 = (-2) → (wpX_putNode (fun u => match u with | (fa, fb, fl, fe, fp, fn, ft, ct, kd, pr, nm, md, sz, tg, dt, ar, pa) => (post (nI c0) (fa, fb, fl, fe, fp, fn, ft, ct, kd, pr, nm, md, sz, tg, dt, ar, pa))) (nI mn, fb, fl, fe, fp, fn, ft, ct, kd, pr, nm, md, sz, tg, dt, ar, pa) 0 k p v 0 r_66))))) (nI mn, fb, fl, fe, fp, fn, ft, ct, kd, pr, nm, md, sz, tg, dt, ar, pa) 0 m)) ∧ (¬ k = 2 → (((m < 0 → (post (-9) (nI mn, fb, fl, fe, fp, fn, ft, ct, kd, pr, nm, md, sz, tg, dt, ar, pa))) ∧ (¬ m < 0 → (((m ≤ 511 → (wpX_putNode (fun u => match u with | (fa, fb, fl, fe, fp, fn, ft, ct, kd, pr, nm, md, sz, tg, dt, ar, pa) => (post (nI c0) (fa, fb, fl, fe, fp, fn, ft, ct, kd, pr, nm, md, sz, tg, dt, ar, pa))) (nI mn, fb, fl, fe, fp, fn, ft, ct, kd, pr, nm, md, sz, tg, dt, ar, pa) 0 k p v m (-1))) ∧ (¬ m ≤ 511 → (post (-9) (nI mn, fb, fl, fe, fp, fn, ft, ct, kd, pr, nm, md, sz, tg, dt, ar, pa)))))))))))) ∧ (¬ r_26 = (-2) → (post (-8) (nI mn, fb, fl, fe, fp, fn, ft, ct, kd, pr, nm, md, sz, tg, dt, ar, pa)))))) (nI mn, fb, fl, fe, fp, fn, ft, ct, kd, pr, nm, md, sz, tg, dt, ar, pa) 0 p v)) ∧ (¬ nI d < 6 → (post (-7) (nI mn, fb, fl, fe, fp, fn, ft, ct, kd, pr, nm, md, sz, tg, dt, ar, pa)))) := by
      intro d hd hiff
      refine pk_lt d 6 (fun g => ?_) (fun g => hE _ (Or.inr (Or.inr (Or.inr (Or.inr (Or.inl ⟨h1, h2, h3, h4, fun q => by have := hiff.mpr q; omega, rfl⟩))))))
      have h5 := hiff.mp g
      refine xa_findChild (t := 0) (by omega) hct (by omega) (fun j hj e1 e2 => br_f (fun z => nI_pos (n := j) (by omega) (by rw [z]; decide)) ?_) (fun no => br_t rfl ?_)
      · simp only [Nat.mul_zero, Nat.zero_add] at e1 e2
        exact hE _ (Or.inr (Or.inr (Or.inr (Or.inr (Or.inr (Or.inl ⟨h1, h2, h3, h4, h5, ⟨j, hj, e1, e2⟩, rfl⟩))))))
      · simp only [Nat.mul_zero, Nat.zero_add] at no
        have h6 : ¬ ta_aU c0 pr nm p v := fun ⟨j, hj, e1, e2⟩ => no j hj e1 e2
        refine br_c (fun k2 => ?_) (fun k2 => br_c (fun z => ?_) (fun z => br_c (fun w => ?_) (fun w => ?_)))
        · refine xa_fileBehind (t := 0) (by omega) hct (by omega) (fun q hq e k3 kk => ?_) (fun q hq e k3 kk => ?_) (fun w => br_t rfl ?_)
          · simp only [Nat.mul_zero, Nat.zero_add] at k3 kk ⊢
            obtain ⟨_, hx, _⟩ := X q hq
            simp only [Nat.zero_add] at hx
            obtain ⟨g, g1, g2, _⟩ := hx kk
            refine br_f (fun z => nI_pos (n := g) (by omega) (by rw [← g2, z]; decide)) (PN (by omega) _ _ (hS _ _ ⟨h1, h2, h3, h4, h5, h6, Or.inr ⟨k2, ⟨q, hq, e, k3, ?_⟩, rfl⟩⟩))
            rw [if_pos kk]
          · simp only [Nat.mul_zero, Nat.zero_add] at k3 kk
            refine br_f (fun z => nI_pos (n := q) (by omega) (by rw [z]; decide)) (PN (by omega) _ _ (hS _ _ ⟨h1, h2, h3, h4, h5, h6, Or.inr ⟨k2, ⟨q, hq, e, k3, ?_⟩, rfl⟩⟩))
            rw [if_neg kk]
          · simp only [Nat.mul_zero, Nat.zero_add] at w
            exact hE _ (Or.inr (Or.inr (Or.inr (Or.inr (Or.inr (Or.inr (Or.inr ⟨h1, h2, h3, h4, h5, h6, k2, fun ⟨t, q, hq, e, k3, _⟩ => k3 (w q hq e), rfl⟩)))))))
        · exact hE _ (Or.inr (Or.inr (Or.inr (Or.inr (Or.inr (Or.inr (Or.inl ⟨h1, h2, h3, h4, h5, h6, k2, fun q => q.1 z, rfl⟩)))))))
        · exact PN (by omega) _ _ (hS _ _ ⟨h1, h2, h3, h4, h5, h6, Or.inl ⟨k2, ⟨z, w⟩, rfl, rfl⟩⟩)
        · exact hE _ (Or.inr (Or.inr (Or.inr (Or.inr (Or.inr (Or.inr (Or.inl ⟨h1, h2, h3, h4, h5, h6, k2, fun q => w q.2, rfl⟩)))))))
    unfold wX_addNode_65
    have h4' := h4
    rcases h4' with e | ⟨q, hq, e, k3⟩
    · subst e
      exact xa_sourceDepth0 (D 0 (by omega) ⟨fun _ q hq e => absurd e.symm (ta_m1 (by omega)), fun _ => by omega⟩)
    · subst e
      have h5 := (T.1 q hq).2.1
      refine xa_sourceDepth T (by omega) hq (D _ (by omega) ⟨fun g q' hq' e => ?_, fun w => w q hq rfl⟩)
      have : q = q' := (nI_eq (by omega) (by omega)).mp e
      rw [← this]; exact g
  have W38 : c0 ≠ mn → ta_ki3 k → wX_addNode_38 post p k v m (nI c0) (nI mn) fb fl fe fp fn ft ct kd pr nm md sz tg dt ar pa := by
    intro h1 h2
    unfold wX_addNode_38
    refine xa_isValidName (fun h3 => br_f (by decide) (br_c (fun z => W65 h1 h2 h3 (Or.inl z)) (fun z => ?_))) (fun h3 => br_t rfl (hE _ (Or.inr (Or.inr (Or.inl ⟨h1, h2, h3, rfl⟩)))))
    refine xa_isDir (t := 0) (by omega) hct (by omega) (fun j hj e k3 => br_f (by decide) ?_) (fun w => br_t rfl ?_)
    · simp only [Nat.mul_zero, Nat.zero_add] at k3
      exact W65 h1 h2 h3 (Or.inr ⟨j, hj, e, k3⟩)
    · simp only [Nat.mul_zero, Nat.zero_add] at w
      refine hE _ (Or.inr (Or.inr (Or.inr (Or.inl ⟨h1, h2, h3, fun q => ?_, rfl⟩))))
      rcases q with q | ⟨j, hj, e, k3⟩
      · exact z q
      · exact w j hj e k3
  refine nm_r hct (pk_lt c0 mn (fun g => ?_) (fun g => hE _ (Or.inl ⟨by omega, rfl⟩)))
  have h1 : c0 ≠ mn := by omega
  refine br_c (fun z => W38 h1 (Or.inl z)) (fun z => br_c (fun w => W38 h1 (Or.inr (Or.inl w))) (fun w => br_c (fun y => W38 h1 (Or.inr (Or.inr y))) (fun y => hE _ (Or.inr (Or.inl ⟨h1, fun q => q.elim z (fun q => q.elim w y), rfl⟩)))))
end
theorem ta_I_add {c0 c mn : Nat} {ct kd pr nm md my sz tg dt : Nat → Int32} {P0 P : Nat → List Int32} {p k v m mv t : Int32} (hc0 : c0 < 8) (I : ta_I c0 c ct kd pr nm md my sz tg dt P0 P) (S : ta_AS c0 mn kd pr nm tg P0 p k v m mv t) :
    ∃ P', ta_I (c0 + 1) c (upd ct 0 (nI (c0 + 1))) (upd kd c0 k) (upd pr c0 p) (upd nm c0 v) (upd md c0 mv) (upd my c0 mv) (upd sz c0 0) (upd tg c0 t) dt P' P := by
  obtain ⟨i1, i2, i3, i4, i5, i6, i7, i8, i9⟩ := I
  obtain ⟨s1, s2, s3, s4, s5, s6, s7⟩ := S
  have hlo : ∀ (a : Nat → Int32) (x : Int32) (i : Nat), i < c0 → upd a c0 x i = a i := fun a x i hi => pk_un (by omega)
  have hlo' : ∀ (a : Nat → Int32) (x : Int32) (i : Nat), i < c0 → upd a c0 x (0 + i) = a (0 + i) := fun a x i hi => pk_un (by omega)
  have hhi : ∀ (a : Nat → Int32) (x : Int32) (i : Nat), i < c → upd a c0 x (8 + i) = a (8 + i) := fun a x i hi => pk_un (by omega)
  have us : ∀ (a : Nat → Int32) (x : Int32), upd a c0 x (0 + c0) = x := fun a x => by rw [Nat.zero_add]; exact pk_us
  have T0 := ta_Tr_cg i3 (kd' := upd kd c0 k) (par' := upd pr c0 p) (nm' := upd nm c0 v) (hlo' _ _) (hlo' _ _) (hlo' _ _)
  have X0 := ta_Nx_cg i5 (kd' := upd kd c0 k) (sz' := upd sz c0 0) (tg' := upd tg c0 t) (hlo' _ _) (hlo' _ _) (hlo' _ _)
  have TT : ∃ P', ta_Tr 0 (c0 + 1) (upd kd c0 k) (upd pr c0 p) (upd nm c0 v) P' := by
    have hu : ∀ i, i < c0 → upd pr c0 p (0 + i) = upd pr c0 p (0 + c0) → upd nm c0 v (0 + i) = upd nm c0 v (0 + c0) → False := by
      intro i hi e1 e2
      rw [us, hlo' _ _ i hi, Nat.zero_add] at e1 e2
      exact s6 ⟨i, hi, e1, e2⟩
    rcases s4 with e | ⟨q, hq, e, k3⟩
    · refine ⟨_, ta_Tr_add T0 (N := ta_t v) (by rw [us]; exact s3) (by rw [ta_cnt s3]; omega) (Or.inl ⟨by rw [us]; exact e, by rw [us]⟩) hu⟩
    · have := s5 q hq e
      refine ⟨_, ta_Tr_add T0 (N := P0 q ++ 47 :: ta_t v) (by rw [us]; exact s3) (by rw [ta_cntq s3]; omega) (Or.inr ⟨q, hq, by rw [us]; exact e, by rw [hlo' _ _ q hq, Nat.zero_add]; exact k3, by rw [us]⟩) hu⟩
  obtain ⟨P', TT⟩ := TT
  refine ⟨P', pk_us, by rw [pk_un (by decide)]; exact i2, TT, ta_Tr_cg i4 (hhi _ _) (hhi _ _) (hhi _ _), ?_, ta_Nx_cg i6 (hhi _ _) (hhi _ _) (hhi _ _), ?_, ?_, i9⟩
  · intro i hi
    by_cases z : i < c0
    · exact X0 i z
    · have e : i = c0 := by omega
      subst e
      refine ⟨by rw [us]; exact s2.elim (fun q => Or.inr (Or.inr q)) (fun q => q.elim Or.inl (fun q => Or.inr (Or.inl q))), ?_, by rw [us]; exact ⟨0, by omega, rfl⟩, fun _ => by rw [us]⟩
      rw [us, us]
      intro k2
      rcases s7 with ⟨n2, _⟩ | ⟨_, ⟨q, hq, _, k3, e⟩, _⟩
      · exact absurd k2 n2
      · obtain ⟨j1, j2, _, _⟩ := i5 q hq
        simp only [Nat.zero_add] at j1 j2
        by_cases y : kd q = 2
        · rw [if_pos y] at e
          obtain ⟨q', q1, q2, q3⟩ := j2 y
          exact ⟨q', by omega, e.trans q2, by rw [hlo' _ _ q' (by omega), Nat.zero_add]; exact q3⟩
        · rw [if_neg y] at e
          refine ⟨q, hq, e, ?_⟩
          rw [hlo' _ _ q hq, Nat.zero_add]
          rcases j1 with x | x | x
          · exact x
          · exact absurd x y
          · exact absurd x k3
  · intro i hi
    by_cases z : i < c0
    · rw [hlo _ _ i z, hlo _ _ i z]
      exact i7 i z
    · have e : i = c0 := by omega
      subst e
      rw [pk_us, pk_us]
      intro k2
      rcases s7 with ⟨n2, _⟩ | ⟨_, _, e⟩
      · exact absurd k2 n2
      · exact e
  · intro j
    by_cases z : j = c0
    · rw [z, pk_us, pk_us, pk_us]
      exact fun _ => rfl
    · rw [pk_un z, pk_un z, pk_un z]
      exact i8 j
theorem ta_I_app {c0 c f s : Nat} {ct kd pr nm md my sz tg dt : Nat → Int32} {P0 P : Nat → List Int32} {x : Int32} (hf : f < c0) (hc0 : c0 ≤ 8) (hs : s < 32) (hk : kd f = 1) (hx : ta_by x) (I : ta_I c0 c ct kd pr nm md my sz tg dt P0 P) :
    ta_I c0 c ct kd pr nm md my (upd sz f (nI (s + 1))) tg (upd dt (32 * f + s) x) P0 P := by
  obtain ⟨i1, i2, i3, i4, i5, i6, i7, i8, i9⟩ := I
  refine ⟨i1, i2, i3, i4, fun i hi => ?_, ta_Nx_cg i6 (fun _ _ => rfl) (fun i hi => pk_un (by omega)) (fun _ _ => rfl), i7, i8, ta_upd_by i9 hx⟩
  obtain ⟨a1, a2, a3, a4⟩ := i5 i hi
  refine ⟨a1, a2, ?_, ?_⟩
  · by_cases z : i = f
    · rw [Nat.zero_add, z, pk_us]; exact ⟨s + 1, by omega, rfl⟩
    · rw [Nat.zero_add, pk_un z]; rw [Nat.zero_add] at a3; exact a3
  · intro k1
    by_cases z : i = f
    · rw [Nat.zero_add, z] at k1; exact absurd hk k1
    · have := a4 k1
      rw [Nat.zero_add] at this
      rw [Nat.zero_add, pk_un z]; exact this
end
section
/-! 40: the round trip, pure: octal digits, the bytes of a header -/
theorem rt_sr {n : Nat} (h : n < 2 ^ 31) : ta_sr (nI n) = nI (n / 8) := pk_ushrN (by omega) 3 3 (by decide)
theorem rt_d7 {n : Nat} (h : n < 2 ^ 31) : nI n &&& 7 = nI (n % 8) := pk_andN (by omega) 3 (by decide)
theorem rt_ol {n d : Nat} (h : n < 2 ^ 31) : ta_ol (d + 1) (nI n) = ta_ol d (nI (n / 8)) ++ [nI (48 + n % 8)] := by
  show ta_ol d (ta_sr (nI n)) ++ [48 + (nI n &&& 7)] = _
  rw [rt_sr h, rt_d7 h]
  exact congrArg (fun x => ta_ol d (nI (n / 8)) ++ [x]) (nI_add 48 (n % 8))
theorem rt_gl {L M : List Int32} {k : Nat} (h : k < L.length) : (L ++ M).getD k 0 = L.getD k 0 := by
  rw [List.getD_eq_getElem?_getD, List.getD_eq_getElem?_getD, List.getElem?_append_left h]
theorem rt_gr {L M : List Int32} {k : Nat} (h : L.length ≤ k) : (L ++ M).getD k 0 = M.getD (k - L.length) 0 := by
  rw [List.getD_eq_getElem?_getD, List.getD_eq_getElem?_getD, List.getElem?_append_right h]
theorem rt_gn {L : List Int32} {k : Nat} (h : L.length ≤ k) : L.getD k 0 = 0 := by
  rw [List.getD_eq_getElem?_getD, List.getElem?_eq_none h]; rfl
theorem rt_ov : ∀ d n (a : Nat → Int32) o, n < 8 ^ d → n < 2 ^ 31 → (∀ k, k < d → a (o + k) = (ta_ol d (nI n)).getD k 0) → ta_od a o d ∧ ta_ov a o d = n := by
  intro d
  induction d with
  | zero =>
    intro n a o h _ _
    refine ⟨fun k hk => by omega, ?_⟩
    show 0 = n
    simp at h
    omega
  | succ d ih =>
    intro n a o h h31 hk
    rw [rt_ol h31] at hk
    have hl : (ta_ol d (nI (n / 8))).length = d := ta_ol_len _ _
    rw [Nat.pow_succ] at h
    obtain ⟨i1, i2⟩ := ih (n / 8) a o (by omega) (by omega) (fun k hk' => by rw [hk k (by omega), rt_gl (by omega)])
    have e : a (o + d) = nI (48 + n % 8) := by
      rw [hk d (by omega), rt_gr (by omega), hl, Nat.sub_self]
      rfl
    refine ⟨fun k hk' => ?_, ?_⟩
    · rcases Nat.lt_or_ge k d with y | y
      · exact i1 k y
      · rw [show k = d by omega, e]
        exact ⟨nI_le (a := 48) (by omega) (by omega), nI_le (b := 55) (by omega) (by omega)⟩
    · show ta_ov a o d * 8 + (ta_n (a (o + d)) - 48) = n
      have e2 : ta_n (a (o + d)) = 48 + n % 8 := by unfold ta_n; rw [e, nI_clamp (by omega)]
      rw [i2, e2]
      omega
theorem rt_fld {a : Nat → Int32} {p j : Nat} {M : List Int32} (h : M.length ≤ j → a (p + j) = 0) : ta_wr a p M (p + j) = M.getD j 0 := by
  rcases Nat.lt_or_ge j M.length with y | y
  · exact ta_wr_in y
  · rw [ta_wr_out (by omega), h y, rt_gn y]
theorem rt_cs_wr {a : Nat → Int32} {o : Nat} {M : List Int32} (hM : M.length ≤ 6) : ∀ n, ta_cs (ta_wr a (o + 20) M) o n = ta_cs a o n := by
  intro n
  induction n with
  | zero => rfl
  | succ n ih =>
    show ta_cs (ta_wr a (o + 20) M) o n + (if 20 ≤ n ∧ n < 26 then 32 else ta_wr a (o + 20) M (o + n)) = ta_cs a o n + (if 20 ≤ n ∧ n < 26 then 32 else a (o + n))
    rw [ih]
    by_cases z : 20 ≤ n ∧ n < 26
    · rw [if_pos z, if_pos z]
    · rw [if_neg z, if_neg z, ta_wr_out (by omega)]
theorem rt_cs_cg {a b : Nat → Int32} {o : Nat} : ∀ n, (∀ k, k < n → a (o + k) = b (o + k)) → ta_cs a o n = ta_cs b o n := by
  intro n
  induction n with
  | zero => intro _; rfl
  | succ n ih =>
    intro h
    show ta_cs a o n + (if 20 ≤ n ∧ n < 26 then 32 else a (o + n)) = ta_cs b o n + (if 20 ≤ n ∧ n < 26 then 32 else b (o + n))
    rw [ih (fun k hk => h k (by omega)), h n (by omega)]
/-- the block at o of a holds a header of L, K, m, s, ty -/
def rt_H (a : Nat → Int32) (o : Nat) (L K : List Int32) (m s : Nat) (ty : Int32) : Prop :=
  (∀ j, j < 12 → a (o + j) = (L.drop (ta_nb L)).getD j 0) ∧ (∀ j, j < 3 → a (o + 12 + j) = (ta_ol 3 (nI m)).getD j 0) ∧ a (o + 15) = 0 ∧ (∀ j, j < 3 → a (o + 16 + j) = (ta_ol 3 (nI s)).getD j 0) ∧ a (o + 19) = 0 ∧
  (∀ j, j < 5 → a (o + 20 + j) = (ta_ol 5 (ta_cs a o 64)).getD j 0) ∧ a (o + 25) = 0 ∧ a (o + 26) = ty ∧ (∀ j, j < 12 → a (o + 27 + j) = K.getD j 0) ∧ (∀ j, j < 8 → a (o + 39 + j) = ta_mg.getD j 0) ∧
  (∀ j, j < 10 → a (o + 47 + j) = (L.take (ta_nb L - 1)).getD j 0) ∧ (∀ j, j < 7 → a (o + 57 + j) = 0)
theorem rt_h {z : Nat → Int32} {o m s : Nat} {L K : List Int32} {ty : Int32} (hL : ta_sp L ≠ -2) (hK : K.length ≤ 12) (hz : ∀ j, j < 64 → z (o + j) = 0) : rt_H (ta_h z o L K (nI m) (nI s) ty) o L K m s ty := by
  have h1 : (L.take (ta_nb L - 1)).length ≤ 10 := by
    rw [List.length_take]
    rcases ta_nb_spec hL with ⟨_, _, h⟩ | ⟨s, h0, _, _, _, _, _, h⟩ <;> rw [h] <;> omega
  have h2 : (L.drop (ta_nb L)).length ≤ 12 := by
    rw [List.length_drop]
    rcases ta_nb_spec hL with ⟨_, _, h⟩ | ⟨s, h0, _, _, _, _, _, h⟩ <;> rw [h] <;> omega
  have l3 : ∀ v, (ta_ol 3 v).length = 3 := ta_ol_len 3
  have l5 : ∀ v, (ta_ol 5 v).length = 5 := ta_ol_len 5
  have lm : ta_mg.length = 8 := rfl
  have l1 : ([ty] : List Int32).length = 1 := rfl
  have ec : ta_cs (ta_h z o L K (nI m) (nI s) ty) o 64 = ta_cs (ta_h0 z o L K (nI m) (nI s) ty) o 64 := by
    unfold ta_h
    exact rt_cs_wr (by rw [l5]; omega) 64
  unfold rt_H
  rw [ec]
  unfold ta_h ta_h0
  refine ⟨?_, ?_, ?_, ?_, ?_, ?_, ?_, ?_, ?_, ?_, ?_, ?_⟩
  · intro j hj
    rw [ta_wr_out (by rw [l5]; omega), ta_wr_out (by rw [lm]; omega), ta_wr_out (by rw [l1]; omega), ta_wr_out (by rw [l3]; omega), ta_wr_out (by rw [l3]; omega), ta_wr_out (by omega)]
    exact rt_fld (fun _ => by rw [ta_wr_out (by omega)]; exact hz j (by omega))
  · intro j hj
    rw [ta_wr_out (by rw [l5]; omega), ta_wr_out (by rw [lm]; omega), ta_wr_out (by rw [l1]; omega), ta_wr_out (by rw [l3]; omega)]
    exact ta_wr_in (by rw [l3]; exact hj)
  · rw [ta_wr_out (by rw [l5]; omega), ta_wr_out (by rw [lm]; omega), ta_wr_out (by rw [l1]; omega), ta_wr_out (by rw [l3]; omega), ta_wr_out (by rw [l3]; omega), ta_wr_out (by omega), ta_wr_out (by omega), ta_wr_out (by omega)]
    exact hz 15 (by omega)
  · intro j hj
    rw [ta_wr_out (by rw [l5]; omega), ta_wr_out (by rw [lm]; omega), ta_wr_out (by rw [l1]; omega)]
    exact ta_wr_in (by rw [l3]; exact hj)
  · rw [ta_wr_out (by rw [l5]; omega), ta_wr_out (by rw [lm]; omega), ta_wr_out (by rw [l1]; omega), ta_wr_out (by rw [l3]; omega), ta_wr_out (by rw [l3]; omega), ta_wr_out (by omega), ta_wr_out (by omega), ta_wr_out (by omega)]
    exact hz 19 (by omega)
  · intro j hj
    exact ta_wr_in (by rw [l5]; exact hj)
  · rw [ta_wr_out (by rw [l5]; omega), ta_wr_out (by rw [lm]; omega), ta_wr_out (by rw [l1]; omega), ta_wr_out (by rw [l3]; omega), ta_wr_out (by rw [l3]; omega), ta_wr_out (by omega), ta_wr_out (by omega), ta_wr_out (by omega)]
    exact hz 25 (by omega)
  · rw [ta_wr_out (by rw [l5]; omega), ta_wr_out (by rw [lm]; omega)]
    exact ta_wr_in (k := 0) (by rw [l1]; omega)
  · intro j hj
    rw [ta_wr_out (by rw [l5]; omega), ta_wr_out (by rw [lm]; omega), ta_wr_out (by rw [l1]; omega), ta_wr_out (by rw [l3]; omega), ta_wr_out (by rw [l3]; omega)]
    exact rt_fld (fun _ => by rw [ta_wr_out (by omega), ta_wr_out (by omega), show o + 27 + j = o + (27 + j) by omega]; exact hz _ (by omega))
  · intro j hj
    rw [ta_wr_out (by rw [l5]; omega)]
    exact ta_wr_in (by rw [lm]; exact hj)
  · intro j hj
    rw [ta_wr_out (by rw [l5]; omega), ta_wr_out (by rw [lm]; omega), ta_wr_out (by rw [l1]; omega), ta_wr_out (by rw [l3]; omega), ta_wr_out (by rw [l3]; omega), ta_wr_out (by omega), ta_wr_out (by omega)]
    exact rt_fld (fun _ => by rw [show o + 47 + j = o + (47 + j) by omega]; exact hz _ (by omega))
  · intro j hj
    rw [ta_wr_out (by rw [l5]; omega), ta_wr_out (by rw [lm]; omega), ta_wr_out (by rw [l1]; omega), ta_wr_out (by rw [l3]; omega), ta_wr_out (by rw [l3]; omega), ta_wr_out (by omega), ta_wr_out (by omega), ta_wr_out (by omega), show o + 57 + j = o + (57 + j) by omega]
    exact hz _ (by omega)
theorem rt_H_cg {a b : Nat → Int32} {o m s : Nat} {L K : List Int32} {ty : Int32} (h : rt_H a o L K m s ty) (e : ∀ j, j < 64 → b (o + j) = a (o + j)) : rt_H b o L K m s ty := by
  obtain ⟨h1, h2, h3, h4, h5, h6, h7, h8, h9, h10, h11, h12⟩ := h
  have ec : ta_cs b o 64 = ta_cs a o 64 := rt_cs_cg 64 e
  have e' : ∀ q j, q + j < 64 → b (o + q + j) = a (o + q + j) := fun q j hq => by rw [Nat.add_assoc]; exact e _ hq
  refine ⟨fun j hj => by rw [e j (by omega)]; exact h1 j hj, fun j hj => by rw [e' 12 j (by omega)]; exact h2 j hj, by rw [e 15 (by omega)]; exact h3, fun j hj => by rw [e' 16 j (by omega)]; exact h4 j hj, by rw [e 19 (by omega)]; exact h5,
    fun j hj => by rw [ec, e' 20 j (by omega)]; exact h6 j hj, by rw [e 25 (by omega)]; exact h7, by rw [e 26 (by omega)]; exact h8, fun j hj => by rw [e' 27 j (by omega)]; exact h9 j hj, fun j hj => by rw [e' 39 j (by omega)]; exact h10 j hj, fun j hj => by rw [e' 47 j (by omega)]; exact h11 j hj, fun j hj => by rw [e' 57 j (by omega)]; exact h12 j hj⟩
end
section
/-! 41: a header that create wrote is taken in again -/
theorem rt_mem {L : List Int32} {k : Nat} (h : k < L.length) : L.getD k 0 ∈ L := by
  rw [List.getD_eq_getElem?_getD, List.getElem?_eq_getElem h]
  exact List.getElem_mem _
section
variable {c : Nat} {kd pr nm : Nat → Int32} {P : Nat → List Int32}
theorem rt_first (T : ta_Tr 0 c kd pr nm P) : ∀ i, i < c → ta_nc ((P i).getD 0 0) := by
  intro i
  induction i using Nat.strongRecOn with
  | ind i ih =>
    intro hi
    obtain ⟨hv, _, h⟩ := ta_Nd0 T hi
    rcases h with ⟨_, e⟩ | ⟨q, hq, _, _, e⟩
    · rw [e]
      exact ta_t_mem hv (rt_mem (by rw [ta_t_len]; exact hv.1))
    · rw [e, rt_gl (ta_P_pos T (by omega))]
      exact ih q hq (by omega)
theorem rt_VP (T : ta_Tr 0 c kd pr nm P) : ∀ i, i < c → ta_VP (ta_g (P i)) (P i).length := by
  intro i
  induction i using Nat.strongRecOn with
  | ind i ih =>
    intro hi
    obtain ⟨hv, _, h⟩ := ta_Nd0 T hi
    have h4 := (ta_l_spec (nm i)).1
    have h1 := hv.1
    rcases h with ⟨_, e⟩ | ⟨q, hq, _, _, e⟩
    · rw [e]
      have hl := ta_t_len (nm i)
      intro k hk he
      rcases Nat.lt_or_ge k (ta_t (nm i)).length with y | y
      · rcases he with z | z
        · omega
        · exact absurd (by rw [← z]; exact rt_mem y) (ta_t_47 hv)
      · refine ⟨0, by omega, by omega, Or.inl rfl, fun j _ hj => ?_⟩
        exact ta_t_mem hv (rt_mem (by omega))
    · have hl : (P i).length = (P q).length + 1 + ta_l (nm i) := by rw [e, ta_lenq]
      have g1 : ∀ j, j < (P q).length → ta_g (P i) j = ta_g (P q) j := fun j hj => by
        show (P i).getD j 0 = (P q).getD j 0
        rw [e, rt_gl hj]
      have g2 : ta_g (P i) (P q).length = 47 := by
        show (P i).getD _ 0 = 47
        rw [e, rt_gr (Nat.le_refl _), Nat.sub_self]; rfl
      have g3 : ∀ j, j < ta_l (nm i) → ta_nc (ta_g (P i) ((P q).length + 1 + j)) := fun j hj => by
        show ta_nc ((P i).getD _ 0)
        rw [e, rt_gr (by omega), show (P q).length + 1 + j - (P q).length = j + 1 by omega]
        show ta_nc ((ta_t (nm i)).getD j 0)
        exact ta_t_mem hv (rt_mem (by rw [ta_t_len]; exact hj))
      have IH := ih q hq (by omega)
      intro k hk he
      have low : k ≤ (P q).length → (k = (P q).length ∨ ta_g (P q) k = 47) → ∃ s, s < k ∧ k ≤ s + 4 ∧ (s = 0 ∨ ta_g (P i) (s - 1) = 47) ∧ ∀ j, s ≤ j → j < k → ta_nc (ta_g (P i) j) := by
        intro a b
        obtain ⟨s, s1, s2, s3, s4⟩ := IH k a b
        refine ⟨s, s1, s2, ?_, fun j x y => by rw [g1 j (by omega)]; exact s4 j x y⟩
        rcases s3 with z | z
        · exact Or.inl z
        · exact Or.inr (by rw [g1 _ (by omega)]; exact z)
      rcases Nat.lt_trichotomy k (P q).length with y | y | y
      · refine low (by omega) (Or.inr ?_)
        rcases he with z | z
        · omega
        · rw [← g1 k y]; exact z
      · exact low (by omega) (Or.inl y)
      · rcases Nat.lt_or_ge k (P i).length with w | w
        · rcases he with z | z
          · omega
          · have := g3 (k - ((P q).length + 1)) (by omega)
            rw [show (P q).length + 1 + (k - ((P q).length + 1)) = k by omega, z] at this
            exact absurd this ta_nc_47
        · refine ⟨(P q).length + 1, by omega, by omega, Or.inr (by rw [Nat.add_sub_cancel]; exact g2), fun j x z => ?_⟩
          have := g3 (j - ((P q).length + 1)) (by omega)
          rwa [show (P q).length + 1 + (j - ((P q).length + 1)) = j by omega] at this
theorem rt_vp (T : ta_Tr 0 c kd pr nm P) {i : Nat} (hi : i < c) : ta_vp (P i) := ⟨rt_VP T i hi, (ta_Nd0 T hi).2.1⟩
/-- where the last name of a node's path begins -/
theorem rt_St (T : ta_Tr 0 c kd pr nm P) {i : Nat} (hi : i < c) : ∃ s, ta_St (ta_g (P i)) s (P i).length ∧ ta_sg (ta_g (P i)) s ((P i).length - s) = ta_t (nm i) ∧ ((pr i = -1 ∧ s = 0) ∨ ∃ q, q < i ∧ pr i = nI q ∧ kd q = 3 ∧ 0 < s ∧ P q = (P i).take (s - 1)) := by
  obtain ⟨hv, _, h⟩ := ta_Nd0 T hi
  rcases h with ⟨e1, e⟩ | ⟨q, hq, e1, k3, e⟩
  · refine ⟨0, ⟨Nat.zero_le _, Or.inl rfl, fun j _ hj z => ?_⟩, by rw [Nat.sub_zero, ta_g_sg, e], Or.inl ⟨e1, rfl⟩⟩
    exact ta_t_47 hv (by rw [← e, ← show (P i).getD j 0 = 47 from z]; exact rt_mem hj)
  · have hl : (P i).length = (P q).length + 1 + ta_l (nm i) := by rw [e, ta_lenq]
    have g2 : ta_g (P i) (P q).length = 47 := by
      show (P i).getD _ 0 = 47
      rw [e, rt_gr (Nat.le_refl _), Nat.sub_self]; rfl
    have g3 : ∀ j, ta_g (P i) ((P q).length + 1 + j) = ta_g (ta_t (nm i)) j := fun j => by
      show (P i).getD _ 0 = (ta_t (nm i)).getD j 0
      rw [e, rt_gr (by omega), show (P q).length + 1 + j - (P q).length = j + 1 by omega]; rfl
    refine ⟨(P q).length + 1, ⟨by omega, Or.inr (by rw [Nat.add_sub_cancel]; exact g2), fun j x y z => ?_⟩, ?_, Or.inr ⟨q, hq, e1, k3, by omega, ?_⟩⟩
    · have := g3 (j - ((P q).length + 1))
      rw [show (P q).length + 1 + (j - ((P q).length + 1)) = j by omega, z] at this
      exact ta_t_47 hv (by rw [this]; exact rt_mem (by rw [ta_t_len]; omega))
    · rw [show (P i).length - ((P q).length + 1) = (ta_t (nm i)).length by rw [ta_t_len]; omega]
      conv => rhs; rw [← ta_g_sg (ta_t (nm i))]
      exact ta_sg_congr (fun j _ => by rw [g3, Nat.zero_add])
    · rw [Nat.add_sub_cancel, e, List.take_append_of_le_length (Nat.le_refl _), List.take_of_length_le (Nat.le_refl _)]
end
theorem rt_field {a : Nat → Int32} {o n : Nat} {M : List Int32} (h : ∀ j, j < n → a (o + j) = M.getD j 0) (hl : M.length ≤ n) (hz : ∀ x, x ∈ M → x ≠ 0) : ta_tl a o n = M.length ∧ ta_wf a o n ∧ ta_sg a o M.length = M := by
  have e : M.length = ta_tl a o n := ta_tl_uniq hl (fun k hk => by rw [h k (by omega)]; exact hz _ (rt_mem hk)) (fun hk => by rw [h _ hk, rt_gn (Nat.le_refl _)])
  refine ⟨e.symm, ?_, ?_⟩
  · unfold ta_wf
    rw [← e]
    intro k hk
    rw [Nat.add_assoc, h _ (by omega), rt_gn (by omega)]
  · conv => rhs; rw [← ta_g_sg M]
    exact ta_sg_congr (fun j hj => by rw [h j (by omega), Nat.zero_add]; rfl)
theorem rt_HF {a : Nat → Int32} {o m s : Nat} {L K : List Int32} {ty : Int32} (hb : ∀ j, ta_by (a j)) (h : rt_H a o L K m s ty) (hm : m < 512) (hs : s ≤ 32) (ht : ty = 48 ∨ ty = 49 ∨ ty = 53) (hts : ty ≠ 48 → s = 0) : ta_HF a o 0 ∧ ta_ov a (o + 12) 3 = m ∧ ta_ov a (o + 16) 3 = s := by
  obtain ⟨h1, h2, h3, h4, h5, h6, h7, h8, h9, h10, h11, h12⟩ := h
  obtain ⟨n, n1, n2⟩ := ta_cs_by (o := o) hb 64 (by omega)
  rw [n2] at h6
  obtain ⟨c1, c2⟩ := rt_ov 5 n a (o + 20) (by omega) (by omega) h6
  obtain ⟨m1, m2⟩ := rt_ov 3 m a (o + 12) (by omega) (by omega) h2
  obtain ⟨s1, s2⟩ := rt_ov 3 s a (o + 16) (by omega) (by omega) h4
  refine ⟨Or.inr (Or.inr (Or.inr (Or.inr (Or.inr ⟨⟨⟨c1, h7⟩, by rw [c2, n2]⟩, h10, by unfold ta_Ty; rw [h8]; exact ht, ⟨⟨m1, h3⟩, ⟨s1, h5⟩, h12⟩, fun q => by rw [s2]; rw [h8] at q; exact hts q, by rw [s2]; exact hs, rfl⟩)))), m2, s2⟩
theorem rt_T {c : Nat} {kd pr nm : Nat → Int32} {P : Nat → List Int32} (T : ta_Tr 0 c kd pr nm P) {a : Nat → Int32} {o m s i : Nat} {K : List Int32} {ty : Int32} (hi : i < c) (hsp : ta_sp (P i) ≠ -2) (h : rt_H a o (P i) K m s ty) : ta_wf a o 12 ∧ ta_wf a (o + 47) 10 ∧ ta_T a o = P i := by
  obtain ⟨h1, _, _, _, _, _, _, _, _, _, h11, _⟩ := h
  have nz : ∀ x, x ∈ P i → x ≠ 0 := fun x hx z => by
    rcases ta_P_ch T i hi x hx with e | e
    · rw [z] at e; exact absurd e (by decide)
    · rw [z] at e; exact ta_nc_0 e
  have l1 : ((P i).drop (ta_nb (P i))).length ≤ 12 := by
    rw [List.length_drop]
    rcases ta_nb_spec hsp with ⟨_, _, h⟩ | ⟨s, h0, _, _, _, _, _, h⟩ <;> rw [h] <;> omega
  have l2 : ((P i).take (ta_nb (P i) - 1)).length ≤ 10 := by
    rw [List.length_take]
    rcases ta_nb_spec hsp with ⟨_, _, h⟩ | ⟨s, h0, _, _, _, _, _, h⟩ <;> rw [h] <;> omega
  obtain ⟨n1, n2, n3⟩ := rt_field h1 l1 (fun x hx => nz x (List.mem_of_mem_drop hx))
  obtain ⟨p1, p2, p3⟩ := rt_field h11 l2 (fun x hx => nz x (List.mem_of_mem_take hx))
  refine ⟨n2, p2, ?_⟩
  unfold ta_T
  rw [n1, p1, n3, p3]
  rcases ta_nb_spec hsp with ⟨_, _, e⟩ | ⟨s', s1, s2, s3, s4, s5, _, e⟩
  · rw [e, Nat.zero_sub, List.take_zero, List.drop_zero, if_pos List.length_nil]
  · have hs0 : s' ≠ 0 := fun z => by
      have := rt_first T i hi
      rw [z] at s5
      rw [s5] at this
      exact ta_nc_47 this
    rw [e, Nat.add_sub_cancel, if_neg (by rw [List.length_take]; omega)]
    have hg : (P i)[s'] = 47 := by
      rw [List.getD_eq_getElem?_getD, List.getElem?_eq_getElem s4] at s5
      exact s5
    rw [← hg, ← List.drop_eq_getElem_cons s4, List.take_append_drop]
end
section
/-! 42: the archive that create wrote, block by block; what is extracted of it -/
theorem rt_of_S (sz : Nat → Int32) (k : Nat) : ta_of sz (k + 1) = ta_of sz k + 64 + (if 0 < ta_n (sz k) then 64 else 0) := by
  show 64 * (k + 1 + (ta_fc sz k + (if 0 < ta_n (sz k) then 1 else 0))) = 64 * (k + ta_fc sz k) + 64 + _
  by_cases h : 0 < ta_n (sz k)
  · rw [if_pos h, if_pos h]; omega
  · rw [if_neg h, if_neg h]; omega
theorem rt_of_mono (sz : Nat → Int32) {i n : Nat} (h : i ≤ n) : ta_of sz i ≤ ta_of sz n := by
  have := ta_fc_mono sz h
  show 64 * (i + ta_fc sz i) ≤ 64 * (n + ta_fc sz n)
  omega
/-- the header and the data block of node k stand in a -/
def rt_G (a : Nat → Int32) (kd md sz tg dt : Nat → Int32) (P : Nat → List Int32) (k : Nat) : Prop :=
  (∃ m s, m < 512 ∧ s ≤ 32 ∧ md k = nI m ∧ sz k = nI s ∧ rt_H a (ta_of sz k) (P k) (ta_lk kd tg P k) m s (ta_ty (kd k))) ∧
  (0 < ta_n (sz k) → (∀ q, q < ta_n (sz k) → a (ta_of sz k + 64 + q) = dt (32 * k + q)) ∧ (∀ q, ta_n (sz k) ≤ q → q < 64 → a (ta_of sz k + 64 + q) = 0))
section
variable {kd pr nm md sz tg dt z : Nat → Int32} {P : Nat → List Int32} {c : Nat}
theorem rt_cr_lo (hf : ∀ k, k < c → ta_ft kd tg P k ∧ ta_n (sz k) ≤ 32) {k j : Nat} (hj : j < ta_of sz k) : ∀ i, k ≤ i → i ≤ c → ta_cr kd md sz tg dt P z i j = ta_cr kd md sz tg dt P z k j := by
  intro i
  induction i with
  | zero => intro h _; rw [show k = 0 by omega]
  | succ i ih =>
    intro h1 h2
    rcases Nat.lt_or_ge i k with y | y
    · rw [show k = i + 1 by omega]
    · have hm := rt_of_mono sz y
      have hfi := hf i (by omega)
      rw [← ih y (by omega)]
      show (if 0 < ta_n (sz i) then ta_wr (ta_h (ta_cr kd md sz tg dt P z i) (ta_of sz i) (P i) (ta_lk kd tg P i) (md i) (sz i) (ta_ty (kd i))) (ta_of sz i + 64) (ta_sg dt (32 * i) (ta_n (sz i)))
        else ta_h (ta_cr kd md sz tg dt P z i) (ta_of sz i) (P i) (ta_lk kd tg P i) (md i) (sz i) (ta_ty (kd i))) j = _
      by_cases w : 0 < ta_n (sz i)
      · rw [if_pos w, ta_wr_out (by omega), ta_h_out hfi.1.1 (ta_ft_lk hfi.1) (by omega)]
      · rw [if_neg w, ta_h_out hfi.1.1 (ta_ft_lk hfi.1) (by omega)]
theorem rt_cr_G (hf : ∀ k, k < c → ta_ft kd tg P k ∧ ta_n (sz k) ≤ 32) (hm : ∀ k, k < c → ∃ m, m < 512 ∧ md k = nI m) (hs : ∀ k, k < c → ∃ s, s ≤ 32 ∧ sz k = nI s) (hz : ∀ j, j < 768 → z j = 0) (hB : ta_of sz c ≤ 640) {k : Nat} (hk : k < c) : rt_G (ta_cr kd md sz tg dt P z c) kd md sz tg dt P k := by
  obtain ⟨m, m1, m2⟩ := hm k hk
  obtain ⟨s, s1, s2⟩ := hs k hk
  have hfk := hf k hk
  have en : ta_n (sz k) = s := by unfold ta_n; rw [s2, nI_clamp (by omega)]
  have hm1 := rt_of_mono sz (show k + 1 ≤ c by omega)
  have eS := rt_of_S sz k
  have lo : ∀ j, j < ta_of sz (k + 1) → ta_cr kd md sz tg dt P z c j = ta_cr kd md sz tg dt P z (k + 1) j := fun j hj => rt_cr_lo hf hj c (by omega) (Nat.le_refl _)
  have zz : ∀ j, ta_of sz k ≤ j → j < 768 → ta_cr kd md sz tg dt P z k j = 0 := fun j h1 h2 => by
    rw [ta_cr_out k (fun i hi => hf i (by omega)) j h1]; exact hz j h2
  have H := rt_h (z := ta_cr kd md sz tg dt P z k) (o := ta_of sz k) (m := m) (s := s) (L := P k) (K := ta_lk kd tg P k) (ty := ta_ty (kd k)) hfk.1.1 (ta_ft_lk hfk.1) (fun j hj => zz _ (by omega) (by omega))
  rw [← m2, ← s2] at H
  have hcr : ta_cr kd md sz tg dt P z (k + 1) = (if 0 < ta_n (sz k) then ta_wr (ta_h (ta_cr kd md sz tg dt P z k) (ta_of sz k) (P k) (ta_lk kd tg P k) (md k) (sz k) (ta_ty (kd k))) (ta_of sz k + 64) (ta_sg dt (32 * k) (ta_n (sz k)))
        else ta_h (ta_cr kd md sz tg dt P z k) (ta_of sz k) (P k) (ta_lk kd tg P k) (md k) (sz k) (ta_ty (kd k))) := rfl
  refine ⟨⟨m, s, m1, s1, m2, s2, rt_H_cg H (fun j hj => ?_)⟩, fun w => ?_⟩
  · rw [lo _ (by omega), hcr]
    by_cases w : 0 < ta_n (sz k)
    · rw [if_pos w, ta_wr_out (by omega)]
    · rw [if_neg w]
  · rw [if_pos w] at eS hcr
    refine ⟨fun q hq => ?_, fun q h1 h2 => ?_⟩
    · rw [lo _ (by omega), hcr, ta_wr_in (by rw [ta_sg_len]; exact hq), List.getD_eq_getElem?_getD, ta_sg_get hq]; rfl
    · rw [lo _ (by omega), hcr, ta_wr_out (by rw [ta_sg_len]; omega), ta_h_out hfk.1.1 (ta_ft_lk hfk.1) (by omega)]
      exact zz _ (by omega) (by omega)
end
/-- k nodes are extracted: they are the source's first k -/
def rt_E (c0 k : Nat) (kd pr nm md sz tg dt ct' kd' pr' nm' md' sz' tg' dt' : Nat → Int32) : Prop :=
  ct' 0 = nI c0 ∧ ct' 1 = nI k ∧ (∀ i, i < 8 → kd' i = kd i ∧ pr' i = pr i ∧ nm' i = nm i ∧ md' i = md i ∧ sz' i = sz i ∧ tg' i = tg i) ∧ (∀ j, j < 256 → dt' j = dt j) ∧
  (∀ i, i < k → kd' (8 + i) = kd i ∧ pr' (8 + i) = pr i ∧ nm' (8 + i) = nm i ∧ md' (8 + i) = md i ∧ sz' (8 + i) = sz i ∧ tg' (8 + i) = tg i ∧ ∀ q, q < ta_n (sz i) → dt' (32 * (8 + i) + q) = dt (32 * i + q)) ∧ (∀ j, ta_by (dt' j))
section
variable {kd pr nm md sz tg dt ct' kd' pr' nm' md' sz' tg' dt' : Nat → Int32} {P : Nat → List Int32} {c k : Nat}
theorem rt_E_Tr (T : ta_Tr 0 c kd pr nm P) (hk : k ≤ c) (E : rt_E c k kd pr nm md sz tg dt ct' kd' pr' nm' md' sz' tg' dt') : ta_Tr 8 k kd' pr' nm' P := by
  obtain ⟨_, _, _, _, e, _⟩ := E
  refine ⟨fun i hi => ?_, fun i j hi hj x y => ?_⟩
  · obtain ⟨a1, a2, a3⟩ := ta_Nd0 T (show i < c by omega)
    obtain ⟨e1, e2, e3, _⟩ := e i hi
    refine ⟨by rw [e3]; exact a1, a2, ?_⟩
    rw [e2, e3]
    rcases a3 with a3 | ⟨q, q1, q2, q3, q4⟩
    · exact Or.inl a3
    · exact Or.inr ⟨q, q1, q2, by rw [(e q (by omega)).1]; exact q3, q4⟩
  · rw [(e i hi).2.1, (e j hj).2.1] at x
    rw [(e i hi).2.2.1, (e j hj).2.2.1] at y
    exact T.2 i j (by omega) (by omega) (by simpa only [Nat.zero_add] using x) (by simpa only [Nat.zero_add] using y)
theorem rt_E_Nx (X : ∀ i, i < c → ta_Nx 0 kd sz tg i) (hk : k ≤ c) (E : rt_E c k kd pr nm md sz tg dt ct' kd' pr' nm' md' sz' tg' dt') : ∀ i, i < k → ta_Nx 8 kd' sz' tg' i := by
  obtain ⟨_, _, _, _, e, _⟩ := E
  intro i hi
  obtain ⟨a1, a2, a3, a4⟩ := X i (by omega)
  obtain ⟨e1, e2, e3, _, e5, e6, _⟩ := e i hi
  simp only [Nat.zero_add] at a1 a2 a3 a4
  refine ⟨by rw [e1]; exact a1, ?_, by rw [e5]; exact a3, by rw [e1, e5]; exact a4⟩
  rw [e1, e6]
  intro k2
  obtain ⟨q, q1, q2, q3⟩ := a2 k2
  exact ⟨q, q1, q2, by rw [(e q (by omega)).1]; exact q3⟩
theorem rt_ty3 {x : Int32} (h : x = 1 ∨ x = 2 ∨ x = 3) : (ta_ty x = 48 ∨ ta_ty x = 49 ∨ ta_ty x = 53) ∧ (ta_ty x ≠ 48 → x ≠ 1) ∧ ta_ki (ta_ty x) = x ∧ (ta_ty x = 49 ↔ x = 2) := by
  rcases h with h | h | h <;> rw [h] <;> decide
/-- the header of node k is taken in, as node k -/
theorem rt_EF (T : ta_Tr 0 c kd pr nm P) (X : ∀ i, i < c → ta_Nx 0 kd sz tg i) (hc : c ≤ 8) (htg : ∀ i, i < c → kd i ≠ 2 → tg i = -1) (hk : k < c) (E : rt_E c k kd pr nm md sz tg dt ct' kd' pr' nm' md' sz' tg' dt') {a : Nat → Int32} (hft : ta_ft kd tg P k) {o m s : Nat} (H : rt_H a o (P k) (ta_lk kd tg P k) m s (ta_ty (kd k))) :
    ta_EF a o 8 k kd' tg' P 0 (pr k) (nm k) (tg k) := by
  obtain ⟨w1, w2, eT⟩ := rt_T T hk hft.1 H
  obtain ⟨st, h1, h2, h3⟩ := rt_St T hk
  obtain ⟨_, _, _, _, _, _, _, h8, h9, _, _, _⟩ := H
  have hv := (ta_Nd0 T hk).1
  have vp := rt_vp T hk
  obtain ⟨x1, x2, _, _⟩ := X k hk
  simp only [Nat.zero_add] at x1 x2
  obtain ⟨t1, t2, t3, t4⟩ := rt_ty3 x1
  have ee := E.2.2.2.2.1
  refine Or.inr (Or.inr ⟨⟨w1, w2, by rw [eT]; exact vp⟩, by omega, st, by rw [eT]; exact h1, Or.inr ⟨?_, Or.inr ⟨?_, ?_, Or.inr ⟨?_, rfl⟩⟩⟩⟩)
  · rw [eT]
    rcases h3 with ⟨e1, e2⟩ | ⟨q, q1, q2, q3, q4, q5⟩
    · exact Or.inl ⟨e2, e1⟩
    · exact Or.inr ⟨q4, q, q1, q5, by rw [(ee q q1).1]; exact q3, q2⟩
  · rw [eT]
    rintro ⟨j, hj, e⟩
    have := ta_P_inj T j k (by omega) hk e
    omega
  · rw [eT]
    have N := ta_vp_name vp h1
    exact ta_t_inj hv N.1 (by rw [N.2, h2])
  · by_cases k2 : kd k = 2
    · obtain ⟨q, q1, q2, q3⟩ := x2 k2
      have en : ta_n (tg k) = q := by unfold ta_n; rw [q2, nI_clamp (by omega)]
      have ek : ta_lk kd tg P k = P q := by unfold ta_lk; rw [if_pos k2, en]
      have hl := ta_ft_lk hft
      rw [ek] at h9 hl
      obtain ⟨f1, f2, f3⟩ := rt_field h9 hl (fun x hx z => by
        rcases ta_P_ch T q (by omega) x hx with e | e
        · rw [z] at e; exact absurd e (by decide)
        · rw [z] at e; exact ta_nc_0 e)
      refine Or.inr ⟨by rw [h8]; exact t4.mpr k2, f2, q, q1, by rw [f1, f3], ?_, ?_⟩
      · rw [(ee q q1).1, q3]; decide
      · rw [if_neg (by rw [(ee q q1).1, q3]; decide), q2]
    · have ek : ta_lk kd tg P k = [] := by unfold ta_lk; rw [if_neg k2]
      rw [ek] at h9
      exact Or.inl ⟨by rw [h8]; exact fun z => k2 (t4.mp z), fun j hj => by rw [h9 j hj]; rfl, htg k hk k2⟩
theorem rt_go (T : ta_Tr 0 c kd pr nm P) (X : ∀ i, i < c → ta_Nx 0 kd sz tg i) (hc : c ≤ 8) (htg : ∀ i, i < c → kd i ≠ 2 → tg i = -1) (hk : k < c) (E : rt_E c k kd pr nm md sz tg dt ct' kd' pr' nm' md' sz' tg' dt') {a : Nat → Int32} (hb : ∀ j, ta_by (a j)) (hft : ta_ft kd tg P k) (G : rt_G a kd md sz tg dt P k) {L : Nat} (hL : ta_of sz (k + 1) ≤ L) :
    ta_Go a L 8 k kd' tg' P (k + ta_fc sz k) (pr k) (nm k) (tg k) ∧ ta_ov a (64 * (k + ta_fc sz k) + 12) 3 = ta_n (md k) ∧ ta_ov a (64 * (k + ta_fc sz k) + 16) 3 = ta_n (sz k) ∧ ta_ki (a (64 * (k + ta_fc sz k) + 26)) = kd k ∧ nI (ta_n (md k)) = md k ∧ nI (ta_n (sz k)) = sz k := by
  obtain ⟨⟨m, s, m1, s1, m2, s2, H⟩, D⟩ := G
  have H' : rt_H a (64 * (k + ta_fc sz k)) (P k) (ta_lk kd tg P k) m s (ta_ty (kd k)) := H
  obtain ⟨x1, _, _, x4⟩ := X k hk
  simp only [Nat.zero_add] at x1 x4
  obtain ⟨t1, t2, t3, t4⟩ := rt_ty3 x1
  have en : ta_n (sz k) = s := by unfold ta_n; rw [s2, nI_clamp (by omega)]
  have em : ta_n (md k) = m := by unfold ta_n; rw [m2, nI_clamp (by omega)]
  obtain ⟨f1, f2, f3⟩ := rt_HF hb H' m1 s1 t1 (fun q => by
    have := x4 (t2 q)
    rw [s2] at this
    exact (nI_eq (b := 0) (by omega) (by omega)).mp this)
  have eS := rt_of_S sz k
  have eo : ta_of sz k = 64 * (k + ta_fc sz k) := rfl
  have hH8 : a (64 * (k + ta_fc sz k) + 26) = ta_ty (kd k) := H'.2.2.2.2.2.2.2.1
  refine ⟨⟨by omega, fun zz => ?_, f1, rt_EF T X hc htg hk E hft H', ?_⟩, by rw [f2, em], by rw [f3, en], by rw [hH8]; exact t3, by rw [em, m2], by rw [en, s2]⟩
  · have h39 := H'.2.2.2.2.2.2.2.2.2.1 0 (by omega)
    have := zz 39 (by omega)
    rw [Nat.add_zero] at h39
    rw [h39] at this
    exact absurd this (by decide)
  · rw [f3]
    rcases Nat.eq_zero_or_pos s with y | y
    · exact Or.inl y
    · refine Or.inr ⟨?_, fun q hq => ?_⟩
      · rw [if_pos (by omega)] at eS
        omega
      · obtain ⟨_, d2⟩ := D (by omega)
        have := d2 (s + q) (by omega) (by omega)
        rw [eo] at this
        rw [show 64 * (k + ta_fc sz k + 1) + s + q = 64 * (k + ta_fc sz k) + 64 + (s + q) by omega]
        exact this
end
end
section
/-! 43: extract over an archive whose first k1 nodes are good -/
section
variable {kd pr nm md sz tg dt ct' kd' pr' nm' md' sz' tg' dt' a : Nat → Int32} {P : Nat → List Int32} {c k : Nat}
theorem rt_E_S (hb : ∀ j, ta_by (a j)) (hc : c ≤ 8) (hk : k < c) (hs32 : ∀ i, i < c → ta_n (sz i) ≤ 32) (E : rt_E c k kd pr nm md sz tg dt ct' kd' pr' nm' md' sz' tg' dt') (G : rt_G a kd md sz tg dt P k) {o : Nat} (ho : o = ta_of sz k) {x1 x2 x3 : Int32} {s : Nat} (e1 : x1 = kd k) (e2 : x2 = md k) (e3 : x3 = sz k) (es : s = ta_n (sz k)) :
    rt_E c (k + 1) kd pr nm md sz tg dt (upd ct' 1 (nI (k + 1))) (upd kd' (8 + k) x1) (upd pr' (8 + k) (pr k)) (upd nm' (8 + k) (nm k)) (upd md' (8 + k) x2) (upd sz' (8 + k) x3) (upd tg' (8 + k) (tg k)) (ta_wr dt' (32 * (8 + k)) (ta_sg a (o + 64) s)) := by
  obtain ⟨h1, h2, h3, h4, h5, h6⟩ := E
  have s32 := hs32 k hk
  refine ⟨by rw [pk_un (by decide)]; exact h1, pk_us, fun i hi => ?_, fun j hj => ?_, fun i hi => ?_, ta_wr_by h6 (fun x hx => by obtain ⟨q, _, e⟩ := ta_sg_mem.mp hx; rw [← e]; exact hb _)⟩
  · have := h3 i hi
    refine ⟨by rw [pk_un (by omega)]; exact this.1, by rw [pk_un (by omega)]; exact this.2.1, by rw [pk_un (by omega)]; exact this.2.2.1, by rw [pk_un (by omega)]; exact this.2.2.2.1, by rw [pk_un (by omega)]; exact this.2.2.2.2.1, by rw [pk_un (by omega)]; exact this.2.2.2.2.2⟩
  · rw [ta_wr_out (by omega)]; exact h4 j hj
  · rcases Nat.lt_or_ge i k with y | y
    · have := h5 i y
      have i32 := hs32 i (by omega)
      refine ⟨by rw [pk_un (by omega)]; exact this.1, by rw [pk_un (by omega)]; exact this.2.1, by rw [pk_un (by omega)]; exact this.2.2.1, by rw [pk_un (by omega)]; exact this.2.2.2.1, by rw [pk_un (by omega)]; exact this.2.2.2.2.1, by rw [pk_un (by omega)]; exact this.2.2.2.2.2.1, fun q hq => ?_⟩
      rw [ta_wr_out (by omega)]
      exact this.2.2.2.2.2.2 q hq
    · have e : i = k := by omega
      subst e
      refine ⟨by rw [pk_us]; exact e1, pk_us, pk_us, by rw [pk_us]; exact e2, by rw [pk_us]; exact e3, pk_us, fun q hq => ?_⟩
      rw [ta_wr_in (by rw [ta_sg_len, es]; exact hq), List.getD_eq_getElem?_getD, ta_sg_get (by rw [es]; exact hq), ho]
      exact (G.2 (by omega)).1 q hq
theorem rt_run (T : ta_Tr 0 c kd pr nm P) (X : ∀ i, i < c → ta_Nx 0 kd sz tg i) (hc : c ≤ 8) (htg : ∀ i, i < c → kd i ≠ 2 → tg i = -1) (hft : ∀ i, i < c → ta_ft kd tg P i) (hb : ∀ j, ta_by (a j)) {k1 L : Nat} (hk1 : k1 ≤ c) (hG : ∀ i, i < k1 → rt_G a kd md sz tg dt P i) (hL : L ≤ 768) (hLc : ta_of sz c + 128 ≤ L) {post : Int32 → St2 → Prop} {fe : Int32}
    (hS : ∀ ct' kd' pr' nm' md' sz' tg' dt', rt_E c k1 kd pr nm md sz tg dt ct' kd' pr' nm' md' sz' tg' dt' → ∃ r e, ta_Stop a L 8 k1 kd' tg' P (k1 + ta_fc sz k1) r e ∧ ∀ fp fn ft pa, post r (nI 8, nI 12, nI L, e, fp, fn, ft, ct', kd', pr', nm', md', sz', tg', dt', a, pa)) :
    ∀ n k ct' kd' pr' nm' md' sz' tg' dt' fp fn ft pa, k ≤ k1 → k1 < k + n → rt_E c k kd pr nm md sz tg dt ct' kd' pr' nm' md' sz' tg' dt' → wX_extract_9 post n (nI (k + ta_fc sz k)) (nI 8) (nI 12) (nI L) fe fp fn ft ct' kd' pr' nm' md' sz' tg' dt' a pa := by
  have hs32 : ∀ i, i < c → ta_n (sz i) ≤ 32 := fun i hi => by
    obtain ⟨_, _, ⟨s, s1, s2⟩, _⟩ := X i hi
    rw [Nat.zero_add] at s2
    unfold ta_n
    rw [s2, nI_clamp (by omega)]; exact s1
  intro n
  induction n with
  | zero => intro k ct' kd' pr' nm' md' sz' tg' dt' fp fn ft pa _ g; omega
  | succ n ih =>
    intro k ct' kd' pr' nm' md' sz' tg' dt' fp fn ft pa g1 g2 E
    have T8 := rt_E_Tr T (by omega) E
    have X8 := rt_E_Nx X (by omega) E
    have eo : ta_of sz k = 64 * (k + ta_fc sz k) := rfl
    have hmo := rt_of_mono sz (show k ≤ c by omega)
    rcases Nat.lt_or_ge k k1 with y | y
    · have hm1 := rt_of_mono sz (show k + 1 ≤ c by omega)
      obtain ⟨Go, o1, o2, o3, o4, o5⟩ := rt_go T X hc htg (by omega) E hb (hft k (by omega)) (hG k y) (L := L) (by omega)
      refine xa_step T8 E.2.1 X8 (mn := 8) (mb := 12) (by omega) (by omega) (by omega) (by omega) hb (by omega) (fun r e hSt => (ta_Stop_Go T8 hSt Go).elim) (fun nd nv t hGo _ pa' => ?_)
      obtain ⟨q1, q2, q3⟩ := ta_Go_u T8 Go hGo
      subst q1 q2 q3
      have E2 := rt_E_S (P := P) hb hc (by omega) hs32 E (hG k y) (o := 64 * (k + ta_fc sz k)) rfl o3 (show nI (ta_ov a (64 * (k + ta_fc sz k) + 12) 3) = md k by rw [o1]; exact o4) (show nI (ta_ov a (64 * (k + ta_fc sz k) + 16) 3) = sz k by rw [o2]; exact o5) o2
      have := ih (k + 1) _ _ _ _ _ _ _ _ (pr k) (nm k) (tg k) pa' (by omega) (by omega) E2
      have eb : (if ta_ov a (64 * (k + ta_fc sz k) + 16) 3 = 0 then k + ta_fc sz k + 1 else k + ta_fc sz k + 2) = k + 1 + ta_fc sz (k + 1) := by
        rw [o2]
        by_cases w : ta_n (sz k) = 0
        · rw [if_pos w, ta_fc_z w]; omega
        · rw [if_neg w, ta_fc_p (by omega)]; omega
      rw [eb]
      exact this
    · have ek : k = k1 := by omega
      subst ek
      obtain ⟨r, e, hSt, hp⟩ := hS _ _ _ _ _ _ _ _ E
      refine xa_step T8 E.2.1 X8 (mn := 8) (mb := 12) (by omega) (by omega) (by omega) (by omega) hb (by omega) (fun r' e' hSt' fp' fn' ft' pa' => ?_) (fun nd nv t hGo => (ta_Stop_Go T8 hSt hGo).elim)
      obtain ⟨q1, q2⟩ := ta_Stop_u T8 hSt hSt'
      subst q1 q2
      exact hp fp' fn' ft' pa'
end
/-! a changed byte -/
def rt_sN (a : Nat → Int32) (o : Nat) : Nat → Nat
  | 0 => 0
  | n + 1 => rt_sN a o n + (if 20 ≤ n ∧ n < 26 then 32 else ta_n (a (o + n)))
theorem rt_sN_cs {a : Nat → Int32} {o : Nat} (hb : ∀ j, ta_by (a j)) : ∀ n, ta_cs a o n = nI (rt_sN a o n) ∧ rt_sN a o n ≤ 255 * n := by
  intro n
  induction n with
  | zero => exact ⟨rfl, Nat.le_refl _⟩
  | succ n ih =>
    obtain ⟨q, q1, q2⟩ := hb (o + n)
    have en : ta_n (a (o + n)) = q := by unfold ta_n; rw [q2, nI_clamp (by omega)]
    have e : rt_sN a o (n + 1) = rt_sN a o n + (if 20 ≤ n ∧ n < 26 then 32 else ta_n (a (o + n))) := rfl
    have e' : ta_cs a o (n + 1) = ta_cs a o n + (if 20 ≤ n ∧ n < 26 then 32 else a (o + n)) := rfl
    rw [e, e', ih.1]
    by_cases w : 20 ≤ n ∧ n < 26
    · rw [if_pos w, if_pos w]
      exact ⟨nI_add _ 32, by omega⟩
    · rw [if_neg w, if_neg w, en, q2, nI_add]
      exact ⟨rfl, by omega⟩
theorem rt_sN_upd {a : Nat → Int32} {o j : Nat} {x : Int32} (hj : ¬ (20 ≤ j ∧ j < 26)) : ∀ n, rt_sN (upd a (o + j) x) o n + (if j < n then ta_n (a (o + j)) else 0) = rt_sN a o n + (if j < n then ta_n x else 0) := by
  intro n
  induction n with
  | zero => rw [if_neg (by omega), if_neg (by omega)]; rfl
  | succ n ih =>
    show rt_sN (upd a (o + j) x) o n + (if 20 ≤ n ∧ n < 26 then 32 else ta_n (upd a (o + j) x (o + n))) + _ = rt_sN a o n + (if 20 ≤ n ∧ n < 26 then 32 else ta_n (a (o + n))) + _
    rcases Nat.lt_trichotomy j n with w | w | w
    · rw [if_pos w, if_pos w] at ih
      rw [if_pos (show j < n + 1 by omega), if_pos (show j < n + 1 by omega), pk_un (by omega)]
      omega
    · subst w
      rw [if_neg (by omega), if_neg (by omega)] at ih
      rw [if_pos (show j < j + 1 by omega), if_pos (show j < j + 1 by omega), if_neg hj, if_neg hj, pk_us]
      omega
    · rw [if_neg (by omega), if_neg (by omega)] at ih
      rw [if_neg (show ¬ j < n + 1 by omega), if_neg (show ¬ j < n + 1 by omega), pk_un (by omega)]
      omega
theorem rt_cs_skip {a : Nat → Int32} {o j : Nat} {x : Int32} (hj : 20 ≤ j ∧ j < 26) : ∀ n, ta_cs (upd a (o + j) x) o n = ta_cs a o n := by
  intro n
  induction n with
  | zero => rfl
  | succ n ih =>
    show ta_cs (upd a (o + j) x) o n + (if 20 ≤ n ∧ n < 26 then 32 else upd a (o + j) x (o + n)) = ta_cs a o n + (if 20 ≤ n ∧ n < 26 then 32 else a (o + n))
    rw [ih]
    by_cases w : 20 ≤ n ∧ n < 26
    · rw [if_pos w, if_pos w]
    · rw [if_neg w, if_neg w, pk_un (by omega)]
theorem rt_ov_inj {a b : Nat → Int32} {o : Nat} : ∀ d, ta_od a o d → ta_od b o d → ta_ov a o d = ta_ov b o d → ∀ k, k < d → a (o + k) = b (o + k) := by
  intro d
  induction d with
  | zero => intro _ _ _ k hk; omega
  | succ d ih =>
    intro ha hb h k hk
    obtain ⟨m, m1, m2, m3⟩ := ta_dg (ha d (by omega))
    obtain ⟨m', n1, n2, n3⟩ := ta_dg (hb d (by omega))
    have h : ta_ov a o d * 8 + (ta_n (a (o + d)) - 48) = ta_ov b o d * 8 + (ta_n (b (o + d)) - 48) := h
    rw [m3, n3] at h
    rcases Nat.lt_or_ge k d with y | y
    · exact ih (fun i hi => ha i (by omega)) (fun i hi => hb i (by omega)) (by omega) k y
    · rw [show k = d by omega, m2, n2, show m = m' by omega]
/-- a header with one byte changed has a wrong checksum -/
theorem rt_bad {a : Nat → Int32} {o j : Nat} {x : Int32} (hb : ∀ j, ta_by (a j)) (hx : ta_by x) (h : ta_Ck a o) (hj : j < 64) (hne : a (o + j) ≠ x) : ¬ ta_Ck (upd a (o + j) x) o := by
  rintro ⟨⟨g1, g2⟩, g3⟩
  obtain ⟨⟨h1, h2⟩, h3⟩ := h
  have hb' := ta_upd_by (o := o + j) hb hx
  have l1 := ta_ov_lt 5 h1
  have l2 := ta_ov_lt 5 g1
  by_cases w : 20 ≤ j ∧ j < 26
  · rw [rt_cs_skip w, ← h3] at g3
    have ev := (nI_eq (by omega) (by omega)).mp g3
    rcases Nat.lt_or_ge j 25 with y | y
    · have := rt_ov_inj 5 g1 h1 ev (j - 20) (by omega)
      rw [show o + 20 + (j - 20) = o + j by omega, pk_us] at this
      exact hne this.symm
    · rw [show o + 20 + 5 = o + j by omega, pk_us] at g2
      rw [show o + 20 + 5 = o + j by omega] at h2
      exact hne (h2.trans g2.symm)
  · have hd : ∀ k, k < 6 → upd a (o + j) x (o + 20 + k) = a (o + 20 + k) := fun k hk => pk_un (by omega)
    have ev : ta_ov (upd a (o + j) x) (o + 20) 5 = ta_ov a (o + 20) 5 := by
      have : ∀ d, d ≤ 5 → ta_ov (upd a (o + j) x) (o + 20) d = ta_ov a (o + 20) d := by
        intro d
        induction d with
        | zero => intro _; rfl
        | succ d ih =>
          intro hd5
          show ta_ov (upd a (o + j) x) (o + 20) d * 8 + (ta_n (upd a (o + j) x (o + 20 + d)) - 48) = ta_ov a (o + 20) d * 8 + (ta_n (a (o + 20 + d)) - 48)
          rw [ih (by omega), hd d (by omega)]
      exact this 5 (Nat.le_refl _)
    rw [ev, h3] at g3
    obtain ⟨s1, s2⟩ := rt_sN_cs (o := o) hb 64
    obtain ⟨t1, t2⟩ := rt_sN_cs (o := o) hb' 64
    rw [s1, t1] at g3
    have es := (nI_eq (by omega) (by omega)).mp g3
    have eu := rt_sN_upd (a := a) (o := o) (j := j) (x := x) w 64
    rw [if_pos hj, if_pos hj] at eu
    obtain ⟨p, p1, p2⟩ := hb (o + j)
    obtain ⟨q, q1, q2⟩ := hx
    have ep : ta_n (a (o + j)) = p := by unfold ta_n; rw [p2, nI_clamp (by omega)]
    have eq : ta_n x = q := by unfold ta_n; rw [q2, nI_clamp (by omega)]
    rw [ep, eq] at eu
    exact hne (by rw [p2, q2, show p = q by omega])
end
section
/-! 44: how extract ends: over what create wrote, and over it with one byte changed -/
section
variable {kd pr nm md sz tg dt ct' kd' pr' nm' md' sz' tg' dt' a : Nat → Int32} {P : Nat → List Int32} {c k : Nat}
theorem rt_loc (sz : Nat → Int32) {p : Nat} : ∀ c, p < ta_of sz c → ∃ k, k < c ∧ ta_of sz k ≤ p ∧ p < ta_of sz (k + 1) := by
  intro c
  induction c with
  | zero => intro h; exact absurd h (Nat.not_lt_zero _)
  | succ c ih =>
    intro h
    rcases Nat.lt_or_ge p (ta_of sz c) with y | y
    · obtain ⟨k, h1, h2, h3⟩ := ih y
      exact ⟨k, by omega, h2, h3⟩
    · exact ⟨c, by omega, y, h⟩
theorem rt_G_cg {b : Nat → Int32} (h : rt_G a kd md sz tg dt P k) (e : ∀ j, ta_of sz k ≤ j → j < ta_of sz (k + 1) → b j = a j) : rt_G b kd md sz tg dt P k := by
  obtain ⟨⟨m, s, m1, s1, m2, s2, H⟩, D⟩ := h
  have eS := rt_of_S sz k
  refine ⟨⟨m, s, m1, s1, m2, s2, rt_H_cg H (fun j hj => e _ (by omega) (by omega))⟩, fun w => ?_⟩
  rw [if_pos w] at eS
  have s32 : ta_n (sz k) ≤ 32 := by unfold ta_n; rw [s2, nI_clamp (by omega)]; exact s1
  obtain ⟨d1, d2⟩ := D w
  exact ⟨fun q hq => by rw [e _ (by omega) (by omega)]; exact d1 q hq, fun q h1 h2 => by rw [e _ (by omega) (by omega)]; exact d2 q h1 h2⟩
theorem rt_ok {L : Nat} (hz : ∀ j, j < 128 → a (ta_of sz c + j) = 0) (hL : L = ta_of sz c + 128) : ta_Stop a L 8 c kd' tg' P (c + ta_fc sz c) (nI c) (-1) := by
  have eo : ta_of sz c = 64 * (c + ta_fc sz c) := rfl
  rw [eo] at hz hL
  refine Or.inr (Or.inl ⟨by omega, fun j hj => hz j (by omega), Or.inr (Or.inr ⟨by omega, fun j hj => ?_, rfl, rfl⟩)⟩)
  have := hz (64 + j) (by omega)
  rwa [show 64 * (c + ta_fc sz c) + (64 + j) = 64 * (c + ta_fc sz c + 1) + j by omega] at this
theorem rt_Ck {m s : Nat} {L K : List Int32} {ty : Int32} {o : Nat} (hb : ∀ j, ta_by (a j)) (h : rt_H a o L K m s ty) : ta_Ck a o := by
  obtain ⟨_, _, _, _, _, h6, h7, _⟩ := h
  obtain ⟨n, n1, n2⟩ := ta_cs_by (o := o) hb 64 (by omega)
  rw [n2] at h6
  obtain ⟨c1, c2⟩ := rt_ov 5 n a (o + 20) (by omega) (by omega) h6
  exact ⟨⟨c1, h7⟩, by rw [c2, n2]⟩
theorem rt_poke (T : ta_Tr 0 c kd pr nm P) (X : ∀ i, i < c → ta_Nx 0 kd sz tg i) (hc : c ≤ 8) (htg : ∀ i, i < c → kd i ≠ 2 → tg i = -1) (hft : ∀ i, i < c → ta_ft kd tg P i) (hb : ∀ j, ta_by (a j)) (hG : ∀ i, i < c → rt_G a kd md sz tg dt P i) (hz : ∀ j, j < 128 → a (ta_of sz c + j) = 0) {L p : Nat} {x : Int32} (hL : L = ta_of sz c + 128) (hp : p < L) (hx : ta_by x) (hne : a p ≠ x)
    (hex : ∀ i, i < c → 0 < ta_n (sz i) → ¬ (ta_of sz i + 64 ≤ p ∧ p < ta_of sz i + 64 + ta_n (sz i))) :
    ∃ k1, k1 ≤ c ∧ (∀ i, i < k1 → rt_G (upd a p x) kd md sz tg dt P i) ∧ ∀ ct' kd' pr' nm' md' sz' tg' dt', rt_E c k1 kd pr nm md sz tg dt ct' kd' pr' nm' md' sz' tg' dt' → ∃ r e, ta_Stop (upd a p x) L 8 k1 kd' tg' P (k1 + ta_fc sz k1) r e ∧ r < 0 := by
  have hb' := ta_upd_by (o := p) hb hx
  rcases Nat.lt_or_ge p (ta_of sz c) with y | y
  · obtain ⟨k, k1, k2, k3⟩ := rt_loc sz c y
    have eS := rt_of_S sz k
    have eo : ta_of sz k = 64 * (k + ta_fc sz k) := rfl
    have hmo := rt_of_mono sz (show k + 1 ≤ c by omega)
    refine ⟨k, by omega, fun i hi => rt_G_cg (hG i (by omega)) (fun j h1 h2 => pk_un ?_), fun ct' kd' pr' nm' md' sz' tg' dt' E => ?_⟩
    · have := rt_of_mono sz (show i + 1 ≤ k by omega)
      omega
    · obtain ⟨⟨m, s, m1, s1, m2, s2, H⟩, D⟩ := hG k k1
      have en : ta_n (sz k) = s := by unfold ta_n; rw [s2, nI_clamp (by omega)]
      rw [eo] at H
      have hmg := H.2.2.2.2.2.2.2.2.2.1
      rcases Nat.lt_or_ge p (ta_of sz k + 64) with w | w
      · obtain ⟨j, rfl⟩ : ∃ j, p = 64 * (k + ta_fc sz k) + j := ⟨p - 64 * (k + ta_fc sz k), by omega⟩
        have bad := rt_bad hb hx (rt_Ck hb H) (show j < 64 by omega) hne
        refine ⟨-15, _, Or.inr (Or.inr (Or.inl ⟨by omega, fun zz => ?_, Or.inl ⟨bad, rfl⟩, by decide, rfl⟩)), by decide⟩
        by_cases q : j = 39
        · have h1 := zz 40 (by omega)
          have h2 := hmg 1 (by omega)
          rw [pk_un (by omega)] at h1
          rw [show 64 * (k + ta_fc sz k) + 39 + 1 = 64 * (k + ta_fc sz k) + 40 by omega, h1] at h2
          exact absurd h2 (by decide)
        · have h1 := zz 39 (by omega)
          have h2 := hmg 0 (by omega)
          rw [pk_un (by omega)] at h1
          rw [Nat.add_zero, h1] at h2
          exact absurd h2 (by decide)
      · have hs0 : 0 < ta_n (sz k) := by
          rcases Nat.eq_zero_or_pos (ta_n (sz k)) with q | q
          · rw [if_neg (by omega)] at eS; omega
          · exact q
        rw [if_pos hs0] at eS
        have hq := hex k k1 hs0
        have H' : rt_H (upd a p x) (64 * (k + ta_fc sz k)) (P k) (ta_lk kd tg P k) m s (ta_ty (kd k)) := rt_H_cg H (fun j hj => pk_un (by omega))
        obtain ⟨x1, _, _, x4⟩ := X k k1
        simp only [Nat.zero_add] at x1 x4
        obtain ⟨t1, t2, t3, t4⟩ := rt_ty3 x1
        obtain ⟨f1, f2, f3⟩ := rt_HF hb' H' m1 s1 t1 (fun q => by
          have := x4 (t2 q)
          rw [s2] at this
          exact (nI_eq (b := 0) (by omega) (by omega)).mp this)
        have hEF := rt_EF T X hc htg k1 E (hft k k1) H'
        refine ⟨-21, _, Or.inr (Or.inr (Or.inr (Or.inr ⟨by omega, fun zz => ?_, f1, ⟨_, _, _, hEF⟩, by rw [f3]; omega, Or.inr ⟨by omega, fun zz => ?_, rfl, rfl⟩⟩))), by decide⟩
        · have h1 := zz 39 (by omega)
          have h2 := hmg 0 (by omega)
          rw [pk_un (by omega)] at h1
          rw [Nat.add_zero, h1] at h2
          exact absurd h2 (by decide)
        · rw [f3] at zz
          have h1 := zz (p - (64 * (k + ta_fc sz k + 1) + s)) (by omega)
          rw [show 64 * (k + ta_fc sz k + 1) + s + (p - (64 * (k + ta_fc sz k + 1) + s)) = p by omega, pk_us] at h1
          obtain ⟨_, d2⟩ := D hs0
          have h2 := d2 (p - (ta_of sz k + 64)) (by omega) (by omega)
          rw [show ta_of sz k + 64 + (p - (ta_of sz k + 64)) = p by omega] at h2
          exact hne (h2.trans h1.symm)
  · have eo : ta_of sz c = 64 * (c + ta_fc sz c) := rfl
    have hp0 : a p = 0 := by
      have := hz (p - ta_of sz c) (by omega)
      rwa [show ta_of sz c + (p - ta_of sz c) = p by omega] at this
    have hx0 : x ≠ 0 := fun z => hne (hp0.trans z.symm)
    refine ⟨c, Nat.le_refl _, fun i hi => rt_G_cg (hG i hi) (fun j h1 h2 => pk_un ?_), fun ct' kd' pr' nm' md' sz' tg' dt' E => ?_⟩
    · have := rt_of_mono sz (show i + 1 ≤ c by omega)
      omega
    · rcases Nat.lt_or_ge p (ta_of sz c + 64) with w | w
      · have nz : ¬ ta_z (upd a p x) (64 * (c + ta_fc sz c)) 64 := fun zz => by
          have h1 := zz (p - 64 * (c + ta_fc sz c)) (by omega)
          rw [show 64 * (c + ta_fc sz c) + (p - 64 * (c + ta_fc sz c)) = p by omega, pk_us] at h1
          exact hx0 h1
        have bad : ¬ ta_Ck (upd a p x) (64 * (c + ta_fc sz c)) := fun ck => by
          by_cases q : p = 64 * (c + ta_fc sz c) + 20
          · have h1 := (ck.1.1 1 (by omega)).1
            have h2 := hz 21 (by omega)
            rw [pk_un (by omega)] at h1
            rw [eo] at h2
            rw [show 64 * (c + ta_fc sz c) + 20 + 1 = 64 * (c + ta_fc sz c) + 21 by omega, h2] at h1
            exact absurd h1 (by decide)
          · have h1 := (ck.1.1 0 (by omega)).1
            have h2 := hz 20 (by omega)
            rw [pk_un (by omega)] at h1
            rw [eo] at h2
            rw [Nat.add_zero, h2] at h1
            exact absurd h1 (by decide)
        exact ⟨-15, _, Or.inr (Or.inr (Or.inl ⟨by omega, nz, Or.inl ⟨bad, rfl⟩, by decide, rfl⟩)), by decide⟩
      · refine ⟨-14, _, Or.inr (Or.inl ⟨by omega, fun j hj => ?_, Or.inr (Or.inl ⟨by omega, fun zz => ?_, rfl, rfl⟩)⟩), by decide⟩
        · rw [pk_un (by omega)]
          exact hz j (by omega)
        · have h1 := zz (p - 64 * (c + ta_fc sz c + 1)) (by omega)
          rw [show 64 * (c + ta_fc sz c + 1) + (p - 64 * (c + ta_fc sz c + 1)) = p by omega, pk_us] at h1
          exact hx0 h1
end
end
section
/-! 45: the calls that the law makes -/
def rt_v (kd pr nm md sz tg : Nat → Int32) (s f w : Nat) : Int32 := if w = 0 then kd s else if w = 1 then pr s else if w = 2 then nm s else if w = 3 then md f else if w = 4 then sz f else tg s
def rt_o (kd tg : Nat → Int32) (t i f : Nat) : Prop := (kd (8 * t + i) = 2 ∧ tg (8 * t + i) = nI f) ∨ (kd (8 * t + i) ≠ 2 ∧ f = i)
section
variable {fa fb fl fe fp fn ft : Int32} {ct kd pr nm md sz tg dt ar pa : Nat → Int32} {c t : Nat}
theorem xa_nodeInfo (ht : t < 2) (hct : ct t = nI c) (hc : c ≤ 8) (X : ∀ i, i < c → ta_Nx (8 * t) kd sz tg i) {i f w : Nat} (hi : i < c) (hf : f < c) (hf3 : rt_o kd tg t i f) (hw : w ≤ 5) {post : Int32 → Prop} (h : post (rt_v kd pr nm md sz tg (8 * t + i) (8 * t + f) w)) :
    wpX_nodeInfo post (fa, fb, fl, fe, fp, fn, ft, ct, kd, pr, nm, md, sz, tg, dt, ar, pa) (nI t) (nI i) (nI w) := by
  have e8 : (nI t * 8) + nI i = nI (8 * t + i) := ta_ix t i
  have iv : vp_in (nI (8 * t + i)) 16 := vp_in_nI (by omega) (by omega)
  have en : (nI (8 * t + i)).toNatClampNeg = 8 * t + i := nI_clamp (by omega)
  have ivf : vp_in (nI (8 * t + f)) 16 := vp_in_nI (by omega) (by omega)
  have enf : (nI (8 * t + f)).toNatClampNeg = 8 * t + f := nI_clamp (by omega)
  unfold wpX_nodeInfo
  refine xa_isTree ht (br_f (by decide) ?_)
  refine xa_isNode ht hct hc (fun _ _ _ => br_f (by decide) (nm_r e8 ?_)) (fun n => absurd rfl (n i hi))
  refine xa_cs ht hc X hi hf hf3 ?_
  rw [en, enf]
  refine br_f (nI_pos (by omega)) (br_f (nI_nlt (a := 5) (by omega) (by decide)) ?_)
  unfold rt_v at h
  refine pk_eq w 0 (fun q => ⟨iv, ?_⟩) (fun q0 => pk_eq w 1 (fun q => ⟨iv, ?_⟩) (fun q1 => pk_eq w 2 (fun q => ⟨iv, ?_⟩) (fun q2 => pk_eq w 3 (fun q => ⟨ivf, ?_⟩) (fun q3 => pk_eq w 4 (fun q => ⟨ivf, ?_⟩) (fun q4 => pk_eq w 5 (fun q => ⟨iv, ?_⟩) (fun q5 => by omega))))))
  · rw [if_pos q] at h; exact h
  · rw [if_neg q0, if_pos q] at h; exact h
  · rw [if_neg q0, if_neg q1, if_pos q] at h; exact h
  · rw [if_neg q0, if_neg q1, if_neg q2, if_pos q] at h; exact h
  · rw [if_neg q0, if_neg q1, if_neg q2, if_neg q3, if_pos q] at h; exact h
  · rw [if_neg q0, if_neg q1, if_neg q2, if_neg q3, if_neg q4] at h; exact h
def rt_b (sz dt : Nat → Int32) (f q : Nat) : Int32 := if q < ta_n (sz f) then dt (32 * f + q) else -2
theorem xa_nodeByte (ht : t < 2) (hct : ct t = nI c) (hc : c ≤ 8) (X : ∀ i, i < c → ta_Nx (8 * t) kd sz tg i) {i f : Nat} (hi : i < c) (hf : f < c) (hf3 : rt_o kd tg t i f) {x : Int32} {post : Int32 → Prop} (h0 : x < 0 → post (-2)) (h : ∀ q, q < 2 ^ 31 → x = nI q → post (rt_b sz dt (8 * t + f) q)) :
    wpX_nodeByte post (fa, fb, fl, fe, fp, fn, ft, ct, kd, pr, nm, md, sz, tg, dt, ar, pa) (nI t) (nI i) x := by
  have ivf : vp_in (nI (8 * t + f)) 16 := vp_in_nI (by omega) (by omega)
  have enf : (nI (8 * t + f)).toNatClampNeg = 8 * t + f := nI_clamp (by omega)
  obtain ⟨s, s1, s2⟩ := (X f hf).2.2.1
  have es : ta_n (sz (8 * t + f)) = s := by unfold ta_n; rw [s2, nI_clamp (by omega)]
  unfold wpX_nodeByte
  refine xa_isTree ht (br_f (by decide) ?_)
  refine xa_isNode ht hct hc (fun _ _ _ => br_f (by decide) ?_) (fun n => absurd rfl (n i hi))
  refine xa_cs ht hc X hi hf hf3 ?_
  rw [enf]
  refine br_c h0 (fun z => ⟨ivf, ?_⟩)
  obtain ⟨q, hq, rfl⟩ := nI_of z
  have h := h q hq rfl
  unfold rt_b at h
  rw [es] at h
  refine pk_lt q s (fun g => ?_) (fun g => ?_) (hy := s2)
  · have ex : nI (8 * t + f) * 32 + nI q = nI (32 * (8 * t + f) + q) := by rw [show (32 : Int32) = nI 32 from rfl, pk_mul, nI_add, Nat.mul_comm]
    rw [if_pos g] at h
    rw [ex, nI_clamp (by omega)]
    exact ⟨vp_in_nI (by omega) (by omega), h⟩
  · rw [if_neg (by omega)] at h; exact h
theorem xa_appendData (hct : ct 0 = nI c) (hc : c ≤ 8) (X : ∀ i, i < c → ta_Nx 0 kd sz tg i) {x y : Int32} {post : Int32 → St2 → Prop}
    (hE : ∀ r, post r (fa, fb, fl, fe, fp, fn, ft, ct, kd, pr, nm, md, sz, tg, dt, ar, pa))
    (hS : ∀ r f s, f < c → s < 32 → kd f = 1 → ta_by y → post r (fa, fb, fl, fe, fp, fn, ft, ct, kd, pr, nm, md, upd sz f (nI (s + 1)), tg, upd dt (32 * f + s) y, ar, pa)) :
    wpX_appendData post (fa, fb, fl, fe, fp, fn, ft, ct, kd, pr, nm, md, sz, tg, dt, ar, pa) x y := by
  unfold wpX_appendData
  refine xa_isNode (t := 0) (by omega) hct hc (fun j hj e => br_f (by decide) ?_) (fun no => br_t rfl (hE _))
  have G : ∀ f : Nat, f < c → kd f = 1 → wpX_isByte (fun r_39 => ((r_39 = 0 → post (-2) (fa, fb, fl, fe, fp, fn, ft, ct, kd, pr, nm, md, sz, tg, dt, ar, pa)) ∧ (¬ r_39 = 0 → (vp_in (nI f) 16 ∧ (∀ x4_42 : Int32, x4_42 = sz (nI f).toNatClampNeg → ((x4_42 < 32 → (vp_in ((nI f * 32) + x4_42) 512 ∧ (∀ a_c : Nat → Int32, a_c = upd dt ((nI f * 32) + x4_42).toNatClampNeg y → (vp_in (nI f) 16 ∧ (∀ a_s : Nat → Int32, a_s = upd sz (nI f).toNatClampNeg (x4_42 + 1) → post (x4_42 + 1) (fa, fb, fl, fe, fp, fn, ft, ct, kd, pr, nm, md, a_s, tg, a_c, ar, pa)))))) ∧ (¬ x4_42 < 32 → post (-3) (fa, fb, fl, fe, fp, fn, ft, ct, kd, pr, nm, md, sz, tg, dt, ar, pa)))))))) () y := by
    intro f hf k1
    obtain ⟨_, _, ⟨s, s1, s2⟩, _⟩ := X f hf
    rw [Nat.zero_add] at s2
    have ivf : vp_in (nI f) 16 := vp_in_nI (by omega) (by omega)
    have enf : (nI f).toNatClampNeg = f := nI_clamp (by omega)
    have ef : sz (nI f).toNatClampNeg = nI s := by rw [enf]; exact s2
    refine xa_isByte (fun b0 b1 b2 => br_f (by decide) ⟨ivf, nm_r ef (pk_lt s 32 (fun g => ?_) (fun g => hE _))⟩) (fun q => br_t rfl (hE _))
    have ex : nI f * 32 + nI s = nI (32 * f + s) := by rw [show (32 : Int32) = nI 32 from rfl, pk_mul, nI_add, Nat.mul_comm]
    have ivx : vp_in (nI f * 32 + nI s) 512 := by rw [ex]; exact vp_in_nI (by omega) (by omega)
    exact ⟨ivx, nm_r (e' := upd dt (32 * f + s) y) (by rw [ex, nI_clamp (by omega)]) ⟨ivf, nm_r (e' := upd sz f (nI (s + 1))) (by rw [enf, nI_1]) (hS _ f s hf g k1 b2)⟩⟩
  refine xa_fileBehind (t := 0) (by omega) hct hc (fun q hq e k3 k2 => ?_) (fun q hq e k3 k2 => ?_) (fun w => br_t rfl (hE _))
  · simp only [Nat.mul_zero, Nat.zero_add] at k3 k2 ⊢
    obtain ⟨_, hx, _⟩ := X q hq
    simp only [Nat.zero_add] at hx
    obtain ⟨f, g1, g2, g3⟩ := hx k2
    rw [g2]
    exact br_f (fun z => nI_pos (n := f) (by omega) (by rw [z]; decide)) (G f (by omega) g3)
  · simp only [Nat.mul_zero, Nat.zero_add] at k3 k2
    have hkk := (X q hq).1
    rw [Nat.zero_add] at hkk
    have k1 : kd q = 1 := by
      rcases hkk with x | x | x
      · exact x
      · exact absurd x k2
      · exact absurd x k3
    exact br_f (fun z => nI_pos (n := q) (by omega) (by rw [z]; decide)) (G q hq k1)
theorem xa_archiveByte {L j : Nat} (hj : j < L) (hL : L ≤ 768) {post : Int32 → Prop} (h : post (ar j)) : wpX_archiveByte post (fa, fb, nI L, fe, fp, fn, ft, ct, kd, pr, nm, md, sz, tg, dt, ar, pa) (nI j) := by
  refine br_f (nI_pos (by omega)) (br_t (nI_lt hj (by omega)) ⟨vp_in_nI (by omega) (by omega), ?_⟩)
  rw [nI_clamp (by omega)]; exact h
theorem xa_pokeArchive {L j : Nat} {x : Int32} (hj : j < L) (hL : L ≤ 768) (hx : ta_by x) {post : Int32 → St2 → Prop} (h : ∀ r, post r (fa, fb, nI L, fe, fp, fn, ft, ct, kd, pr, nm, md, sz, tg, dt, upd ar j x, pa)) : wpX_pokeArchive post (fa, fb, nI L, fe, fp, fn, ft, ct, kd, pr, nm, md, sz, tg, dt, ar, pa) (nI j) x := by
  have iv : vp_in (nI j) 768 := vp_in_nI (by omega) (by omega)
  have en : (nI j).toNatClampNeg = j := nI_clamp (by omega)
  refine br_f (nI_pos (by omega)) (br_f (nI_ge hj (by omega)) (xa_isByte (fun _ _ _ => br_f (by decide) ⟨iv, nm_e ⟨iv, nm_r (by rw [en]) (h _)⟩⟩) (fun q => ?_)))
  obtain ⟨n, n1, n2⟩ := hx
  rcases q with q | ⟨_, q⟩
  · rw [n2] at q; exact absurd q (nI_pos (by omega))
  · rw [n2] at q; exact absurd (nI_le (b := 255) (by omega) (by decide)) q
theorem xa_nodeCount (ht : t < 2) {post : Int32 → Prop} (h : post (ct t)) : wpX_nodeCount post (fa, fb, fl, fe, fp, fn, ft, ct, kd, pr, nm, md, sz, tg, dt, ar, pa) (nI t) := by
  unfold wpX_nodeCount
  refine xa_isTree ht (br_f (by decide) ⟨vp_in_nI ht (by omega), ?_⟩)
  rw [nI_clamp (by omega)]; exact h
end
theorem rt_cell {post : Int32 → Prop} {L : Nat} {xs : Nat → Int32} (hL : L ≤ 260) {k : Nat} (hk : k < 1000) (h : ∀ v, post v) : wpL_cell post L xs () (nI k) := by
  refine br_c (fun _ => h _) (fun z => ⟨vp_in_nI ?_ (by omega), h _⟩)
  rcases Nat.lt_or_ge k L with y | y
  · exact y
  · exact absurd (nI_le y (by omega)) z
theorem rt_nz {post : Int32 → Prop} {x : Int32} (h : ∀ n, n < 2 ^ 31 → post (nI n)) : wpL_nz post () x := by
  obtain ⟨j, hj, e⟩ := pk_andE x (m := 2147483647) 31 (by decide)
  have := h j hj
  rw [← e] at this
  exact this
theorem rt_ch {post : Int32 → Prop} {x : Int32} (h : ∀ v, post v) : wpL_ch post () x :=
  ⟨by decide, fun _ _ => br_c (fun _ => br_c (fun _ => h _) (fun _ => h _)) (fun _ => h _)⟩
end
section
/-! 46: the law from its first extract on -/
def rt_S (c : Nat) (kd pr nm md sz tg dt : Nat → Int32) (P : Nat → List Int32) : Prop :=
  ta_Tr 0 c kd pr nm P ∧ (∀ i, i < c → ta_Nx 0 kd sz tg i) ∧ (∀ i, i < c → kd i ≠ 2 → tg i = -1) ∧ (∀ i, i < c → ∃ m, m < 512 ∧ md i = nI m) ∧ (∀ j, ta_by (dt j)) ∧ (∀ i x, x ∈ P i → ta_by x)
theorem rt_S_E {c k : Nat} {kd pr nm md sz tg dt ct' kd' pr' nm' md' sz' tg' dt' : Nat → Int32} {P : Nat → List Int32} (hc : c ≤ 8) (S : rt_S c kd pr nm md sz tg dt P) (E : rt_E c k kd pr nm md sz tg dt ct' kd' pr' nm' md' sz' tg' dt') : rt_S c kd' pr' nm' md' sz' tg' dt' P := by
  obtain ⟨s1, s2, s3, s4, s5, s6⟩ := S
  obtain ⟨_, _, e, _, _, e6⟩ := E
  refine ⟨ta_Tr_cg s1 (fun i hi => ?_) (fun i hi => ?_) (fun i hi => ?_), ta_Nx_cg s2 (fun i hi => ?_) (fun i hi => ?_) (fun i hi => ?_), fun i hi => ?_, fun i hi => ?_, e6, s6⟩
  · rw [Nat.zero_add]; exact (e i (by omega)).1
  · rw [Nat.zero_add]; exact (e i (by omega)).2.1
  · rw [Nat.zero_add]; exact (e i (by omega)).2.2.1
  · rw [Nat.zero_add]; exact (e i (by omega)).1
  · rw [Nat.zero_add]; exact (e i (by omega)).2.2.2.2.1
  · rw [Nat.zero_add]; exact (e i (by omega)).2.2.2.2.2
  · rw [(e i (by omega)).1, (e i (by omega)).2.2.2.2.2]; exact s3 i hi
  · rw [(e i (by omega)).2.2.2.1]; exact s4 i hi
section
variable {fe fp fn ft : Int32} {ct kd pr nm md sz tg dt ar pa : Nat → Int32} {P : Nat → List Int32} {c : Nat}
theorem rt_s32 (X : ∀ i, i < c → ta_Nx 0 kd sz tg i) : ∀ i, i < c → ∃ s, s ≤ 32 ∧ sz i = nI s ∧ ta_n (sz i) = s := fun i hi => by
  obtain ⟨_, _, ⟨s, s1, s2⟩, _⟩ := X i hi
  rw [Nat.zero_add] at s2
  exact ⟨s, s1, s2, by unfold ta_n; rw [s2, nI_clamp (by omega)]⟩
/-- what create wrote -/
theorem rt_cre (S : rt_S c kd pr nm md sz tg dt P) (hb : ∀ j, ta_by (ar j)) (hft : ∀ i, i < c → ta_ft kd tg P i) (hB : c + 2 + ta_fc sz c ≤ 12) :
    (∀ j, ta_by (ta_cr kd md sz tg dt P (ta_cz ar 768) c j)) ∧ (∀ i, i < c → rt_G (ta_cr kd md sz tg dt P (ta_cz ar 768) c) kd md sz tg dt P i) ∧ (∀ j, j < 128 → ta_cr kd md sz tg dt P (ta_cz ar 768) c (ta_of sz c + j) = 0) := by
  obtain ⟨s1, s2, s3, s4, s5, s6⟩ := S
  have eo : ta_of sz c = 64 * (c + ta_fc sz c) := rfl
  have hf : ∀ k, k < c → ta_ft kd tg P k ∧ ta_n (sz k) ≤ 32 := fun k hk => by
    obtain ⟨s, a1, a2, a3⟩ := rt_s32 s2 k hk
    exact ⟨hft k hk, by omega⟩
  have hz : ∀ j, j < 768 → ta_cz ar 768 j = 0 := fun j hj => if_pos hj
  refine ⟨ta_cr_by (fun j => ?_) s5 s6 c, fun i hi => rt_cr_G hf s4 (fun k hk => ?_) hz (by omega) hi, fun j hj => ?_⟩
  · unfold ta_cz
    by_cases z : j < 768
    · rw [if_pos z]; exact ta_by_n (n := 0) (by omega)
    · rw [if_neg z]; exact hb j
  · obtain ⟨s, a1, a2, a3⟩ := rt_s32 s2 k hk
    exact ⟨s, a1, a2⟩
  · rw [ta_cr_out c hf _ (by omega)]
    exact hz _ (by omega)
theorem rt_E0 (hct : ct 0 = nI c) (hd : ∀ j, ta_by (dt j)) : rt_E c 0 kd pr nm md sz tg dt (upd ct 1 0) kd pr nm md sz tg dt :=
  ⟨by rw [pk_un (by decide)]; exact hct, pk_us, fun _ _ => ⟨rfl, rfl, rfl, rfl, rfl, rfl⟩, fun _ _ => rfl, fun i hi => by omega, hd⟩
theorem rt_ext_ok (S : rt_S c kd pr nm md sz tg dt P) (hct : ct 0 = nI c) (hc : c ≤ 8) (hb : ∀ j, ta_by (ar j)) (hft : ∀ i, i < c → ta_ft kd tg P i) (hG : ∀ i, i < c → rt_G ar kd md sz tg dt P i) (hz : ∀ j, j < 128 → ar (ta_of sz c + j) = 0) (hB : c + 2 + ta_fc sz c ≤ 12) {post : Int32 → St2 → Prop}
    (h : ∀ ct' kd' pr' nm' md' sz' tg' dt', rt_E c c kd pr nm md sz tg dt ct' kd' pr' nm' md' sz' tg' dt' → ∀ fp fn ft pa, post (nI c) (nI 8, nI 12, nI (64 * (c + 2 + ta_fc sz c)), -1, fp, fn, ft, ct', kd', pr', nm', md', sz', tg', dt', ar, pa)) :
    wpX_extract post (nI 8, nI 12, nI (64 * (c + 2 + ta_fc sz c)), fe, fp, fn, ft, ct, kd, pr, nm, md, sz, tg, dt, ar, pa) := by
  have eo : ta_of sz c = 64 * (c + ta_fc sz c) := rfl
  refine nm_e ⟨c + 1, ?_⟩
  exact rt_run S.1 S.2.1 hc S.2.2.1 hft hb (Nat.le_refl c) hG (by omega) (by omega) (fun ct' kd' pr' nm' md' sz' tg' dt' E => ⟨nI c, -1, rt_ok hz (by omega), h _ _ _ _ _ _ _ _ E⟩) (c + 1) 0 _ _ _ _ _ _ _ _ fp fn ft pa (Nat.zero_le _) (by omega) (rt_E0 hct S.2.2.2.2.1)
theorem rt_ext_bad (S : rt_S c kd pr nm md sz tg dt P) (hct : ct 0 = nI c) (hc : c ≤ 8) (hb : ∀ j, ta_by (ar j)) (hft : ∀ i, i < c → ta_ft kd tg P i) (hG : ∀ i, i < c → rt_G ar kd md sz tg dt P i) (hz : ∀ j, j < 128 → ar (ta_of sz c + j) = 0) (hB : c + 2 + ta_fc sz c ≤ 12) {p : Nat} {x : Int32} (hp : p < 64 * (c + 2 + ta_fc sz c)) (hx : ta_by x) (hne : ar p ≠ x)
    (hex : ∀ i, i < c → 0 < ta_n (sz i) → ¬ (ta_of sz i + 64 ≤ p ∧ p < ta_of sz i + 64 + ta_n (sz i))) {post : Int32 → St2 → Prop} (h : ∀ r u, r < 0 → post r u) :
    wpX_extract post (nI 8, nI 12, nI (64 * (c + 2 + ta_fc sz c)), fe, fp, fn, ft, ct, kd, pr, nm, md, sz, tg, dt, upd ar p x, pa) := by
  have eo : ta_of sz c = 64 * (c + ta_fc sz c) := rfl
  obtain ⟨k1, a1, a2, a3⟩ := rt_poke S.1 S.2.1 hc S.2.2.1 hft hb hG hz (L := 64 * (c + 2 + ta_fc sz c)) (by omega) hp hx hne hex
  refine nm_e ⟨k1 + 1, ?_⟩
  exact rt_run S.1 S.2.1 hc S.2.2.1 hft (ta_upd_by hb hx) a1 a2 (by omega) (by omega) (fun ct' kd' pr' nm' md' sz' tg' dt' E => by
    obtain ⟨r, e, q1, q2⟩ := a3 _ _ _ _ _ _ _ _ E
    exact ⟨r, e, q1, fun _ _ _ _ => h _ _ q2⟩) (k1 + 1) 0 _ _ _ _ _ _ _ _ fp fn ft pa (Nat.zero_le _) (by omega) (rt_E0 hct S.2.2.2.2.1)
/-- the search for p among the contents, the poke, the last extract -/
theorem rt_541 {L K kc ks p : Nat} {xs : Nat → Int32} (hLs : L ≤ 260) (hK : K < 900) (S : rt_S c kd pr nm md sz tg dt P) (hct : ct 0 = nI c) (hc : c ≤ 8) (hb : ∀ j, ta_by (ar j)) (hft : ∀ i, i < c → ta_ft kd tg P i) (hG : ∀ i, i < c → rt_G ar kd md sz tg dt P i) (hz : ∀ j, j < 128 → ar (ta_of sz c + j) = 0) (hB : c + 2 + ta_fc sz c ≤ 12) (hp : p < 64 * (c + 2 + ta_fc sz c)) :
    ∀ n k x, k ≤ c → c < k + n → (x = 1 ∨ (x = 0 ∧ ∀ i, i < k → 0 < ta_n (sz i) → ¬ (ta_of sz i + 64 ≤ p ∧ p < ta_of sz i + 64 + ta_n (sz i)))) →
      wL_law_541 (fun r => r = 1) L xs (nI K) (nI c) (nI p) kc ks (nI 8) (nI 12) (nI (64 * (c + 2 + ta_fc sz c))) fe fp fn ft ct kd pr nm md sz tg dt ar pa n (nI (k + ta_fc sz k)) x (nI k) := by
  have X := S.2.1
  intro n
  induction n with
  | zero => intro k x _ g; omega
  | succ n ih =>
    intro k x g1 g2 g3
    refine pk_le c k (fun g => ?_) (fun g => ?_)
    · have ek : k = c := by omega
      subst ek
      rcases g3 with x1 | ⟨x0, hex⟩
      · exact br_f (by rw [x1]; decide) rfl
      · refine br_t x0 (xa_archiveByte hp (by omega) (nm_e (rt_cell hLs (by omega) (fun v => rt_nz (fun m hm => ⟨by decide, by decide, ?_⟩)))))
        obtain ⟨q, q1, q2⟩ := hb p
        have ev : ar p + 1 + (nI m - nI m / 255 * 255) - (ar p + 1 + (nI m - nI m / 255 * 255)) / 256 * 256 = nI ((q + 1 + m % 255) % 256) := by
          rw [q2, nI_1, show (255 : Int32) = nI 255 from rfl, pk_rem hm (by omega) (by omega), nI_add, show (256 : Int32) = nI 256 from rfl, pk_rem (by omega) (by omega) (by omega)]
        refine nm_r ev (xa_pokeArchive hp (by omega) (ta_by_n (by omega)) (fun r => ?_))
        refine rt_ext_bad S hct hc hb hft hG hz hB hp (ta_by_n (by omega)) ?_ hex (fun r u hr => br_f (Int32.not_le.mpr hr) rfl)
        rw [q2]
        intro e
        have := (nI_eq (by omega) (by omega)).mp e
        omega
    · obtain ⟨s, s1, s2, s3⟩ := rt_s32 X k g
      obtain ⟨f, f1, f2, f3, f4⟩ := ta_own (t := 0) hc X g
      have x14 := (X k g).2.2.2
      have fcl := ta_fc_le sz k
      have fcm := ta_fc_mono sz (show k + 1 ≤ c by omega)
      rw [Nat.zero_add] at x14
      refine xa_nodeInfo (t := 0) (w := 4) (by omega) hct hc X g f1 f3 (by omega) ?_
      refine xa_nodeInfo (t := 0) (w := 0) (by omega) hct hc X g f1 f3 (by omega) ?_
      have v4 : rt_v kd pr nm md sz tg (8 * 0 + k) (8 * 0 + f) 4 = sz f := by
        show sz (8 * 0 + f) = sz f
        rw [Nat.mul_zero, Nat.zero_add]
      have v0 : rt_v kd pr nm md sz tg (8 * 0 + k) (8 * 0 + f) 0 = kd k := by
        show kd (8 * 0 + k) = kd k
        rw [Nat.mul_zero, Nat.zero_add]
      rw [v4, v0]
      refine br_c (fun k1 => ?_) (fun k1 => ?_)
      · have ef : f = k := by
          rcases f3 with ⟨q, _⟩ | ⟨_, q⟩
          · rw [Nat.mul_zero, Nat.zero_add, k1] at q; exact absurd q (by decide)
          · exact q
        rw [ef]
        have eo : ta_of sz k = 64 * (k + ta_fc sz k) := rfl
        have nxt : 0 < s → ∀ y, (y = 1 ∨ (y = 0 ∧ ∀ i, i < k + 1 → 0 < ta_n (sz i) → ¬ (ta_of sz i + 64 ≤ p ∧ p < ta_of sz i + 64 + ta_n (sz i)))) → wL_law_541 (fun r => r = 1) L xs (nI K) (nI c) (nI p) kc ks (nI 8) (nI 12) (nI (64 * (c + 2 + ta_fc sz c))) fe fp fn ft ct kd pr nm md sz tg dt ar pa n (nI (k + ta_fc sz k + 2)) y (nI (k + 1)) := by
          intro hs y hy
          have := ih (k + 1) y (by omega) (by omega) hy
          rw [ta_fc_p (by omega), show k + 1 + (ta_fc sz k + 1) = k + ta_fc sz k + 2 by omega] at this
          exact this
        have keep : (¬ (ta_of sz k + 64 ≤ p ∧ p < ta_of sz k + 64 + s)) → (x = 1 ∨ (x = 0 ∧ ∀ i, i < k + 1 → 0 < ta_n (sz i) → ¬ (ta_of sz i + 64 ≤ p ∧ p < ta_of sz i + 64 + ta_n (sz i)))) := by
          intro q
          rcases g3 with x1 | ⟨x0, h⟩
          · exact Or.inl x1
          · refine Or.inr ⟨x0, fun i hi => ?_⟩
            rcases Nat.lt_or_ge i k with y | y
            · exact h i y
            · rw [show i = k by omega, s3]; exact fun _ => q
        refine pk_le s 0 (fun q => nm_r (nI_1 _) (nm_r (nI_1 k) ?_)) (fun q => ?_) (hx := s2)
        · have := ih (k + 1) x (by omega) (by omega) (keep (by omega))
          rw [ta_fc_z (by omega), show k + 1 + ta_fc sz k = k + ta_fc sz k + 1 by omega] at this
          exact this
        · have e14 : 64 * (nI (k + ta_fc sz k) + 1) = nI (ta_of sz k + 64) := by
            rw [nI_1, show (64 : Int32) = nI 64 from rfl, pk_mul, eo]; exact congrArg nI (by omega)
          have e2 : nI (k + ta_fc sz k) + 2 = nI (k + ta_fc sz k + 2) := nI_add _ 2
          refine nm_r e14 (pk_lt p (ta_of sz k + 64) (fun w => nm_r e2 (nm_r (nI_1 k) (nxt q x (keep (by omega))))) (fun w => ?_))
          have es : nI (ta_of sz k + 64) + sz k = nI (ta_of sz k + 64 + s) := by rw [s2, nI_add]
          exact pk_le (ta_of sz k + 64 + s) p (fun y => nm_r e2 (nm_r (nI_1 k) (nxt q x (keep (by omega))))) (fun y => nm_r e2 (nm_r (nI_1 k) (nxt q 1 (Or.inl rfl)))) (hx := es)
      · have e0 : s = 0 := by
          have := x14 k1
          rw [s2] at this
          exact (nI_eq (b := 0) (by omega) (by omega)).mp this
        refine nm_r (nI_1 _) (nm_r (nI_1 k) ?_)
        have hh : x = 1 ∨ (x = 0 ∧ ∀ i, i < k + 1 → 0 < ta_n (sz i) → ¬ (ta_of sz i + 64 ≤ p ∧ p < ta_of sz i + 64 + ta_n (sz i))) := by
          rcases g3 with x1 | ⟨x0, h⟩
          · exact Or.inl x1
          · refine Or.inr ⟨x0, fun i hi => ?_⟩
            rcases Nat.lt_or_ge i k with y | y
            · exact h i y
            · rw [show i = k by omega]; intro w; omega
        have := ih (k + 1) x (by omega) (by omega) hh
        rw [ta_fc_z (by omega), show k + 1 + ta_fc sz k = k + ta_fc sz k + 1 by omega] at this
        exact this
end
end
section
/-! 47: the comparison of the two trees, and what stands around it -/
/-- both trees, c nodes each, the extracted ones the source's -/
def rt_Q (c : Nat) (ct kd pr nm md sz tg dt : Nat → Int32) (P : Nat → List Int32) : Prop :=
  ct 0 = nI c ∧ ct 1 = nI c ∧ rt_S c kd pr nm md sz tg dt P ∧ (∀ i, i < c → ta_Nx 8 kd sz tg i) ∧
  (∀ i, i < c → kd (8 + i) = kd i ∧ pr (8 + i) = pr i ∧ nm (8 + i) = nm i ∧ md (8 + i) = md i ∧ sz (8 + i) = sz i ∧ tg (8 + i) = tg i ∧ ∀ q, q < ta_n (sz i) → dt (32 * (8 + i) + q) = dt (32 * i + q))
theorem rt_Q_E {c : Nat} {kd pr nm md sz tg dt ct' kd' pr' nm' md' sz' tg' dt' : Nat → Int32} {P : Nat → List Int32} (hc : c ≤ 8) (S : rt_S c kd pr nm md sz tg dt P) (E : rt_E c c kd pr nm md sz tg dt ct' kd' pr' nm' md' sz' tg' dt') : rt_Q c ct' kd' pr' nm' md' sz' tg' dt' P := by
  have S' := rt_S_E hc S E
  have X8 := rt_E_Nx S.2.1 (Nat.le_refl c) E
  obtain ⟨e1, e2, e3, e4, e5, e6⟩ := E
  refine ⟨e1, e2, S', X8, fun i hi => ?_⟩
  obtain ⟨a1, a2, a3, a4, a5, a6, a7⟩ := e5 i hi
  obtain ⟨b1, b2, b3, b4, b5, b6⟩ := e3 i (by omega)
  obtain ⟨s, s1, s2, s3⟩ := rt_s32 S.2.1 i hi
  refine ⟨by rw [a1, b1], by rw [a2, b2], by rw [a3, b3], by rw [a4, b4], by rw [a5, b5], by rw [a6, b6], fun q hq => ?_⟩
  rw [b5] at hq
  rw [a7 q hq, e4 _ (by omega)]
section
variable {fl fe fp fn ft : Int32} {ct kd pr nm md sz tg dt ar pa : Nat → Int32} {P : Nat → List Int32} {c : Nat}
theorem rt_448 {post : Int32 → Prop} {J : Int32 → Prop} {L kc ks i : Nat} {xs : Nat → Int32} {x2 x4 : Int32} (hc : c ≤ 8) (Q : rt_Q c ct kd pr nm md sz tg dt P) (hi : i < c) (h : J (nI (i + 1))) :
    ∀ n q, q ≤ 33 → 33 < q + n → wL_law_448 post L xs J x2 x4 (nI i) kc ks (nI 8) (nI 12) fl fe fp fn ft ct kd pr nm md sz tg dt ar pa n (nI q) := by
  obtain ⟨q1, q2, S, X8, q5⟩ := Q
  have X := S.2.1
  obtain ⟨f, f1, f2, f3, f4⟩ := ta_own (t := 0) hc X hi
  have o0 : rt_o kd tg 0 i f := f3
  have o1 : rt_o kd tg 1 i f := by
    obtain ⟨a1, _, _, _, _, a6, _⟩ := q5 i hi
    rw [Nat.mul_zero, Nat.zero_add] at f3
    show (kd (8 + i) = 2 ∧ tg (8 + i) = nI f) ∨ (kd (8 + i) ≠ 2 ∧ f = i)
    rw [a1, a6]; exact f3
  intro n
  induction n with
  | zero => intro q _ g; omega
  | succ n ih =>
    intro q g1 g2
    refine pk_lt 32 q (fun g => nm_r (nI_1 i) h) (fun g => ?_)
    refine xa_nodeByte (t := 1) (by omega) q2 hc X8 hi f1 o1 (fun z => absurd z (nI_pos (by omega))) (fun a ha ea => ?_)
    refine xa_nodeByte (t := 0) (by omega) q1 hc X hi f1 o0 (fun z => absurd z (nI_pos (by omega))) (fun b hb eb => ?_)
    have e1 : q = a := (nI_eq (by omega) ha).mp ea
    have e2 : q = b := (nI_eq (by omega) hb).mp eb
    subst e1 e2
    refine br_t ?_ (nm_r (nI_1 q) (ih (q + 1) (by omega) (by omega)))
    obtain ⟨_, _, _, _, a5, _, a7⟩ := q5 f f1
    show (if q < ta_n (sz (8 + f)) then dt (32 * (8 + f) + q) else -2) = (if q < ta_n (sz (8 * 0 + f)) then dt (32 * (8 * 0 + f) + q) else -2)
    rw [Nat.mul_zero, Nat.zero_add, a5]
    by_cases w : q < ta_n (sz f)
    · rw [if_pos w, if_pos w, a7 q w]
    · rw [if_neg w, if_neg w]
theorem rt_448m {post : Int32 → Prop} {J : Int32 → Prop} {L kc ks i : Nat} {xs : Nat → Int32} {x2 x4 : Int32} (hc : c ≤ 8) (Q : rt_Q c ct kd pr nm md sz tg dt P) (hi : i < c) (h : J (nI (i + 1))) :
    ∃ n, wL_law_448 post L xs J x2 x4 (nI i) kc ks (nI 8) (nI 12) fl fe fp fn ft ct kd pr nm md sz tg dt ar pa n (-1) := by
  have R := rt_448 (post := post) (L := L) (kc := kc) (ks := ks) (xs := xs) (x2 := x2) (x4 := x4) (fl := fl) (fe := fe) (fp := fp) (fn := fn) (ft := ft) (ar := ar) (pa := pa) hc Q hi h 34 0 (by omega) (by omega)
  obtain ⟨q1, q2, S, X8, q5⟩ := Q
  have X := S.2.1
  obtain ⟨f, f1, f2, f3, f4⟩ := ta_own (t := 0) hc X hi
  have o0 : rt_o kd tg 0 i f := f3
  have o1 : rt_o kd tg 1 i f := by
    obtain ⟨a1, _, _, _, _, a6, _⟩ := q5 i hi
    rw [Nat.mul_zero, Nat.zero_add] at f3
    show (kd (8 + i) = 2 ∧ tg (8 + i) = nI f) ∨ (kd (8 + i) ≠ 2 ∧ f = i)
    rw [a1, a6]; exact f3
  have neg : ∀ q, q < 2 ^ 31 → (-1 : Int32) = nI q → False := fun q hq e => ta_m1 hq e.symm
  refine ⟨35, br_f (by decide) ?_⟩
  refine xa_nodeByte (t := 1) (by omega) q2 hc X8 hi f1 o1 (fun _ => ?_) (fun a ha ea => (neg a ha ea).elim)
  refine xa_nodeByte (t := 0) (by omega) q1 hc X hi f1 o0 (fun _ => ?_) (fun a ha ea => (neg a ha ea).elim)
  exact br_t rfl (nm_r (e' := nI 0) (by decide) R)
theorem rt_410 {post : Int32 → Prop} {J : Int32 → Prop} {L kc ks i : Nat} {xs : Nat → Int32} {x2 x4 : Int32} (hc : c ≤ 8) (Q : rt_Q c ct kd pr nm md sz tg dt P) (hi : i < c) (h : J (nI (i + 1))) :
    ∀ n w, w ≤ 6 → 6 < w + n → wL_law_410 post L xs J x2 x4 (nI i) kc ks (nI 8) (nI 12) fl fe fp fn ft ct kd pr nm md sz tg dt ar pa n (nI w) := by
  have Q' := Q
  obtain ⟨q1, q2, S, X8, q5⟩ := Q
  have X := S.2.1
  obtain ⟨f, f1, f2, f3, f4⟩ := ta_own (t := 0) hc X hi
  have o0 : rt_o kd tg 0 i f := f3
  have o1 : rt_o kd tg 1 i f := by
    obtain ⟨a1, _, _, _, _, a6, _⟩ := q5 i hi
    rw [Nat.mul_zero, Nat.zero_add] at f3
    show (kd (8 + i) = 2 ∧ tg (8 + i) = nI f) ∨ (kd (8 + i) ≠ 2 ∧ f = i)
    rw [a1, a6]; exact f3
  intro n
  induction n with
  | zero => intro w _ g; omega
  | succ n ih =>
    intro w g1 g2
    refine pk_lt 5 w (fun g => rt_448m hc Q' hi h) (fun g => ?_)
    refine xa_nodeInfo (t := 1) (by omega) q2 hc X8 hi f1 o1 g ?_
    refine xa_nodeInfo (t := 0) (by omega) q1 hc X hi f1 o0 g ?_
    refine br_t ?_ (nm_r (nI_1 w) (ih (w + 1) (by omega) (by omega)))
    obtain ⟨a1, a2, a3, _, _, a6, _⟩ := q5 i hi
    obtain ⟨_, _, _, b4, b5, _, _⟩ := q5 f f1
    show rt_v kd pr nm md sz tg (8 + i) (8 + f) w = rt_v kd pr nm md sz tg (8 * 0 + i) (8 * 0 + f) w
    rw [Nat.mul_zero, Nat.zero_add, Nat.zero_add]
    unfold rt_v
    rw [a1, a2, a3, a6, b4, b5]
theorem rt_400 {L kc ks K : Nat} {xs : Nat → Int32} (hLs : L ≤ 260) (hK : K < 800) (hc : c ≤ 8) (Q : rt_Q c ct kd pr nm md sz tg dt P) (hb : ∀ j, ta_by (ar j)) :
    ∀ n i, i ≤ c → c < i + n → wL_law_400 (fun r => r = 1) L xs (nI K) (nI c) kc ks (nI 8) (nI 12) fl fe fp fn ft ct kd pr nm md sz tg dt ar pa n (nI i) := by
  have Q' := Q
  obtain ⟨q1, q2, S, X8, q5⟩ := Q
  intro n
  induction n with
  | zero => intro i _ g; omega
  | succ n ih =>
    intro i g1 g2
    refine pk_le c i (fun g => ?_) (fun g => ?_)
    · refine xa_create S.1 hc S.2.1 q1 (mb := 12) (by omega) (fun hft w pa' => ?_) (fun _ _ _ => br_f (by decide) rfl) (fun _ _ => br_f (by decide) rfl)
      obtain ⟨c1, c2, c3⟩ := rt_cre S hb hft w
      refine br_t (nI_pos' (by omega)) ?_
      refine pk_lt 0 (64 * (c + 2 + ta_fc sz c)) (fun w2 => ?_) (fun w2 => by omega)
      refine nm_r (nI_1 K) (rt_cell hLs (by omega) (fun v => rt_nz (fun m hm => ⟨nI_ne0 (by omega) (by omega), ?_⟩)))
      refine nm_r (pk_rem hm (by omega) (by omega)) ⟨c + 1, ?_⟩
      exact rt_541 hLs (by omega) S q1 hc c1 hft c2 c3 w (Nat.mod_lt _ (by omega)) (c + 1) 0 0 (Nat.zero_le _) (by omega) (Or.inr ⟨rfl, fun i hi => by omega⟩)
    · exact ⟨7, rt_410 hc Q' g (ih (i + 1) (by omega) (by omega)) 7 0 (by omega) (by omega)⟩
end
/-- while the tree is built -/
def rt_B (c : Nat) (ct kd pr nm md sz tg dt ar : Nat → Int32) (P : Nat → List Int32) : Prop :=
  c ≤ 8 ∧ ta_I c 0 ct kd pr nm md md sz tg dt P (fun _ => []) ∧ (∀ i, i < c → ∃ m, m < 512 ∧ md i = nI m) ∧ (∀ i, i < c → kd i ≠ 2 → tg i = -1) ∧ (∀ j, ta_by (ar j))
theorem rt_B_S {c : Nat} {ct kd pr nm md sz tg dt ar : Nat → Int32} {P : Nat → List Int32} (B : rt_B c ct kd pr nm md sz tg dt ar P) : rt_S c kd pr nm md sz tg dt (fun i => if i < c then P i else []) := by
  obtain ⟨_, ⟨i1, i2, i3, i4, i5, i6, i7, i8, i9⟩, b3, b4, _⟩ := B
  refine ⟨ta_Tr_res i3, i5, b4, b3, i9, fun i x hx => ?_⟩
  have hx : x ∈ (if i < c then P i else []) := hx
  by_cases z : i < c
  · rw [if_pos z] at hx
    rcases ta_P_ch i3 i z x hx with e | e
    · rw [e]; exact ta_by_n (n := 47) (by omega)
    · exact ta_by_nc e
  · rw [if_neg z] at hx
    exact absurd hx List.not_mem_nil
section
variable {fl fe fp fn ft : Int32} {ct kd pr nm md sz tg dt ar pa : Nat → Int32} {P : Nat → List Int32} {c : Nat}
theorem rt_add (B : rt_B c ct kd pr nm md sz tg dt ar P) {p k v m : Int32} {post : Int32 → St2 → Prop}
    (h : ∀ r c' ct' kd' pr' nm' md' sz' tg' P', rt_B c' ct' kd' pr' nm' md' sz' tg' dt ar P' → post r (nI 8, nI 12, fl, fe, fp, fn, ft, ct', kd', pr', nm', md', sz', tg', dt, ar, pa)) :
    wpX_addNode post (nI 8, nI 12, fl, fe, fp, fn, ft, ct, kd, pr, nm, md, sz, tg, dt, ar, pa) p k v m := by
  have B' := B
  obtain ⟨b1, I, b3, b4, b5⟩ := B
  have I' := I
  obtain ⟨i1, i2, i3, i4, i5, i6, i7, i8, i9⟩ := I
  refine xa_addNode i3 i1 b1 (Nat.le_refl 8) (fun r _ => h _ _ _ _ _ _ _ _ _ _ B') (fun mv t hs => ?_) i5
  have h8 : c < 8 := by have := hs.1; omega
  obtain ⟨P', I2⟩ := ta_I_add h8 I' hs
  obtain ⟨_, _, _, _, _, _, s7⟩ := hs
  refine h _ (c + 1) _ _ _ _ _ _ _ P' ⟨by omega, I2, fun i hi => ?_, fun i hi => ?_, b5⟩
  · by_cases z : i = c
    · rw [z, pk_us]
      rcases s7 with ⟨_, ⟨m0, m1⟩, e, _⟩ | ⟨_, _, e⟩
      · obtain ⟨j, hj, e2⟩ := nI_of m0
        rw [e2] at m1
        have := (nI_leI (b := 511) hj (by decide)).mp m1
        exact ⟨j, by omega, e.trans e2⟩
      · exact ⟨0, by omega, e⟩
    · rw [pk_un z]; exact b3 i (by omega)
  · by_cases z : i = c
    · rw [z, pk_us, pk_us]
      intro k2
      rcases s7 with ⟨_, _, _, e⟩ | ⟨q, _⟩
      · exact e
      · exact absurd q k2
    · rw [pk_un z, pk_un z]; exact b4 i (by omega)
/-- the appends, then create and all behind it -/
theorem rt_301 {L kc ks m : Nat} {xs : Nat → Int32} (hLs : L ≤ 260) (hm : m ≤ 41) : ∀ n j K sz dt, j ≤ m → m < j + n → K + (m - j) < 700 → rt_B c ct kd pr nm md sz tg dt ar P →
    wL_law_301 (fun r => r = 1) L xs (nI c) (nI m) kc ks n (nI K) (nI j) (nI 8) (nI 12) fl fe fp fn ft ct kd pr nm md sz tg dt ar pa := by
  intro n
  induction n with
  | zero => intro j K sz dt _ g; omega
  | succ n ih =>
    intro j K sz dt g1 g2 hK B
    have S := rt_B_S B
    have B' := B
    obtain ⟨b1, I, b3, b4, b5⟩ := B
    obtain ⟨i1, i2, i3, i4, i5, i6, i7, i8, i9⟩ := I
    refine pk_le m j (fun g => ?_) (fun g => ?_)
    · refine xa_create S.1 b1 S.2.1 i1 (mb := 12) (by omega) (fun hft w pa' => ?_) (fun _ _ _ => br_f (by decide) rfl) (fun _ _ => br_f (by decide) rfl)
      obtain ⟨c1, c2, c3⟩ := rt_cre S b5 hft w
      refine br_t (nI_pos' (by omega)) ?_
      refine rt_ext_ok S i1 b1 c1 hft c2 c3 w (fun ct' kd' pr' nm' md' sz' tg' dt' E fp fn ft pa => ?_)
      have Q := rt_Q_E b1 S E
      refine br_t rfl (br_t rfl (xa_nodeCount (t := 1) (by omega) (br_t Q.2.1 ⟨c + 1, ?_⟩)))
      exact rt_400 hLs (by omega) b1 Q c1 (c + 1) 0 (Nat.zero_le _) (by omega)
    · refine nm_r (nI_1 K) (rt_cell hLs (by omega) (fun v => rt_nz (fun q hq => ?_)))
      refine pk_le c 0 (fun w => nm_r (nI_1 j) (ih (j + 1) (K + 1) sz dt (by omega) (by omega) (by omega) B')) (fun w => ⟨nI_ne0 w (by omega), nI_ne0 w (by omega), ?_⟩)
      refine xa_appendData i1 b1 i5 (fun r => nm_r (nI_1 j) (ih (j + 1) (K + 1) sz dt (by omega) (by omega) (by omega) B')) (fun r f s hf hs k1 hy => nm_r (nI_1 j) (ih (j + 1) (K + 1) _ _ (by omega) (by omega) (by omega) ?_))
      exact ⟨b1, ta_I_app hf b1 hs k1 hy ⟨i1, i2, i3, i4, i5, i6, i7, i8, i9⟩, b3, b4, b5⟩
end
end
section
/-! 48: the law's first loop, and the law -/
section
variable {fl fe fp fn ft : Int32} {ct kd pr nm md sz tg dt ar pa : Nat → Int32} {P : Nat → List Int32} {c : Nat}
theorem rt_112 {post : Int32 → Prop} {L kc ks j n1 : Nat} {xs : Nat → Int32} {x2 x3 x7 x8 z0 : Int32} {J : Int32 → Int32 → Int32 → Int32 → Int32 → Int32 → Int32 → Int32 → Int32 → (Nat → Int32) → (Nat → Int32) → (Nat → Int32) → (Nat → Int32) → (Nat → Int32) → (Nat → Int32) → (Nat → Int32) → (Nat → Int32) → (Nat → Int32) → (Nat → Int32) → Prop} (hn : n1 < 2 ^ 31)
    (B : rt_B c ct kd pr nm md sz tg dt ar P)
    (HJ : ∀ c' ct' kd' pr' nm' md' sz' tg' P', rt_B c' ct' kd' pr' nm' md' sz' tg' dt ar P' → J x2 (nI (j + 1)) (nI 8) (nI 12) fl fe fp fn ft ct' kd' pr' nm' md' sz' tg' dt ar pa) :
    wL_law_112 post L xs J x2 x3 (nI j) (nI c) (nI n1) x7 x8 z0 kc ks (nI 8) (nI 12) fl fe fp fn ft ct kd pr nm md sz tg dt ar pa := by
  have K256 : ∀ x10 x11 x14 x16, wL_law_256 post L xs J x2 x3 (nI j) x10 x11 x14 x16 kc ks (nI 8) (nI 12) fl fe fp fn ft ct kd pr nm md sz tg dt ar pa := by
    intro x10 x11 x14 x16
    unfold wL_law_256
    exact rt_add B (fun r c' ct' kd' pr' nm' md' sz' tg' P' B' => nm_r (nI_1 j) (HJ _ _ _ _ _ _ _ _ _ B'))
  have K187 : ∀ x10 x11 len, len ≤ 4 → ∀ n q x14 x15, q ≤ len → len < q + n → wL_law_187 post L xs J x2 x3 (nI j) (nI c) x8 x10 x11 (nI len) kc ks (nI 8) (nI 12) fl fe fp fn ft ct kd pr nm md sz tg dt ar pa n x14 x15 (nI q) := by
    intro x10 x11 len hl n
    induction n with
    | zero => intro q x14 x15 _ g; omega
    | succ n ih =>
      intro q x14 x15 g1 g2
      refine pk_le len q (fun _ => br_c (fun _ => br_c (fun _ => K256 _ _ _ _) (fun z => ⟨z, K256 _ _ _ _⟩)) (fun _ => nm_e (K256 _ _ _ _))) (fun g => rt_ch (fun v => nm_e ⟨by decide, nm_e (nm_r (nI_1 q) (ih (q + 1) _ _ (by omega) (by omega)))⟩))
  have K173 : ∀ x10 x11 len, len ≤ 4 → wL_law_173 post L xs J x2 x3 (nI j) (nI c) x7 x8 x10 x11 (nI len) kc ks (nI 8) (nI 12) fl fe fp fn ft ct kd pr nm md sz tg dt ar pa := fun x10 x11 len hl =>
    nm_e ⟨len + 1, K187 x10 x11 len hl (len + 1) 0 _ _ (Nat.zero_le _) (by omega)⟩
  have K153 : ∀ x10 x11, wL_law_153 post L xs J x2 x3 (nI j) (nI c) x7 x8 x10 x11 kc ks (nI 8) (nI 12) fl fe fp fn ft ct kd pr nm md sz tg dt ar pa := by
    intro x10 x11
    refine br_c (fun _ => K173 x10 x11 4 (by omega)) (fun _ => ?_)
    obtain ⟨q, hq, e⟩ := pk_andE x7 (m := 1) 1 (by decide)
    rw [e, show (1 : Int32) + nI q = nI (1 + q) from nI_add 1 q]
    exact K173 x10 x11 (1 + q) (by omega)
  obtain ⟨b1, I, b3, b4, b5⟩ := B
  obtain ⟨i1, i2, i3, i4, i5, i6, i7, i8, i9⟩ := I
  have e3 : nI n1 / 3 = nI (n1 / 3) := pk_div (d := 3) hn (by omega) (by omega)
  have ec : nI c + 1 = nI (c + 1) := nI_1 c
  refine ⟨by decide, by rw [ec]; exact nI_ne0 (by omega) (by omega), nm_r (e' := nI (n1 / 3 % (c + 1))) (by rw [e3, ec, pk_rem (by omega) (by omega) (by omega)]) ?_⟩
  have hr := Nat.mod_lt (n1 / 3) (show 0 < c + 1 by omega)
  refine pk_le (n1 / 3 % (c + 1)) 0 (fun _ => K153 _ _) (fun g => ?_)
  have es : nI (n1 / 3 % (c + 1)) - 1 = nI (n1 / 3 % (c + 1) - 1) := by
    rw [show (1 : Int32) = nI 1 from rfl, pk_sub (by omega)]
  rw [es]
  obtain ⟨f, f1, f2, f3, f4⟩ := ta_own (t := 0) b1 i5 (show n1 / 3 % (c + 1) - 1 < c by omega)
  exact xa_nodeInfo (t := 0) (w := 0) (by omega) i1 b1 i5 (by omega) f1 f3 (by omega) (br_c (fun _ => nm_e (K153 _ _)) (fun _ => K153 _ _))
end
theorem rt_34 {L kc ks m : Nat} {xs : Nat → Int32} {fl fe fp fn ft : Int32} {dt ar pa : Nat → Int32} (hLs : L ≤ 260) (hm : m ≤ 6) : ∀ n j K c ct kd pr nm md sz tg P, j ≤ m → m < j + n → K + 3 * (m - j) < 600 → rt_B c ct kd pr nm md sz tg dt ar P →
    wL_law_34 (fun r => r = 1) L xs (nI m) kc ks n (nI K) (nI j) (nI 8) (nI 12) fl fe fp fn ft ct kd pr nm md sz tg dt ar pa := by
  intro n
  induction n with
  | zero => intro j K c ct kd pr nm md sz tg P _ g; omega
  | succ n ih =>
    intro j K c ct kd pr nm md sz tg P g1 g2 hK B
    have hct : ct 0 = nI c := B.2.1.1
    refine pk_le m j (fun g => ?_) (fun g => ?_)
    · refine xa_nodeCount (t := 0) (by omega) (nm_r (nI_1 K) (rt_cell hLs (by omega) (fun v => rt_nz (fun q hq => ⟨by decide, nm_r (pk_rem (d := 41) hq (by omega) (by omega)) ⟨q % 41 + 1, ?_⟩⟩))))
      rw [hct]
      exact rt_301 hLs (by omega) (q % 41 + 1) 0 (K + 1) sz dt (Nat.zero_le _) (by omega) (by omega) B
    · refine xa_nodeCount (t := 0) (by omega) ?_
      rw [hct]
      refine nm_r (nI_1 K) (rt_cell hLs (by omega) (fun v1 => rt_nz (fun q1 hq1 => ?_)))
      refine nm_r (nI_1 (K + 1)) (rt_cell hLs (by omega) (fun v2 => rt_nz (fun q2 hq2 => ?_)))
      refine nm_r (nI_1 (K + 2)) (rt_cell hLs (by omega) (fun v3 => rt_nz (fun q3 hq3 => ⟨by decide, nm_e ?_⟩)))
      have R : ∀ z0, wL_law_112 (fun r => r = 1) L xs (wL_law_34 (fun r => r = 1) L xs (nI m) kc ks n) (nI (K + 3)) (nI m) (nI j) (nI c) (nI q1) (nI q2) (nI q3) z0 kc ks (nI 8) (nI 12) fl fe fp fn ft ct kd pr nm md sz tg dt ar pa := fun z0 =>
        rt_112 hq1 B (fun c' ct' kd' pr' nm' md' sz' tg' P' B' => ih (j + 1) (K + 3) c' ct' kd' pr' nm' md' sz' tg' P' (by omega) (by omega) (by omega) B')
      exact br_c (fun _ => R _) (fun _ => br_c (fun _ => R _) (fun _ => R _))
theorem i_vc (xs : Nat → Int32) (L : Nat) (hL : L ≤ 260) : wpL_law (fun r => r = 1) L xs := by
  refine ⟨10, 1408, by omega, by omega, ?_⟩
  unfold wpX_init
  refine ⟨by omega, by omega, by omega, by omega, by omega, by omega, by omega, by omega, by omega, by omega, by omega, by omega, by omega, by omega, by omega, by omega, by omega, by omega, by omega, by omega, ?_⟩
  refine xa_clamp (p := 8) 2 8 (by omega) (by omega) (fun a a1 a2 a3 a4 a5 => xa_clamp (p := 12) 4 12 (by omega) (by omega) (fun b b1 b2 b3 b4 b5 => ?_))
  have ea : a = 8 := (nI_eq (a := a) (b := 8) (by omega) (by omega)).mp (a4 (by decide) (by decide)).symm
  have eb : b = 12 := (nI_eq (a := b) (b := 12) (by omega) (by omega)).mp (b4 (by decide) (by decide)).symm
  subst ea eb
  refine nm_r (e' := nI 1) (by decide) (rt_cell (k := 0) hL (by omega) (fun v => rt_nz (fun q hq => ⟨by decide, ?_⟩)))
  refine nm_r (e' := nI (1 + q % 6)) (by rw [show (6 : Int32) = nI 6 from rfl, pk_rem hq (by omega) (by omega)]; exact nI_add 1 _) ⟨1 + q % 6 + 1, ?_⟩
  refine rt_34 hL (by omega) (1 + q % 6 + 1) 0 1 0 _ _ _ _ _ _ _ (fun _ => []) (Nat.zero_le _) (by omega) (by omega) ⟨by omega, ⟨rfl, rfl, ta_Tr_0, ta_Tr_0, fun i hi => by omega, fun i hi => by omega, fun i hi => by omega, fun _ _ => rfl, fun _ => ⟨0, by omega, rfl⟩⟩, fun i hi => by omega, fun i hi => by omega, fun _ => ⟨0, by omega, rfl⟩⟩
end
