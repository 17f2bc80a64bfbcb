/-! 03: packed names, the paths of a tree -/
def ta_pN (c : Nat → Nat) : Nat → Nat
  | 0 => 0
  | n + 1 => ta_pN c n + 2 ^ (8 * n) * c n
theorem ta_pN_lt {c : Nat → Nat} : ∀ n, (∀ i, i < n → c i < 256) → ta_pN c n < 2 ^ (8 * n) := by
  intro n
  induction n with
  | zero => intro _; exact Nat.zero_lt_one
  | succ n ih =>
    intro h
    have a := ih (fun i hi => h i (by omega))
    have b := h n (by omega)
    show ta_pN c n + 2 ^ (8 * n) * c n < 2 ^ (8 * (n + 1))
    rw [show 8 * (n + 1) = 8 * n + 8 by omega, Nat.pow_add]
    have d : 2 ^ (8 * n) * c n ≤ 2 ^ (8 * n) * 255 := Nat.mul_le_mul_left _ (by omega)
    omega
def ta_pk (a : Nat → Int32) (o : Nat) : Nat → Int32
  | 0 => 0
  | n + 1 => ta_pk a o n ||| (a (o + n) <<< ((8 * nI n) &&& 31))
theorem ta_shl : ∀ k : Nat, k < 4 → (((8 * nI k) &&& 31).toBitVec.smod 32).toNat = 8 * k := by decide
theorem ta_or {A B n : Nat} (hA : A < 2 ^ n) (h : A + 2 ^ n * B < 2 ^ 32) : nI A ||| nI (B * 2 ^ n) = nI (A + 2 ^ n * B) := by
  apply Int32.toBitVec_inj.mp
  apply BitVec.eq_of_toNat_eq
  rw [Int32.toBitVec_or, BitVec.toNat_or, pk_tn (by omega), pk_tn (by rw [Nat.mul_comm]; omega), pk_tn h, Nat.or_comm, Nat.mul_comm B, ← Nat.two_pow_add_eq_or_of_lt hA, Nat.add_comm]
theorem ta_pk_N {a : Nat → Int32} {o : Nat} {c : Nat → Nat} : ∀ n, n ≤ 4 → (∀ i, i < n → c i < 128 ∧ a (o + i) = nI (c i)) → ta_pk a o n = nI (ta_pN c n) := by
  intro n
  induction n with
  | zero => intro _ _; rfl
  | succ n ih =>
    intro h4 h
    have e := ih (by omega) (fun i hi => h i (by omega))
    obtain ⟨l, f⟩ := h n (by omega)
    have hA := ta_pN_lt (c := c) n (fun i hi => by have := (h i (by omega)).1; omega)
    have hB := ta_pN_lt (c := c) (n + 1) (fun i hi => by have := (h i (by omega)).1; omega)
    have hp : (2 : Nat) ^ (8 * (n + 1)) ≤ 2 ^ 32 := Nat.pow_le_pow_right (by decide) (by omega)
    have hB' : ta_pN c n + 2 ^ (8 * n) * c n < 2 ^ (8 * (n + 1)) := hB
    show ta_pk a o n ||| (a (o + n) <<< ((8 * nI n) &&& 31)) = nI (ta_pN c n + 2 ^ (8 * n) * c n)
    rw [e, f, pk_shlN _ (8 * n) (ta_shl n (by omega)) (by rw [Nat.mul_comm]; omega)]
    exact ta_or hA (by omega)
theorem ta_pN_w {c : Nat → Nat} {n k : Nat} (hn : n ≤ 4) (hk : k < 4) (h : ∀ i, i < n → c i < 256) : ta_pN c n / 2 ^ (8 * k) % 2 ^ 8 = if k < n then c k else 0 := by
  rcases (show n = 0 ∨ n = 1 ∨ n = 2 ∨ n = 3 ∨ n = 4 by omega) with rfl | rfl | rfl | rfl | rfl
  · simp [ta_pN]
  · have h0 := h 0 (by decide)
    rcases ta_lt4 hk with rfl | rfl | rfl | rfl <;> simp [ta_pN] <;> omega
  · have h0 := h 0 (by decide)
    have h1 := h 1 (by decide)
    rcases ta_lt4 hk with rfl | rfl | rfl | rfl <;> simp [ta_pN] <;> omega
  · have h0 := h 0 (by decide)
    have h1 := h 1 (by decide)
    have h2 := h 2 (by decide)
    rcases ta_lt4 hk with rfl | rfl | rfl | rfl <;> simp [ta_pN] <;> omega
  · have h0 := h 0 (by decide)
    have h1 := h 1 (by decide)
    have h2 := h 2 (by decide)
    have h3 := h 3 (by decide)
    rcases ta_lt4 hk with rfl | rfl | rfl | rfl <;> simp [ta_pN] <;> omega
theorem ta_pk_b {a : Nat → Int32} {o n k : Nat} (h4 : n ≤ 4) (hk : k < 4) (h : ∀ i, i < n → ta_nc (a (o + i))) : ta_b (ta_pk a o n) k = if k < n then a (o + k) else 0 := by
  let c : Nat → Nat := fun i => (a (o + i)).toNatClampNeg
  have hc : ∀ i, i < n → c i < 128 ∧ a (o + i) = nI (c i) := by
    intro i hi
    obtain ⟨m, hm, _, e⟩ := ta_nc_nat (h i hi)
    have : c i = m := by show (a (o + i)).toNatClampNeg = m; rw [e]; exact nI_clamp (by omega)
    rw [this]
    exact ⟨hm, e⟩
  have hl := ta_pN_lt (c := c) n (fun i hi => by have := (hc i hi).1; omega)
  have hp : (2 : Nat) ^ (8 * n) ≤ 2 ^ 32 := Nat.pow_le_pow_right (by decide) (by omega)
  rw [ta_bw _ hk, ta_pk_N n h4 hc]
  unfold ta_w
  rw [pk_tn (by omega), ta_pN_w h4 hk (fun i hi => by have := (hc i hi).1; omega)]
  by_cases z : k < n
  · rw [if_pos z, if_pos z, ← (hc k z).2]
  · rw [if_neg z, if_neg z]; rfl
theorem ta_pk_l {a : Nat → Int32} {o n : Nat} (h4 : n ≤ 4) (h : ∀ i, i < n → ta_nc (a (o + i))) : ta_l (ta_pk a o n) = n := by
  refine (ta_l_uniq h4 (fun k hk => ?_) (fun hn => ?_)).symm
  · rw [ta_pk_b h4 (by omega) h, if_pos hk]
    intro e
    exact ta_nc_0 (e ▸ h k hk)
  · rw [ta_pk_b h4 hn h, if_neg (Nat.lt_irrefl n)]
theorem ta_pk_V {a : Nat → Int32} {o n : Nat} (h1 : 1 ≤ n) (h4 : n ≤ 4) (h : ∀ i, i < n → ta_nc (a (o + i))) : ta_V (ta_pk a o n) ∧ ta_t (ta_pk a o n) = ta_sg a o n := by
  have hl := ta_pk_l h4 h
  refine ⟨⟨by rw [hl]; exact h1, fun k hk => ?_, fun k hk hk4 => ?_⟩, ?_⟩
  · rw [hl] at hk
    rw [ta_pk_b h4 (by omega) h, if_pos hk]
    exact h k hk
  · rw [hl] at hk
    rw [ta_pk_b h4 hk4 h, if_neg (by omega)]
  · unfold ta_t
    rw [hl]
    apply ta_sg_congr
    intro k hk
    rw [Nat.zero_add, ta_pk_b h4 (by omega) h, if_pos hk]
theorem ta_pk_cg {a b : Nat → Int32} {o : Nat} : ∀ n, (∀ k, k < n → a (o + k) = b (o + k)) → ta_pk a o n = ta_pk b o n := by
  intro n
  induction n with
  | zero => intro _; rfl
  | succ n ih =>
    intro h
    show ta_pk a o n ||| _ = ta_pk b o n ||| _
    rw [ih (fun k hk => h k (by omega)), h n (by omega)]

/-- lists cut at their last slash -/
theorem ta_spl : ∀ {l1 l2 n1 n2 : List Int32}, (47 : Int32) ∉ n1 → (47 : Int32) ∉ n2 → l1 ++ 47 :: n1 = l2 ++ 47 :: n2 → l1 = l2 ∧ n1 = n2
  | [], [], n1, n2, _, _, h => ⟨rfl, by simpa using h⟩
  | [], b :: l2, n1, n2, h1, _, h => by
    have e : n1 = l2 ++ 47 :: n2 := by have := h; simp at this; exact this.2
    exact absurd (by rw [e]; simp) h1
  | a :: l1, [], n1, n2, _, h2, h => by
    have e : l1 ++ 47 :: n1 = n2 := by have := h; simp at this; exact this.2
    exact absurd (by rw [← e]; simp) h2
  | a :: l1, b :: l2, n1, n2, h1, h2, h => by
    have e : a = b ∧ l1 ++ 47 :: n1 = l2 ++ 47 :: n2 := by simpa using h
    obtain ⟨x, y⟩ := ta_spl h1 h2 e.2
    exact ⟨by rw [e.1, x], y⟩
def ta_Nd (b : Nat) (kd par nm : Nat → Int32) (P : Nat → List Int32) (i : Nat) : Prop :=
  ta_V (nm (b + i)) ∧ (P i).count 47 ≤ 5 ∧ ((par (b + i) = -1 ∧ P i = ta_t (nm (b + i))) ∨ (∃ q, q < i ∧ par (b + i) = nI q ∧ kd (b + q) = 3 ∧ P i = P q ++ 47 :: ta_t (nm (b + i))))
def ta_Tr (b c : Nat) (kd par nm : Nat → Int32) (P : Nat → List Int32) : Prop :=
  (∀ i, i < c → ta_Nd b kd par nm P i) ∧ (∀ i j, i < c → j < c → par (b + i) = par (b + j) → nm (b + i) = nm (b + j) → i = j)
section
variable {b c : Nat} {kd par nm : Nat → Int32} {P : Nat → List Int32}
theorem ta_cnt {v : Int32} (hv : ta_V v) : (ta_t v).count 47 = 0 := List.count_eq_zero.mpr (ta_t_47 hv)
theorem ta_P_ne (T : ta_Tr b c kd par nm P) {i : Nat} (hi : i < c) : P i ≠ [] := by
  obtain ⟨hv, _, h⟩ := T.1 i hi
  have hl : (ta_t (nm (b + i))).length ≠ 0 := by rw [ta_t_len]; have := hv.1; omega
  rcases h with ⟨_, e⟩ | ⟨q, _, _, _, e⟩
  · rw [e]; intro z; rw [z] at hl; exact hl rfl
  · rw [e]; simp
theorem ta_P_len (T : ta_Tr b c kd par nm P) : ∀ i, i < c → (P i).length ≤ 5 * (P i).count 47 + 4 := by
  intro i
  induction i using Nat.strongRecOn with
  | ind i ih =>
    intro hi
    obtain ⟨hv, _, h⟩ := T.1 i hi
    have hl := (ta_l_spec (nm (b + i))).1
    have hl2 := ta_t_len (nm (b + i))
    have hc := ta_cnt hv
    rcases h with ⟨_, e⟩ | ⟨q, hq, _, _, e⟩
    · rw [e, hc]; omega
    · have := ih q hq (by omega)
      rw [e, List.length_append, List.length_cons, List.count_append, List.count_cons_self, hc]
      omega
theorem ta_P_29 (T : ta_Tr b c kd par nm P) {i : Nat} (hi : i < c) : (P i).length ≤ 29 := by
  have := ta_P_len T i hi
  have := (T.1 i hi).2.1
  omega
theorem ta_P_pos (T : ta_Tr b c kd par nm P) {i : Nat} (hi : i < c) : 0 < (P i).length := by
  have := ta_P_ne T hi
  exact List.length_pos_iff.mpr this
theorem ta_P_top (T : ta_Tr b c kd par nm P) {j : Nat} (hj : j < c) {C : List Int32} (hC : (47 : Int32) ∉ C) (h : P j = C) : par (b + j) = -1 ∧ ta_t (nm (b + j)) = C := by
  obtain ⟨hv, _, e⟩ := T.1 j hj
  rcases e with ⟨e1, e2⟩ | ⟨q, _, _, _, e2⟩
  · exact ⟨e1, by rw [← e2, h]⟩
  · exact absurd (by rw [← h, e2]; simp) hC
theorem ta_P_sub (T : ta_Tr b c kd par nm P) {j : Nat} (hj : j < c) {A C : List Int32} (hC : (47 : Int32) ∉ C) (h : P j = A ++ 47 :: C) : ∃ q, q < j ∧ par (b + j) = nI q ∧ kd (b + q) = 3 ∧ P q = A ∧ ta_t (nm (b + j)) = C := by
  obtain ⟨hv, _, e⟩ := T.1 j hj
  rcases e with ⟨e1, e2⟩ | ⟨q, hq, e1, e3, e2⟩
  · exact absurd (by rw [← e2, h]; simp) (ta_t_47 hv)
  · obtain ⟨x, y⟩ := ta_spl hC (ta_t_47 hv) (h.symm.trans e2)
    exact ⟨q, hq, e1, e3, x.symm, y.symm⟩
theorem ta_P_inj (T : ta_Tr b c kd par nm P) : ∀ i j, i < c → j < c → P i = P j → i = j := by
  intro i
  induction i using Nat.strongRecOn with
  | ind i ih =>
    intro j hi hj h
    obtain ⟨hv, _, e⟩ := T.1 i hi
    obtain ⟨hw, _, _⟩ := T.1 j hj
    rcases e with ⟨e1, e2⟩ | ⟨q, hq, e1, e3, e2⟩
    · obtain ⟨f1, f2⟩ := ta_P_top T hj (ta_t_47 hv) (h.symm.trans e2)
      exact T.2 i j hi hj (e1.trans f1.symm) (ta_t_inj hv hw f2.symm)
    · obtain ⟨r, hr, f1, f3, f4, f2⟩ := ta_P_sub T hj (ta_t_47 hv) (h.symm.trans e2)
      have := ih q hq r (by omega) (by omega) f4.symm
      subst this
      exact T.2 i j hi hj (e1.trans f1.symm) (ta_t_inj hv hw f2.symm)
theorem ta_P_anc (T : ta_Tr b c kd par nm P) : ∀ j, j < c → ∀ A B, P j = A ++ 47 :: B → ∃ q, q < j ∧ P q = A := by
  intro j
  induction j using Nat.strongRecOn with
  | ind j ih =>
    intro hj A B h
    obtain ⟨hv, _, e⟩ := T.1 j hj
    rcases e with ⟨e1, e2⟩ | ⟨q, hq, e1, e3, e2⟩
    · exact absurd (by rw [← e2, h]; simp) (ta_t_47 hv)
    · rcases List.append_eq_append_iff.mp (e2.symm.trans h) with ⟨a', x, y⟩ | ⟨c', x, y⟩
      · cases a' with
        | nil => exact ⟨q, hq, by rw [x]; simp⟩
        | cons z zs =>
          have : ta_t (nm (b + j)) = zs ++ 47 :: B := by simp at y; exact y.2
          exact absurd (by rw [this]; simp) (ta_t_47 hv)
      · cases c' with
        | nil => exact ⟨q, hq, by rw [x]; simp⟩
        | cons z zs =>
          have z47 : z = 47 := by simp at y; exact y.1.symm
          subst z47
          obtain ⟨r, hr, f⟩ := ih q hq (by omega) A zs x
          exact ⟨r, by omega, f⟩
theorem ta_P_ch (T : ta_Tr b c kd par nm P) : ∀ i, i < c → ∀ x, x ∈ P i → x = 47 ∨ ta_nc x := by
  intro i
  induction i using Nat.strongRecOn with
  | ind i ih =>
    intro hi x hx
    obtain ⟨hv, _, e⟩ := T.1 i hi
    rcases e with ⟨_, e⟩ | ⟨q, hq, _, _, e⟩
    · rw [e] at hx; exact Or.inr (ta_t_mem hv hx)
    · rw [e, List.mem_append, List.mem_cons] at hx
      rcases hx with hx | hx | hx
      · exact ih q hq (by omega) x hx
      · exact Or.inl hx
      · exact Or.inr (ta_t_mem hv hx)
theorem ta_Tr_cg (T : ta_Tr b c kd par nm P) {kd' par' nm' : Nat → Int32} (h1 : ∀ i, i < c → kd' (b + i) = kd (b + i)) (h2 : ∀ i, i < c → par' (b + i) = par (b + i)) (h3 : ∀ i, i < c → nm' (b + i) = nm (b + i)) : ta_Tr b c kd' par' nm' P := by
  refine ⟨fun i hi => ?_, fun i j hi hj => ?_⟩
  · obtain ⟨a1, a2, a3⟩ := T.1 i hi
    refine ⟨by rw [h3 i hi]; exact a1, a2, ?_⟩
    rcases a3 with ⟨x, y⟩ | ⟨q, hq, x, y, z⟩
    · exact Or.inl ⟨by rw [h2 i hi]; exact x, by rw [h3 i hi]; exact y⟩
    · exact Or.inr ⟨q, hq, by rw [h2 i hi]; exact x, by rw [h1 q (by omega)]; exact y, by rw [h3 i hi]; exact z⟩
  · rw [h2 i hi, h2 j hj, h3 i hi, h3 j hj]
    exact T.2 i j hi hj
theorem ta_Tr_add (T : ta_Tr b c kd par nm P) {N : List Int32} (hv : ta_V (nm (b + c))) (h5 : N.count 47 ≤ 5)
    (hp : (par (b + c) = -1 ∧ N = ta_t (nm (b + c))) ∨ (∃ q, q < c ∧ par (b + c) = nI q ∧ kd (b + q) = 3 ∧ N = P q ++ 47 :: ta_t (nm (b + c))))
    (hu : ∀ i, i < c → par (b + i) = par (b + c) → nm (b + i) = nm (b + c) → False) :
    ta_Tr b (c + 1) kd par nm (fun i => if i = c then N else P i) := by
  refine ⟨fun i hi => ?_, fun i j hi hj e1 e2 => ?_⟩
  · by_cases z : i = c
    · subst z
      refine ⟨hv, by simpa using h5, ?_⟩
      rcases hp with ⟨x, y⟩ | ⟨q, hq, x, y, w⟩
      · exact Or.inl ⟨x, by simpa using y⟩
      · refine Or.inr ⟨q, hq, x, y, ?_⟩
        show (if i = i then N else P i) = (if q = i then N else P q) ++ _
        rw [if_pos rfl, if_neg (by omega), w]
    · obtain ⟨a1, a2, a3⟩ := T.1 i (by omega)
      refine ⟨a1, by simpa [z] using a2, ?_⟩
      rcases a3 with ⟨x, y⟩ | ⟨q, hq, x, y, w⟩
      · exact Or.inl ⟨x, by simpa [z] using y⟩
      · refine Or.inr ⟨q, hq, x, y, ?_⟩
        show (if i = c then N else P i) = (if q = c then N else P q) ++ _
        rw [if_neg z, if_neg (by omega), w]
  · by_cases zi : i = c
    · by_cases zj : j = c
      · omega
      · subst zi
        exact (hu j (by omega) e1.symm e2.symm).elim
    · by_cases zj : j = c
      · subst zj
        exact (hu i (by omega) e1 e2).elim
      · exact T.2 i j (by omega) (by omega) e1 e2
theorem ta_Tr_0 : ta_Tr b 0 kd par nm P := ⟨fun i hi => by omega, fun i j hi => by omega⟩
end
