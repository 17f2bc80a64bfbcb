/-! 40: the round trip, pure: octal digits, the bytes of a header -/
theorem rt_sr {n : Nat} (h : n < 2 ^ 31) : ta_sr (nI n) = nI (n / 8) := pk_ushrN (by omega) 3 3 (by decide)
theorem rt_d7 {n : Nat} (h : n < 2 ^ 31) : nI n &&& 7 = nI (n % 8) := pk_andN (by omega) 3 (by decide)
theorem rt_ol {n d : Nat} (h : n < 2 ^ 31) : ta_ol (d + 1) (nI n) = ta_ol d (nI (n / 8)) ++ [nI (48 + n % 8)] := by
  show ta_ol d (ta_sr (nI n)) ++ [48 + (nI n &&& 7)] = _
  rw [rt_sr h, rt_d7 h]
  exact congrArg (fun x => ta_ol d (nI (n / 8)) ++ [x]) (nI_add 48 (n % 8))
theorem rt_gl {L M : List Int32} {k : Nat} (h : k < L.length) : (L ++ M).getD k 0 = L.getD k 0 := by
  rw [List.getD_eq_getElem?_getD, List.getD_eq_getElem?_getD, List.getElem?_append_left h]
theorem rt_gr {L M : List Int32} {k : Nat} (h : L.length ≤ k) : (L ++ M).getD k 0 = M.getD (k - L.length) 0 := by
  rw [List.getD_eq_getElem?_getD, List.getD_eq_getElem?_getD, List.getElem?_append_right h]
theorem rt_gn {L : List Int32} {k : Nat} (h : L.length ≤ k) : L.getD k 0 = 0 := by
  rw [List.getD_eq_getElem?_getD, List.getElem?_eq_none h]; rfl
theorem rt_ov : ∀ d n (a : Nat → Int32) o, n < 8 ^ d → n < 2 ^ 31 → (∀ k, k < d → a (o + k) = (ta_ol d (nI n)).getD k 0) → ta_od a o d ∧ ta_ov a o d = n := by
  intro d
  induction d with
  | zero =>
    intro n a o h _ _
    refine ⟨fun k hk => by omega, ?_⟩
    show 0 = n
    simp at h
    omega
  | succ d ih =>
    intro n a o h h31 hk
    rw [rt_ol h31] at hk
    have hl : (ta_ol d (nI (n / 8))).length = d := ta_ol_len _ _
    rw [Nat.pow_succ] at h
    obtain ⟨i1, i2⟩ := ih (n / 8) a o (by omega) (by omega) (fun k hk' => by rw [hk k (by omega), rt_gl (by omega)])
    have e : a (o + d) = nI (48 + n % 8) := by
      rw [hk d (by omega), rt_gr (by omega), hl, Nat.sub_self]
      rfl
    refine ⟨fun k hk' => ?_, ?_⟩
    · rcases Nat.lt_or_ge k d with y | y
      · exact i1 k y
      · rw [show k = d by omega, e]
        exact ⟨nI_le (a := 48) (by omega) (by omega), nI_le (b := 55) (by omega) (by omega)⟩
    · show ta_ov a o d * 8 + (ta_n (a (o + d)) - 48) = n
      have e2 : ta_n (a (o + d)) = 48 + n % 8 := by unfold ta_n; rw [e, nI_clamp (by omega)]
      rw [i2, e2]
      omega
theorem rt_fld {a : Nat → Int32} {p j : Nat} {M : List Int32} (h : M.length ≤ j → a (p + j) = 0) : ta_wr a p M (p + j) = M.getD j 0 := by
  rcases Nat.lt_or_ge j M.length with y | y
  · exact ta_wr_in y
  · rw [ta_wr_out (by omega), h y, rt_gn y]
theorem rt_cs_wr {a : Nat → Int32} {o : Nat} {M : List Int32} (hM : M.length ≤ 6) : ∀ n, ta_cs (ta_wr a (o + 20) M) o n = ta_cs a o n := by
  intro n
  induction n with
  | zero => rfl
  | succ n ih =>
    show ta_cs (ta_wr a (o + 20) M) o n + (if 20 ≤ n ∧ n < 26 then 32 else ta_wr a (o + 20) M (o + n)) = ta_cs a o n + (if 20 ≤ n ∧ n < 26 then 32 else a (o + n))
    rw [ih]
    by_cases z : 20 ≤ n ∧ n < 26
    · rw [if_pos z, if_pos z]
    · rw [if_neg z, if_neg z, ta_wr_out (by omega)]
theorem rt_cs_cg {a b : Nat → Int32} {o : Nat} : ∀ n, (∀ k, k < n → a (o + k) = b (o + k)) → ta_cs a o n = ta_cs b o n := by
  intro n
  induction n with
  | zero => intro _; rfl
  | succ n ih =>
    intro h
    show ta_cs a o n + (if 20 ≤ n ∧ n < 26 then 32 else a (o + n)) = ta_cs b o n + (if 20 ≤ n ∧ n < 26 then 32 else b (o + n))
    rw [ih (fun k hk => h k (by omega)), h n (by omega)]
/-- the block at o of a holds a header of L, K, m, s, ty -/
def rt_H (a : Nat → Int32) (o : Nat) (L K : List Int32) (m s : Nat) (ty : Int32) : Prop :=
  (∀ j, j < 12 → a (o + j) = (L.drop (ta_nb L)).getD j 0) ∧ (∀ j, j < 3 → a (o + 12 + j) = (ta_ol 3 (nI m)).getD j 0) ∧ a (o + 15) = 0 ∧ (∀ j, j < 3 → a (o + 16 + j) = (ta_ol 3 (nI s)).getD j 0) ∧ a (o + 19) = 0 ∧
  (∀ j, j < 5 → a (o + 20 + j) = (ta_ol 5 (ta_cs a o 64)).getD j 0) ∧ a (o + 25) = 0 ∧ a (o + 26) = ty ∧ (∀ j, j < 12 → a (o + 27 + j) = K.getD j 0) ∧ (∀ j, j < 8 → a (o + 39 + j) = ta_mg.getD j 0) ∧
  (∀ j, j < 10 → a (o + 47 + j) = (L.take (ta_nb L - 1)).getD j 0) ∧ (∀ j, j < 7 → a (o + 57 + j) = 0)
theorem rt_h {z : Nat → Int32} {o m s : Nat} {L K : List Int32} {ty : Int32} (hL : ta_sp L ≠ -2) (hK : K.length ≤ 12) (hz : ∀ j, j < 64 → z (o + j) = 0) : rt_H (ta_h z o L K (nI m) (nI s) ty) o L K m s ty := by
  have h1 : (L.take (ta_nb L - 1)).length ≤ 10 := by
    rw [List.length_take]
    rcases ta_nb_spec hL with ⟨_, _, h⟩ | ⟨s, h0, _, _, _, _, _, h⟩ <;> rw [h] <;> omega
  have h2 : (L.drop (ta_nb L)).length ≤ 12 := by
    rw [List.length_drop]
    rcases ta_nb_spec hL with ⟨_, _, h⟩ | ⟨s, h0, _, _, _, _, _, h⟩ <;> rw [h] <;> omega
  have l3 : ∀ v, (ta_ol 3 v).length = 3 := ta_ol_len 3
  have l5 : ∀ v, (ta_ol 5 v).length = 5 := ta_ol_len 5
  have lm : ta_mg.length = 8 := rfl
  have l1 : ([ty] : List Int32).length = 1 := rfl
  have ec : ta_cs (ta_h z o L K (nI m) (nI s) ty) o 64 = ta_cs (ta_h0 z o L K (nI m) (nI s) ty) o 64 := by
    unfold ta_h
    exact rt_cs_wr (by rw [l5]; omega) 64
  unfold rt_H
  rw [ec]
  unfold ta_h ta_h0
  refine ⟨?_, ?_, ?_, ?_, ?_, ?_, ?_, ?_, ?_, ?_, ?_, ?_⟩
  · intro j hj
    rw [ta_wr_out (by rw [l5]; omega), ta_wr_out (by rw [lm]; omega), ta_wr_out (by rw [l1]; omega), ta_wr_out (by rw [l3]; omega), ta_wr_out (by rw [l3]; omega), ta_wr_out (by omega)]
    exact rt_fld (fun _ => by rw [ta_wr_out (by omega)]; exact hz j (by omega))
  · intro j hj
    rw [ta_wr_out (by rw [l5]; omega), ta_wr_out (by rw [lm]; omega), ta_wr_out (by rw [l1]; omega), ta_wr_out (by rw [l3]; omega)]
    exact ta_wr_in (by rw [l3]; exact hj)
  · rw [ta_wr_out (by rw [l5]; omega), ta_wr_out (by rw [lm]; omega), ta_wr_out (by rw [l1]; omega), ta_wr_out (by rw [l3]; omega), ta_wr_out (by rw [l3]; omega), ta_wr_out (by omega), ta_wr_out (by omega), ta_wr_out (by omega)]
    exact hz 15 (by omega)
  · intro j hj
    rw [ta_wr_out (by rw [l5]; omega), ta_wr_out (by rw [lm]; omega), ta_wr_out (by rw [l1]; omega)]
    exact ta_wr_in (by rw [l3]; exact hj)
  · rw [ta_wr_out (by rw [l5]; omega), ta_wr_out (by rw [lm]; omega), ta_wr_out (by rw [l1]; omega), ta_wr_out (by rw [l3]; omega), ta_wr_out (by rw [l3]; omega), ta_wr_out (by omega), ta_wr_out (by omega), ta_wr_out (by omega)]
    exact hz 19 (by omega)
  · intro j hj
    exact ta_wr_in (by rw [l5]; exact hj)
  · rw [ta_wr_out (by rw [l5]; omega), ta_wr_out (by rw [lm]; omega), ta_wr_out (by rw [l1]; omega), ta_wr_out (by rw [l3]; omega), ta_wr_out (by rw [l3]; omega), ta_wr_out (by omega), ta_wr_out (by omega), ta_wr_out (by omega)]
    exact hz 25 (by omega)
  · rw [ta_wr_out (by rw [l5]; omega), ta_wr_out (by rw [lm]; omega)]
    exact ta_wr_in (k := 0) (by rw [l1]; omega)
  · intro j hj
    rw [ta_wr_out (by rw [l5]; omega), ta_wr_out (by rw [lm]; omega), ta_wr_out (by rw [l1]; omega), ta_wr_out (by rw [l3]; omega), ta_wr_out (by rw [l3]; omega)]
    exact rt_fld (fun _ => by rw [ta_wr_out (by omega), ta_wr_out (by omega), show o + 27 + j = o + (27 + j) by omega]; exact hz _ (by omega))
  · intro j hj
    rw [ta_wr_out (by rw [l5]; omega)]
    exact ta_wr_in (by rw [lm]; exact hj)
  · intro j hj
    rw [ta_wr_out (by rw [l5]; omega), ta_wr_out (by rw [lm]; omega), ta_wr_out (by rw [l1]; omega), ta_wr_out (by rw [l3]; omega), ta_wr_out (by rw [l3]; omega), ta_wr_out (by omega), ta_wr_out (by omega)]
    exact rt_fld (fun _ => by rw [show o + 47 + j = o + (47 + j) by omega]; exact hz _ (by omega))
  · intro j hj
    rw [ta_wr_out (by rw [l5]; omega), ta_wr_out (by rw [lm]; omega), ta_wr_out (by rw [l1]; omega), ta_wr_out (by rw [l3]; omega), ta_wr_out (by rw [l3]; omega), ta_wr_out (by omega), ta_wr_out (by omega), ta_wr_out (by omega), show o + 57 + j = o + (57 + j) by omega]
    exact hz _ (by omega)
theorem rt_H_cg {a b : Nat → Int32} {o m s : Nat} {L K : List Int32} {ty : Int32} (h : rt_H a o L K m s ty) (e : ∀ j, j < 64 → b (o + j) = a (o + j)) : rt_H b o L K m s ty := by
  obtain ⟨h1, h2, h3, h4, h5, h6, h7, h8, h9, h10, h11, h12⟩ := h
  have ec : ta_cs b o 64 = ta_cs a o 64 := rt_cs_cg 64 e
  have e' : ∀ q j, q + j < 64 → b (o + q + j) = a (o + q + j) := fun q j hq => by rw [Nat.add_assoc]; exact e _ hq
  refine ⟨fun j hj => by rw [e j (by omega)]; exact h1 j hj, fun j hj => by rw [e' 12 j (by omega)]; exact h2 j hj, by rw [e 15 (by omega)]; exact h3, fun j hj => by rw [e' 16 j (by omega)]; exact h4 j hj, by rw [e 19 (by omega)]; exact h5,
    fun j hj => by rw [ec, e' 20 j (by omega)]; exact h6 j hj, by rw [e 25 (by omega)]; exact h7, by rw [e 26 (by omega)]; exact h8, fun j hj => by rw [e' 27 j (by omega)]; exact h9 j hj, fun j hj => by rw [e' 39 j (by omega)]; exact h10 j hj, fun j hj => by rw [e' 47 j (by omega)]; exact h11 j hj, fun j hj => by rw [e' 57 j (by omega)]; exact h12 j hj⟩
