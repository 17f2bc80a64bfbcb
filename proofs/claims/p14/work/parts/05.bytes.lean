/-! 05: bytes, octal digits -/
def ta_by (x : Int32) : Prop := ∃ n, n < 256 ∧ x = nI n
theorem ta_by_nc {x : Int32} (h : ta_nc x) : ta_by x := by
  obtain ⟨n, h1, _, h3⟩ := ta_nc_nat h
  exact ⟨n, by omega, h3⟩
theorem ta_by_n {n : Nat} (h : n < 256) : ta_by (nI n) := ⟨n, h, rfl⟩
theorem ta_wr_by {a : Nat → Int32} {o : Nat} {L : List Int32} (h : ∀ j, ta_by (a j)) (hL : ∀ x, x ∈ L → ta_by x) : ∀ j, ta_by (ta_wr a o L j) := by
  intro j
  unfold ta_wr
  by_cases z : o ≤ j ∧ j < o + L.length
  · rw [if_pos z, List.getD_eq_getElem?_getD, List.getElem?_eq_getElem (by omega)]
    exact hL _ (List.getElem_mem _)
  · rw [if_neg z]; exact h j
theorem ta_upd_by {a : Nat → Int32} {o : Nat} {x : Int32} (h : ∀ j, ta_by (a j)) (hx : ta_by x) : ∀ j, ta_by (upd a o x j) := by
  intro j
  by_cases z : j = o
  · rw [z, pk_us]; exact hx
  · rw [pk_un z]; exact h j
def ta_sr (v : Int32) : Int32 := (v.toUInt32 >>> ((3 : Int32).toUInt32 &&& Int32.toUInt32 31)).toInt32
def ta_ol : Nat → Int32 → List Int32
  | 0, _ => []
  | d + 1, v => ta_ol d (ta_sr v) ++ [48 + (v &&& 7)]
theorem ta_ol_len : ∀ d v, (ta_ol d v).length = d := by
  intro d
  induction d with
  | zero => intro v; rfl
  | succ d ih => intro v; show (ta_ol d (ta_sr v) ++ [48 + (v &&& 7)]).length = d + 1; rw [List.length_append, ih]; rfl
theorem ta_ol_by : ∀ d v x, x ∈ ta_ol d v → ta_by x := by
  intro d
  induction d with
  | zero => intro v x h; exact absurd h (by simp [ta_ol])
  | succ d ih =>
    intro v x h
    have h : x ∈ ta_ol d (ta_sr v) ++ [48 + (v &&& 7)] := h
    rw [List.mem_append] at h
    rcases h with h | h
    · exact ih _ _ h
    · have e : x = 48 + (v &&& 7) := by simpa using h
      obtain ⟨j, hj, f⟩ := pk_andE v (m := 7) 3 (by decide)
      rw [e, f, show (48 : Int32) = nI 48 from rfl, nI_add]
      exact ta_by_n (by omega)
/-- the digits are written from the last to the first -/
theorem ta_ol_wr (a : Nat → Int32) (o d : Nat) (v : Int32) : ta_wr (upd a (o + d) (48 + (v &&& 7))) o (ta_ol d (ta_sr v)) = ta_wr a o (ta_ol (d + 1) v) := by
  show _ = ta_wr a o (ta_ol d (ta_sr v) ++ [48 + (v &&& 7)])
  rw [ta_wr_1, ta_wr_comm _ (Or.inr (by rw [ta_ol_len]; omega)), ← ta_wr_app, ta_ol_len]
/-- an upd apart from a write -/
theorem ta_wr_upd (a : Nat → Int32) {o p : Nat} {L : List Int32} {x : Int32} (h : o + L.length ≤ p ∨ p < o) : upd (ta_wr a o L) p x = ta_wr (upd a p x) o L := by
  rw [ta_wr_1, ta_wr_1]
  exact ta_wr_comm _ (by simp only [List.length_cons, List.length_nil]; omega)
