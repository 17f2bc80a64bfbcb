/-! 28: the relation, and extract in lockstep -/
def ta_R (mn mb L c0 c : Nat) (fe : Int32) (ct kd pr nm md my sz tg dt ar : Nat → Int32) (P0 P : Nat → List Int32) (u : SX) (v : SY) : Prop :=
  (∃ fp fn ft pa, u = (nI mn, nI mb, nI L, fe, fp, fn, ft, ct, kd, pr, nm, md, sz, tg, dt, ar, pa)) ∧ (∃ yc yo yb sc st, v = (nI mn, nI mb, nI L, fe, yc, yo, yb, ct, kd, pr, nm, my, tg, sz, dt, ar, sc, st)) ∧
  mn ≤ 8 ∧ mb ≤ 12 ∧ L ≤ 64 * mb ∧ c0 ≤ mn ∧ c ≤ mn ∧ ta_I c0 c ct kd pr nm md my sz tg dt P0 P ∧ (∀ j, ta_by (ar j))
def i_Rel (_ : Nat) (u : SX) (v : SY) : Prop := ∃ mn mb L c0 c fe ct kd pr nm md my sz tg dt ar P0 P, ta_R mn mb L c0 c fe ct kd pr nm md my sz tg dt ar P0 P u v
theorem i_up {k : Nat} {u : SX} {v : SY} (h : i_Rel k u v) : i_Rel (k + 5) u v := h
/-- the two loops of extract, block by block -/
theorem ta_ext {mn mb L c0 k : Nat} (hmn : mn ≤ 8) (hmb : mb ≤ 12) (hL : L ≤ 64 * mb) (hc0 : c0 ≤ mn) {ar : Nat → Int32} (hb : ∀ j, ta_by (ar j)) {P0 : Nat → List Int32} {fe yc : Int32} {GoalY : (Int32 → SY → Prop) → Prop} : ∀ n b g c ct kd pr nm md my sz tg dt P fp fn ft pa yo yb, b ≤ mb → g ≤ b → mb < b + n → c ≤ mn → ta_I c0 c ct kd pr nm md my sz tg dt P0 P →
    (∀ postY, (∀ sc st, wY_extract_21 postY n (nI b) (nI g) (nI mn) (nI mb) (nI L) fe yc yo yb ct kd pr nm my tg sz dt ar sc st) → GoalY postY) →
    wX_extract_9 (fun r u' => GoalY (fun r' v' => r' = r ∧ i_Rel k u' v')) n (nI b) (nI mn) (nI mb) (nI L) fe fp fn ft ct kd pr nm md sz tg dt ar pa := by
  intro n
  induction n with
  | zero => intro b g c ct kd pr nm md my sz tg dt P fp fn ft pa yo yb _ _ h; omega
  | succ n ih =>
    intro b g c ct kd pr nm md my sz tg dt P fp fn ft pa yo yb hbb hg hn hc I HY
    have I' := I
    obtain ⟨i1, i2, i3, i4, i5, i6, i7, i8, i9⟩ := I
    refine xa_step i4 i2 i6 hc hmn hmb hL hb hbb (fun r e hS fp' fn' ft' pa' => ?_) (fun nd nv t hG hcm pa' => ?_)
    · refine HY _ (fun sc st => br_f (nI_ge (b := 40) (by omega) (by decide)) ?_)
      refine ya_step i4 i2 hmn hc hmb hL hb hbb (fun r' e' code hS' hcode sc' st' => br_f (by decide) ?_) (fun nd nv t hG _ _ _ => (ta_Stop_Go i4 hS hG).elim)
      obtain ⟨er, ee⟩ := ta_Stop_u i4 hS hS'
      subst er ee
      have R : ∀ yo' yb', i_Rel k (nI mn, nI mb, nI L, e, fp', fn', ft', ct, kd, pr, nm, md, sz, tg, dt, ar, pa') (nI mn, nI mb, nI L, e, yc, yo', yb', ct, kd, pr, nm, my, tg, sz, dt, ar, sc', st') := fun yo' yb' =>
        ⟨mn, mb, L, c0, c, e, ct, kd, pr, nm, md, my, sz, tg, dt, ar, P0, P, ⟨_, _, _, _, rfl⟩, ⟨_, _, _, _, _, rfl⟩, hmn, hmb, hL, hc0, hc, I', hb⟩
      rcases hcode with ⟨c1, c2⟩ | ⟨c1, c2, c3⟩
      · exact br_f c1 ⟨c2, R _ _⟩
      · refine br_t c1 ⟨by rw [i2, c2], ?_⟩
        subst c3
        exact R _ _
    · obtain ⟨P', I2⟩ := ta_I_ext (by omega) (by omega) hb I' hG
      have hb' : (if ta_ov ar (64 * b + 16) 3 = 0 then b + 1 else b + 2) ≤ mb ∧ b + 1 ≤ (if ta_ov ar (64 * b + 16) 3 = 0 then b + 1 else b + 2) := by
        obtain ⟨g1, _, _, _, g5⟩ := hG
        by_cases z : ta_ov ar (64 * b + 16) 3 = 0
        · rw [if_pos z]; omega
        · rw [if_neg z]
          rcases g5 with q | q
          · exact absurd q z
          · omega
      refine ih _ (g + 1) (c + 1) _ _ _ _ _ _ _ _ _ P' nd nv t pa' yo yb hb'.1 (by omega) (by omega) (by omega) I2 (fun postY hY => ?_)
      refine HY _ (fun sc st => br_f (nI_ge (b := 40) (by omega) (by decide)) ?_)
      refine ya_step i4 i2 hmn hc hmb hL hb hbb (fun r' e' code hS' _ _ _ => (ta_Stop_Go i4 hS' hG).elim) (fun nd' nv' t' hG' _ sc' st' => ?_)
      obtain ⟨e1, e2, e3⟩ := ta_Go_u i4 hG hG'
      subst e1 e2 e3
      exact br_t (nI_pos' (by omega)) (nm_r (nI_1 g) (hY sc' st'))
theorem ta_I_0 {c0 c : Nat} {ct kd pr nm md my sz tg dt : Nat → Int32} {P0 P : Nat → List Int32} (I : ta_I c0 c ct kd pr nm md my sz tg dt P0 P) : ta_I c0 0 (upd ct 1 0) kd pr nm md my sz tg dt P0 P := by
  obtain ⟨i1, i2, i3, i4, i5, i6, i7, i8, i9⟩ := I
  exact ⟨by rw [pk_un (by decide)]; exact i1, pk_us, i3, ta_Tr_0, i5, fun i hi => by omega, i7, i8, i9⟩
theorem i_vc_extract {k : Nat} {u : SX} {v : SY} (I : i_Rel k u v) (hk : k + 5 ≤ 2562) : wpX_extract (fun r u' => wpY_extract (fun r' v' => r' = r ∧ i_Rel (k + 5) u' v') v) u := by
  obtain ⟨mn, mb, L, c0, c, fe, ct, kd, pr, nm, md, my, sz, tg, dt, ar, P0, P, ⟨fp, fn, ft, pa, rfl⟩, ⟨yc, yo, yb, sc, st, rfl⟩, hmn, hmb, hL, hc0, hc, J, hb⟩ := I
  refine nm_e ⟨mb + 1, ?_⟩
  refine ta_ext (GoalY := fun postY => wpY_extract postY (nI mn, nI mb, nI L, fe, yc, yo, yb, ct, kd, pr, nm, my, tg, sz, dt, ar, sc, st)) hmn hmb hL hc0 hb (mb + 1) 0 0 0 _ kd pr nm md my sz tg dt P fp fn ft pa 0 (-1) (Nat.zero_le _) (Nat.le_refl _) (by omega) (Nat.zero_le _) (ta_I_0 J) (fun postY hY => nm_e ⟨mb + 1, hY sc st⟩)
theorem i_vc_create {k : Nat} {u : SX} {v : SY} (I : i_Rel k u v) (hk : k + 5 ≤ 2562) : wpX_create (fun r u' => wpY_create (fun r' v' => r' = r ∧ i_Rel (k + 5) u' v') v) u := by
  obtain ⟨mn, mb, L, c0, c, fe, ct, kd, pr, nm, md, my, sz, tg, dt, ar, P0, P, ⟨fp, fn, ft, pa, rfl⟩, ⟨yc, yo, yb, sc, st, rfl⟩, hmn, hmb, hL, hc0, hc, J, hb⟩ := I
  have J' := J
  obtain ⟨i1, i2, i3, i4, i5, i6, i7, i8, i9⟩ := J
  have T := ta_Tr_res i3
  have hm : ∀ i, i < c0 → (kd i = 2 → md i = 0) ∧ (kd i ≠ 2 → my i = md i) := fun i hi => ⟨i7 i hi, fun q => (i8 i q).symm⟩
  have hPb : ∀ i x, x ∈ (fun i => if i < c0 then P0 i else []) i → ta_by x := by
    intro i x hx
    by_cases z : i < c0
    · have hx : x ∈ (if i < c0 then P0 i else []) := hx
      rw [if_pos z] at hx
      rcases ta_P_ch i3 i z x hx with e | e
      · rw [e]; exact ta_by_n (n := 47) (by omega)
      · exact ta_by_nc e
    · have hx : x ∈ (if i < c0 then P0 i else []) := hx
      rw [if_neg z] at hx
      exact absurd hx List.not_mem_nil
  have hz : ∀ j, ta_by (ta_cz ar 768 j) := by
    intro j
    unfold ta_cz
    by_cases z : j < 768
    · rw [if_pos z]; exact ta_by_n (n := 0) (by omega)
    · rw [if_neg z]; exact hb j
  refine xa_create T (by omega) i5 i1 hmb (fun f w pa' => ?_) (fun f w pa' => ?_) (fun f pa' => ?_)
  · refine ya_create T (by omega) i5 i1 hm hmb (fun f' w' yc' sc' st' => ⟨rfl, ?_⟩) (fun f' w' => by omega) (fun f' => absurd f f')
    exact ⟨mn, mb, _, c0, c, fe, ct, kd, pr, nm, md, my, sz, tg, dt, _, P0, P, ⟨_, _, _, _, rfl⟩, ⟨_, _, _, _, _, rfl⟩, hmn, hmb, by omega, hc0, hc, J', ta_cr_by hz i9 hPb c0⟩
  · refine ya_create T (by omega) i5 i1 hm hmb (fun f' w' => by omega) (fun f' w' yc' sc' st' => ⟨rfl, ?_⟩) (fun f' => absurd f f')
    exact ⟨mn, mb, L, c0, c, fe, ct, kd, pr, nm, md, my, sz, tg, dt, ar, P0, P, ⟨_, _, _, _, rfl⟩, ⟨_, _, _, _, _, rfl⟩, hmn, hmb, hL, hc0, hc, J', hb⟩
  · refine ya_create T (by omega) i5 i1 hm hmb (fun f' => absurd f' f) (fun f' => absurd f' f) (fun f' yc' sc' st' => ⟨rfl, ?_⟩)
    exact ⟨mn, mb, L, c0, c, fe, ct, kd, pr, nm, md, my, sz, tg, dt, ar, P0, P, ⟨_, _, _, _, rfl⟩, ⟨_, _, _, _, _, rfl⟩, hmn, hmb, hL, hc0, hc, J', hb⟩
