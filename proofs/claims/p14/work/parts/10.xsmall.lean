/-! 10: the component's small methods -/
theorem xa_clamp {post : Int32 → Prop} {p : Int32} (a b : Nat) (hab : a ≤ b) (hb : b < 2 ^ 31) (h : ∀ n, a ≤ n → n ≤ b → (p < nI a → n = a) → (¬ p < nI a → p ≤ nI b → p = nI n) → (¬ p ≤ nI b → n = b) → post (nI n)) : wpX_clamp post () p (nI a) (nI b) := by
  refine br_c (fun z => br_c (fun w => ?_) (fun w => ?_)) (fun z => ?_)
  · have h0 : ¬ p < 0 := fun y => Int32.not_lt.mpr z (Int32.lt_of_lt_of_le y (nI_pos' (by omega)))
    obtain ⟨j, hj, rfl⟩ := nI_of h0
    have g1 := (nI_leI (by omega) hj).mp z
    have g2 := (nI_leI hj hb).mp w
    exact h j g1 g2 (fun y => absurd y (nI_nlt g1 hj)) (fun _ _ => rfl) (fun y => absurd w y)
  · exact h b hab (Nat.le_refl _) (fun y => absurd y (Int32.not_lt.mpr z)) (fun _ y => absurd y w) (fun _ => rfl)
  · refine h a (Nat.le_refl _) hab (fun _ => rfl) (fun y => absurd (Int32.not_le.mp z) y) (fun y => ?_)
    exact absurd (Int32.le_trans (Int32.le_of_lt (Int32.not_le.mp z)) (nI_le hab hb)) y
theorem xa_nl {post : Int32 → Prop} {v : Int32} (h : post (nI (ta_l v))) : ∀ d k, k ≤ ta_l v → ta_l v < k + d → wX_nameLength_2 post v d (nI k) := by
  obtain ⟨s1, s2, s3⟩ := ta_l_spec v
  intro d
  induction d with
  | zero => intro k h1 h2; omega
  | succ d ih =>
    intro k h1 h2
    refine pk_le 4 k (fun g => ?_) (fun g => ?_)
    · have : k = ta_l v := by omega
      rw [this]; exact h
    · refine br_c (fun z => ?_) (fun z => ?_)
      · have : k = ta_l v := by
          rcases Nat.lt_or_ge k (ta_l v) with y | y
          · exact absurd z (s2 k y)
          · omega
        rw [this]; exact h
      · have : k < ta_l v := by
          rcases Nat.lt_or_ge k (ta_l v) with y | y
          · exact y
          · have e : k = ta_l v := by omega
            have f := s3 (by omega)
            rw [← e] at f
            exact absurd f z
        exact nm_r (nI_1 k) (ih (k + 1) (by omega) (by omega))
theorem xa_nameLength {post : Int32 → Prop} {v : Int32} (h : post (nI (ta_l v))) : wpX_nameLength post () v :=
  ⟨5, xa_nl h 5 0 (Nat.zero_le _) (by have := (ta_l_spec v).1; omega)⟩
theorem xa_isNameChar {post : Int32 → Prop} {c : Int32} (h1 : ta_nc c → post 1) (h0 : ¬ ta_nc c → post 0) : wpX_isNameChar post () c := by
  have B : ¬ (97 ≤ c ∧ c ≤ 122) → ¬ (48 ≤ c ∧ c ≤ 57) → wX_isNameChar_24 post c := fun x y =>
    br_c (fun z => h1 (Or.inr (Or.inr z))) (fun z => h0 (fun w => w.elim x (fun w => w.elim y z)))
  have A : ¬ (97 ≤ c ∧ c ≤ 122) → wX_isNameChar_12 post c := fun x =>
    br_c (fun z => B x (fun w => Int32.not_lt.mpr w.1 z)) (fun z => br_c (fun w => h1 (Or.inr (Or.inl ⟨Int32.not_lt.mp z, w⟩))) (fun w => B x (fun y => w y.2)))
  exact br_c (fun z => A (fun w => Int32.not_lt.mpr w.1 z)) (fun z => br_c (fun w => h1 (Or.inl ⟨Int32.not_lt.mp z, w⟩)) (fun w => A (fun y => w y.2)))
theorem xa_v35 {post : Int32 → Prop} {v : Int32} (h1 : ta_V v → post 1) (h0 : ¬ ta_V v → post 0) (hn : ∀ j, j < ta_l v → ta_nc (ta_b v j)) : ∀ d k, ta_l v ≤ k → k ≤ 4 → 4 < k + d → (∀ j, ta_l v ≤ j → j < k → ta_b v j = 0) → wX_isValidName_35 post v (nI (ta_l v)) d (nI k) := by
  have s1 := (ta_l_spec v).1
  intro d
  induction d with
  | zero => intro k _ _ g; omega
  | succ d ih =>
    intro k g1 g2 g3 g4
    refine pk_le 4 k (fun g => ?_) (fun g => ?_)
    · exact pk_lt (ta_l v) 1 (fun y => h0 (fun w => by have := w.1; omega)) (fun y => h1 ⟨y, hn, fun j a b => g4 j a (by omega)⟩)
    · refine br_c (fun z => ?_) (fun z => ?_)
      · refine nm_r (nI_1 k) (ih (k + 1) (by omega) (by omega) (by omega) (fun j a b => ?_))
        rcases Nat.lt_or_ge j k with y | y
        · exact g4 j a y
        · rw [show j = k by omega]; exact z
      · exact h0 (fun w => z (w.2.2 k g1 (by omega)))
theorem xa_v7 {post : Int32 → Prop} {v : Int32} (h1 : ta_V v → post 1) (h0 : ¬ ta_V v → post 0) : ∀ d k, k ≤ ta_l v → ta_l v < k + d → (∀ j, j < k → ta_nc (ta_b v j)) → wX_isValidName_7 post v (nI (ta_l v)) d (nI k) := by
  have s1 := (ta_l_spec v).1
  intro d
  induction d with
  | zero => intro k _ g; omega
  | succ d ih =>
    intro k g1 g2 g3
    refine pk_le (ta_l v) k (fun g => ?_) (fun g => ?_)
    · have e : k = ta_l v := by omega
      rw [e] at g3
      exact ⟨5, xa_v35 h1 h0 g3 5 (ta_l v) (Nat.le_refl _) s1 (by omega) (fun j a b => by omega)⟩
    · refine xa_isNameChar (fun z => br_f (by decide) ?_) (fun z => br_t rfl ?_)
      · refine nm_r (nI_1 k) (ih (k + 1) (by omega) (by omega) (fun j a => ?_))
        rcases Nat.lt_or_ge j k with y | y
        · exact g3 j y
        · rw [show j = k by omega]; exact z
      · exact h0 (fun w => z (w.2.1 k g))
theorem xa_isValidName {post : Int32 → Prop} {v : Int32} (h1 : ta_V v → post 1) (h0 : ¬ ta_V v → post 0) : wpX_isValidName post () v :=
  xa_nameLength ⟨5, xa_v7 h1 h0 5 0 (Nat.zero_le _) (by have := (ta_l_spec v).1; omega) (fun j a => by omega)⟩
theorem ta_ix (t j : Nat) : nI t * 8 + nI j = nI (8 * t + j) := by
  rw [show (8 : Int32) = nI 8 from rfl, pk_mul, nI_add, Nat.mul_comm]
section
variable {fa fb fl fe fp fn ft : Int32} {ct kd pr nm md sz tg dt ar pa : Nat → Int32}
theorem xa_isNode {post : Int32 → Prop} {t c : Nat} {i : Int32} (ht : t < 2) (hc : ct t = nI c) (hcc : c ≤ 8) (h1 : ∀ j, j < c → i = nI j → post 1) (h0 : (∀ j, j < c → i ≠ nI j) → post 0) :
    wpX_isNode post (fa, fb, fl, fe, fp, fn, ft, ct, kd, pr, nm, md, sz, tg, dt, ar, pa) (nI t) i := by
  refine br_c (fun z => h0 (fun j hj e => ?_)) (fun z => ⟨vp_in_nI ht (by omega), ?_⟩)
  · rw [e] at z; exact nI_pos (by omega) z
  · obtain ⟨j, hj, rfl⟩ := nI_of z
    have e : ct (nI t).toNatClampNeg = nI c := by rw [nI_clamp (by omega)]; exact hc
    exact pk_le c j (fun g => h0 (fun q hq f => by have := (nI_eq hj (by omega)).mp f; omega)) (fun g => h1 j g rfl) (hx := e)
theorem xa_isDir {post : Int32 → Prop} {t c : Nat} {i : Int32} (ht : t < 2) (hc : ct t = nI c) (hcc : c ≤ 8) (h1 : ∀ j, j < c → i = nI j → kd (8 * t + j) = 3 → post 1) (h0 : (∀ j, j < c → i = nI j → kd (8 * t + j) ≠ 3) → post 0) :
    wpX_isDir post (fa, fb, fl, fe, fp, fn, ft, ct, kd, pr, nm, md, sz, tg, dt, ar, pa) (nI t) i := by
  unfold wpX_isDir
  refine xa_isNode ht hc hcc (fun j hj e => br_f (by decide) ?_) (fun g => br_t rfl (h0 (fun j hj e => absurd e (g j hj))))
  subst e
  have e1 : (nI t * 8 + nI j).toNatClampNeg = 8 * t + j := by rw [ta_ix, nI_clamp (by omega)]
  refine ⟨by rw [ta_ix]; exact vp_in_nI (by omega) (by omega), ?_⟩
  rw [e1]
  refine br_c (fun z => h1 j hj rfl z) (fun z => h0 (fun q hq f => ?_))
  have : j = q := (nI_eq (by omega) (by omega)).mp f
  rw [← this]; exact z
theorem xa_fileBehind {post : Int32 → Prop} {t c : Nat} {i : Int32} (ht : t < 2) (hc : ct t = nI c) (hcc : c ≤ 8) (h2 : ∀ j, j < c → i = nI j → kd (8 * t + j) ≠ 3 → kd (8 * t + j) = 2 → post (tg (8 * t + j)))
    (h1 : ∀ j, j < c → i = nI j → kd (8 * t + j) ≠ 3 → kd (8 * t + j) ≠ 2 → post (nI j)) (h0 : (∀ j, j < c → i = nI j → kd (8 * t + j) = 3) → post (-2)) :
    wpX_fileBehind post (fa, fb, fl, fe, fp, fn, ft, ct, kd, pr, nm, md, sz, tg, dt, ar, pa) (nI t) i := by
  unfold wpX_fileBehind
  refine xa_isNode ht hc hcc (fun j hj e => br_f (by decide) ?_) (fun g => br_t rfl (h0 (fun j hj e => absurd e (g j hj))))
  refine xa_isDir ht hc hcc (fun q hq f k => br_f (by decide) (h0 (fun q' hq' f' => ?_))) (fun g => br_t rfl ?_)
  · have : q = q' := (nI_eq (by omega) (by omega)).mp (f.symm.trans f')
    rw [← this]; exact k
  · subst e
    refine nm_r (ta_ix t j) ⟨vp_in_nI (by omega) (by omega), ?_⟩
    rw [nI_clamp (by omega)]
    exact br_c (fun z => ⟨vp_in_nI (by omega) (by omega), h2 j hj rfl (g j hj rfl) z⟩) (fun z => h1 j hj rfl (g j hj rfl) z)
/-- the first child of that name, or none -/
theorem xa_fc {post : Int32 → Prop} {t c : Nat} {p v : Int32} (ht : t < 2) (hc : ct t = nI c) (hcc : c ≤ 8) (h1 : ∀ j, j < c → pr (8 * t + j) = p → nm (8 * t + j) = v → post (nI j)) (h0 : (∀ j, j < c → pr (8 * t + j) = p → nm (8 * t + j) = v → False) → post (-2)) :
    ∀ d k, k ≤ c → c < k + d → (∀ j, j < k → pr (8 * t + j) = p → nm (8 * t + j) = v → False) → wX_findChild_9 post (nI t) p v (nI (8 * t)) fa fb fl fe fp fn ft ct kd pr nm md sz tg dt ar pa d (nI k) := by
  intro d
  induction d with
  | zero => intro k _ g; omega
  | succ d ih =>
    intro k g1 g2 g3
    have e : ct (nI t).toNatClampNeg = nI c := by rw [nI_clamp (by omega)]; exact hc
    refine ⟨vp_in_nI ht (by omega), pk_le c k (fun g => h0 (fun j hj => g3 j (by omega))) (fun g => ?_) (hx := e)⟩
    have ei : nI (8 * t) + nI k = nI (8 * t + k) := nI_add _ _
    have ec : (nI (8 * t) + nI k).toNatClampNeg = 8 * t + k := by rw [ei, nI_clamp (by omega)]
    have iv : vp_in (nI (8 * t) + nI k) 16 := by rw [ei]; exact vp_in_nI (by omega) (by omega)
    refine ⟨iv, ?_⟩
    rw [ec]
    refine br_c (fun z => ⟨iv, br_c (fun w => h1 k g z w) (fun w => nm_r (nI_1 k) (ih (k + 1) (by omega) (by omega) (fun j hj => ?_)))⟩) (fun z => nm_r (nI_1 k) (ih (k + 1) (by omega) (by omega) (fun j hj => ?_)))
    · rcases Nat.lt_or_ge j k with y | y
      · exact g3 j y
      · rw [show j = k by omega]; exact fun _ x => w x
    · rcases Nat.lt_or_ge j k with y | y
      · exact g3 j y
      · rw [show j = k by omega]; exact fun x _ => z x
theorem xa_findChild {post : Int32 → Prop} {t c : Nat} {p v : Int32} (ht : t < 2) (hc : ct t = nI c) (hcc : c ≤ 8) (h1 : ∀ j, j < c → pr (8 * t + j) = p → nm (8 * t + j) = v → post (nI j)) (h0 : (∀ j, j < c → pr (8 * t + j) = p → nm (8 * t + j) = v → False) → post (-2)) :
    wpX_findChild post (fa, fb, fl, fe, fp, fn, ft, ct, kd, pr, nm, md, sz, tg, dt, ar, pa) (nI t) p v := by
  refine nm_r (e' := nI (8 * t)) (by rw [show (8 : Int32) = nI 8 from rfl, pk_mul, Nat.mul_comm]) ?_
  exact ⟨c + 1, xa_fc ht hc hcc h1 h0 (c + 1) 0 (Nat.zero_le _) (by omega) (fun j hj => by omega)⟩
theorem xa_putNode {post : St2 → Prop} {t c : Nat} {p1 p2 p3 p4 p5 : Int32} (ht : t < 2) (hc : ct t = nI c) (hcc : c < 8)
    (h : post (fa, fb, fl, fe, fp, fn, ft, upd ct t (nI (c + 1)), upd kd (8 * t + c) p1, upd pr (8 * t + c) p2, upd nm (8 * t + c) p3, upd md (8 * t + c) p4, upd sz (8 * t + c) 0, upd tg (8 * t + c) p5, dt, ar, pa)) :
    wpX_putNode post (fa, fb, fl, fe, fp, fn, ft, ct, kd, pr, nm, md, sz, tg, dt, ar, pa) (nI t) p1 p2 p3 p4 p5 := by
  have et : (nI t).toNatClampNeg = t := nI_clamp (by omega)
  have e : ct (nI t).toNatClampNeg = nI c := by rw [et]; exact hc
  have i2 : vp_in (nI t) 2 := vp_in_nI ht (by omega)
  have i16 : vp_in (nI (8 * t + c)) 16 := vp_in_nI (by omega) (by omega)
  have en : (nI (8 * t + c)).toNatClampNeg = 8 * t + c := nI_clamp (by omega)
  refine ⟨i2, nm_r (e' := nI (8 * t + c)) (by rw [e, ta_ix]) ⟨i16, nm_r (by rw [en]) ⟨i16, nm_r (by rw [en]) ⟨i16, nm_r (by rw [en]) ⟨i16, nm_r (by rw [en]) ⟨i16, nm_r (by rw [en]) ⟨i16, nm_r (by rw [en]) ⟨i2, i2, nm_r (e' := upd ct t (nI (c + 1))) (by rw [e, nI_1, et]) h⟩⟩⟩⟩⟩⟩⟩⟩
end
