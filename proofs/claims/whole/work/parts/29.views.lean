/-! 29: the getters and the archive's bytes -/
theorem i_vc_errorBlock {k : Nat} {u : SX} {v : SY} (I : i_Rel k u v) (hk : k + 5 ≤ 2562) : wpX_errorBlock (fun r => wpY_errorBlock (fun r' => r' = r ∧ i_Rel (k + 5) u v) v) u := by
  have I' := I
  obtain ⟨mn, mb, L, c0, c, fe, ct, kd, pr, nm, md, my, sz, tg, dt, ar, P0, P, ⟨fp, fn, ft, pa, rfl⟩, ⟨yc, yo, yb, sc, st, rfl⟩, hmn, hmb, hL, hc0, hc, J, hb⟩ := I
  exact ⟨rfl, I'⟩
theorem i_vc_archiveLength {k : Nat} {u : SX} {v : SY} (I : i_Rel k u v) (hk : k + 5 ≤ 2562) : wpX_archiveLength (fun r => wpY_archiveLength (fun r' => r' = r ∧ i_Rel (k + 5) u v) v) u := by
  have I' := I
  obtain ⟨mn, mb, L, c0, c, fe, ct, kd, pr, nm, md, my, sz, tg, dt, ar, P0, P, ⟨fp, fn, ft, pa, rfl⟩, ⟨yc, yo, yb, sc, st, rfl⟩, hmn, hmb, hL, hc0, hc, J, hb⟩ := I
  exact ⟨rfl, I'⟩
theorem i_vc_archiveByte {k : Nat} {u : SX} {v : SY} (I : i_Rel k u v) (hk : k + 5 ≤ 2562) (v1 : Int32) : wpX_archiveByte (fun r => wpY_archiveByte (fun r' => r' = r ∧ i_Rel (k + 5) u v) v v1) u v1 := by
  have I' := I
  obtain ⟨mn, mb, L, c0, c, fe, ct, kd, pr, nm, md, my, sz, tg, dt, ar, P0, P, ⟨fp, fn, ft, pa, rfl⟩, ⟨yc, yo, yb, sc, st, rfl⟩, hmn, hmb, hL, hc0, hc, J, hb⟩ := I
  refine br_c (fun z => br_t z ⟨rfl, I'⟩) (fun z => br_c (fun w => ?_) (fun w => br_f z (br_f w ⟨rfl, I'⟩)))
  obtain ⟨j, hj, rfl⟩ := nI_of z
  have hj2 := (nI_ltI hj (by omega)).mp w
  have iv : vp_in (nI j) 768 := vp_in_nI (by omega) (by omega)
  exact ⟨iv, br_f z (br_t w ⟨iv, rfl, I'⟩)⟩
theorem xa_isByte {post : Int32 → Prop} {x : Int32} (h1 : ¬ x < 0 → x ≤ 255 → ta_by x → post 1) (h0 : (x < 0 ∨ (¬ x < 0 ∧ ¬ x ≤ 255)) → post 0) : wpX_isByte post x := by
  refine br_c (fun z => h0 (Or.inl z)) (fun z => br_c (fun w => h0 (Or.inr ⟨z, Int32.not_le.mpr w⟩)) (fun w => ?_))
  obtain ⟨j, hj, rfl⟩ := nI_of z
  have hl := Int32.not_lt.mp w
  have := (nI_leI (b := 255) hj (by decide)).mp hl
  exact h1 z hl ⟨j, by omega, rfl⟩
theorem i_vc_pokeArchive {k : Nat} {u : SX} {v : SY} (I : i_Rel k u v) (hk : k + 5 ≤ 2562) (v1 : Int32) (v2 : Int32) : wpX_pokeArchive (fun r u' => wpY_pokeArchive (fun r' v' => r' = r ∧ i_Rel (k + 5) u' v') v v1 v2) u v1 v2 := by
  have I' := I
  obtain ⟨mn, mb, L, c0, c, fe, ct, kd, pr, nm, md, my, sz, tg, dt, ar, P0, P, ⟨fp, fn, ft, pa, rfl⟩, ⟨yc, yo, yb, sc, st, rfl⟩, hmn, hmb, hL, hc0, hc, J, hb⟩ := I
  refine br_c (fun z => br_t z ⟨rfl, I'⟩) (fun z => br_c (fun w => br_f z (br_t w ⟨rfl, I'⟩)) (fun w => ?_))
  obtain ⟨j, hj, rfl⟩ := nI_of z
  have hj2 : j < L := by
    rcases Nat.lt_or_ge j L with y | y
    · exact y
    · exact absurd (nI_le y hj) w
  have iv : vp_in (nI j) 768 := vp_in_nI (by omega) (by omega)
  have en : (nI j).toNatClampNeg = j := nI_clamp hj
  refine xa_isByte (fun b0 b1 b2 => br_f (by decide) ⟨iv, nm_r (by rw [en]) ⟨iv, nm_r (by rw [en]) ?_⟩⟩) (fun q => br_t rfl ?_)
  · refine br_f z (br_f w (br_f b0 (br_t b1 ⟨iv, nm_r (by rw [en]) ⟨iv, nm_r (by rw [en]) ⟨rfl, ?_⟩⟩⟩)))
    exact ⟨mn, mb, L, c0, c, fe, ct, kd, pr, nm, md, my, sz, tg, dt, _, P0, P, ⟨_, _, _, _, rfl⟩, ⟨_, _, _, _, _, rfl⟩, hmn, hmb, hL, hc0, hc, J, ta_upd_by hb b2⟩
  · rcases q with q | ⟨q, q2⟩
    · exact br_f z (br_f w (br_t q ⟨rfl, I'⟩))
    · exact br_f z (br_f w (br_f q (br_f q2 ⟨rfl, I'⟩)))
theorem i_vc_truncateArchive {k : Nat} {u : SX} {v : SY} (I : i_Rel k u v) (hk : k + 5 ≤ 2562) (v1 : Int32) : wpX_truncateArchive (fun r u' => wpY_truncateArchive (fun r' v' => r' = r ∧ i_Rel (k + 5) u' v') v v1) u v1 := by
  have I' := I
  obtain ⟨mn, mb, L, c0, c, fe, ct, kd, pr, nm, md, my, sz, tg, dt, ar, P0, P, ⟨fp, fn, ft, pa, rfl⟩, ⟨yc, yo, yb, sc, st, rfl⟩, hmn, hmb, hL, hc0, hc, J, hb⟩ := I
  refine br_c (fun z => br_t z ⟨rfl, I'⟩) (fun z => br_c (fun w => ?_) (fun w => br_f z (br_f w ⟨rfl, I'⟩)))
  obtain ⟨j, hj, rfl⟩ := nI_of z
  have hj2 := (nI_leI hj (by omega)).mp w
  exact br_f z (br_t w ⟨rfl, mn, mb, j, c0, c, fe, ct, kd, pr, nm, md, my, sz, tg, dt, ar, P0, P, ⟨_, _, _, _, rfl⟩, ⟨_, _, _, _, _, rfl⟩, hmn, hmb, by omega, hc0, hc, J, hb⟩)
theorem i_vc_appendArchive {k : Nat} {u : SX} {v : SY} (I : i_Rel k u v) (hk : k + 5 ≤ 2562) (v1 : Int32) : wpX_appendArchive (fun r u' => wpY_appendArchive (fun r' v' => r' = r ∧ i_Rel (k + 5) u' v') v v1) u v1 := by
  have I' := I
  obtain ⟨mn, mb, L, c0, c, fe, ct, kd, pr, nm, md, my, sz, tg, dt, ar, P0, P, ⟨fp, fn, ft, pa, rfl⟩, ⟨yc, yo, yb, sc, st, rfl⟩, hmn, hmb, hL, hc0, hc, J, hb⟩ := I
  have e1 : nI mb * 64 = nI (64 * mb) := by rw [show (64 : Int32) = nI 64 from rfl, pk_mul, Nat.mul_comm]
  have e2 : 64 * nI mb = nI (64 * mb) := by rw [show (64 : Int32) = nI 64 from rfl, pk_mul]
  unfold wpX_appendArchive
  refine xa_isByte (fun b0 b1 b2 => br_f (by decide) ?_) (fun q => br_t rfl ?_)
  · refine pk_lt L (64 * mb) (fun w => ⟨vp_in_nI (by omega) (by omega), nm_r (by rw [nI_clamp (by omega)]) (nm_r (nI_1 L) ?_)⟩) (fun w => ?_) (hy := e1)
    · refine br_f b0 (br_t b1 (pk_lt L (64 * mb) (fun _ => ⟨vp_in_nI (by omega) (by omega), nm_r (by rw [nI_clamp (by omega)]) (nm_r (nI_1 L) ⟨rfl, ?_⟩)⟩) (fun y => by omega) (hy := e2)))
      exact ⟨mn, mb, L + 1, c0, c, fe, ct, kd, pr, nm, md, my, sz, tg, dt, _, P0, P, ⟨_, _, _, _, rfl⟩, ⟨_, _, _, _, _, rfl⟩, hmn, hmb, by omega, hc0, hc, J, ta_upd_by hb b2⟩
    · exact br_f b0 (br_t b1 (pk_lt L (64 * mb) (fun y => by omega) (fun _ => ⟨rfl, I'⟩) (hy := e2)))
  · rcases q with q | ⟨q, q2⟩
    · exact br_t q ⟨rfl, I'⟩
    · exact br_f q (br_f q2 ⟨rfl, I'⟩)
theorem i_vc_nodeCount {k : Nat} {u : SX} {v : SY} (I : i_Rel k u v) (hk : k + 5 ≤ 2562) (v1 : Int32) : wpX_nodeCount (fun r => wpY_nodeCount (fun r' => r' = r ∧ i_Rel (k + 5) u v) v v1) u v1 := by
  have I' := I
  obtain ⟨mn, mb, L, c0, c, fe, ct, kd, pr, nm, md, my, sz, tg, dt, ar, P0, P, ⟨fp, fn, ft, pa, rfl⟩, ⟨yc, yo, yb, sc, st, rfl⟩, hmn, hmb, hL, hc0, hc, J, hb⟩ := I
  unfold wpX_nodeCount
  have iv : ∀ t : Nat, t < 2 → vp_in (nI t) 2 := fun t ht => vp_in_nI ht (by omega)
  refine br_c (fun z => ?_) (fun z => br_c (fun w => ?_) (fun w => ?_))
  · subst z
    exact br_f (by decide) ⟨iv 0 (by omega), br_t rfl ⟨iv 0 (by omega), rfl, I'⟩⟩
  · subst w
    exact br_f (by decide) ⟨iv 1 (by omega), br_f (by decide) (br_t rfl ⟨iv 1 (by omega), rfl, I'⟩)⟩
  · exact br_t rfl (br_f z (br_f w ⟨rfl, I'⟩))
section
variable {fa fb fl fe fp fn ft yc yo yb : Int32} {ct kd pr nm md my sz tg dt ar pa sc st : Nat → Int32} {c t : Nat}
theorem xa_contentSlot {post : Int32 → Prop} {i : Nat} (ht : t < 2) (hc : c ≤ 8) (X : ∀ i, i < c → ta_Nx (8 * t) kd sz tg i) (hi : i < c) (h2 : ∀ q, q < i → kd (8 * t + i) = 2 → tg (8 * t + i) = nI q → kd (8 * t + q) = 1 → post (nI (8 * t + q))) (h1 : kd (8 * t + i) ≠ 2 → post (nI (8 * t + i))) :
    wpX_contentSlot post (fa, fb, fl, fe, fp, fn, ft, ct, kd, pr, nm, md, sz, tg, dt, ar, pa) (nI t) (nI i) := by
  have iv : vp_in (nI (8 * t + i)) 16 := vp_in_nI (by omega) (by omega)
  refine nm_r (ta_ix t i) ⟨iv, ?_⟩
  rw [nI_clamp (by omega)]
  refine br_c (fun k2 => ⟨iv, ?_⟩) (fun k2 => h1 k2)
  obtain ⟨q, q1, q2, q3⟩ := (X i hi).2.1 k2
  rw [q2, ta_ix]
  exact h2 q q1 k2 q2 q3
theorem xa_isTree {post : Int32 → Prop} (ht : t < 2) (h : post 1) : wpX_isTree post (nI t) := by
  rcases (show t = 0 ∨ t = 1 by omega) with rfl | rfl
  · exact br_t rfl h
  · exact br_f (by decide) (br_t rfl h)
theorem ya_tree {A B : Prop} (ht : t < 2) (h : A) : (nI t = 0 → A) ∧ (¬ nI t = 0 → ((nI t = 1 → A) ∧ (¬ nI t = 1 → B))) := by
  rcases (show t = 0 ∨ t = 1 by omega) with rfl | rfl
  · exact br_t rfl h
  · exact br_f (by decide) (br_t rfl h)
/-- the slot that holds a node's mode, size and bytes -/
theorem ta_own {i : Nat} (hc : c ≤ 8) (X : ∀ i, i < c → ta_Nx (8 * t) kd sz tg i) (hi : i < c) : ∃ f, f < c ∧ kd (8 * t + f) ≠ 2 ∧ ((kd (8 * t + i) = 2 ∧ tg (8 * t + i) = nI f) ∨ (kd (8 * t + i) ≠ 2 ∧ f = i)) ∧ (kd (8 * t + i) = 3 → sz (8 * t + f) = 0) := by
  have hX := X i hi
  by_cases k2 : kd (8 * t + i) = 2
  · obtain ⟨q, q1, q2, q3⟩ := hX.2.1 k2
    exact ⟨q, by omega, by rw [q3]; decide, Or.inl ⟨k2, q2⟩, fun k3 => absurd (k2.symm.trans k3) (by decide)⟩
  · exact ⟨i, hi, k2, Or.inr ⟨k2, rfl⟩, fun k3 => hX.2.2.2 (by rw [k3]; decide)⟩
theorem xa_cs {i f : Nat} (ht : t < 2) (hc : c ≤ 8) (X : ∀ i, i < c → ta_Nx (8 * t) kd sz tg i) (hi : i < c) (hf : f < c) (hf3 : (kd (8 * t + i) = 2 ∧ tg (8 * t + i) = nI f) ∨ (kd (8 * t + i) ≠ 2 ∧ f = i)) {post : Int32 → Prop} (h : post (nI (8 * t + f))) :
    wpX_contentSlot post (fa, fb, fl, fe, fp, fn, ft, ct, kd, pr, nm, md, sz, tg, dt, ar, pa) (nI t) (nI i) := by
  refine xa_contentSlot ht hc X hi (fun q q1 k2 q2 q3 => ?_) (fun k2 => ?_)
  · rcases hf3 with ⟨_, e⟩ | ⟨n2, _⟩
    · have : q = f := (nI_eq (by omega) (by omega)).mp (q2.symm.trans e)
      rw [this]; exact h
    · exact absurd k2 n2
  · rcases hf3 with ⟨k2', _⟩ | ⟨_, e⟩
    · exact absurd k2' k2
    · rw [← e]; exact h
/-- one answer, and both walk to it -/
theorem ta_info (ht : t < 2) (hct : ct t = nI c) (hc : c ≤ 8) (X : ∀ i, i < c → ta_Nx (8 * t) kd sz tg i) (hm : ∀ j, kd j ≠ 2 → md j = my j) (p1 p2 : Int32) : ∃ r : Int32,
    (∀ post : Int32 → Prop, post r → wpX_nodeInfo post (fa, fb, fl, fe, fp, fn, ft, ct, kd, pr, nm, md, sz, tg, dt, ar, pa) (nI t) p1 p2) ∧
    (∀ post : Int32 → Prop, post r → wpY_nodeInfo post (fa, fb, fl, fe, yc, yo, yb, ct, kd, pr, nm, my, tg, sz, dt, ar, sc, st) (nI t) p1 p2) := by
  have ect : ct (nI t).toNatClampNeg = nI c := by rw [nI_clamp (by omega)]; exact hct
  have it : vp_in (nI t) 2 := vp_in_nI ht (by omega)
  rcases pk_ix p1 (n := c) (by omega) with hp | hp | ⟨i, hi, rfl⟩
  · refine ⟨-2, fun post h => ?_, fun post h => ya_tree ht (br_t hp h)⟩
    unfold wpX_nodeInfo
    refine xa_isTree ht (br_f (by decide) ?_)
    exact xa_isNode ht hct hc (fun j hj e => absurd hp (by rw [e]; exact nI_pos (by omega))) (fun _ => br_t rfl h)
  · have h0 : ¬ p1 < 0 := Int32.not_lt.mpr (Int32.le_trans (nI_pos' (by omega)) hp)
    refine ⟨-2, fun post h => ?_, fun post h => ya_tree ht (br_f h0 ⟨it, br_t (by rw [ect]; exact hp) h⟩)⟩
    unfold wpX_nodeInfo
    refine xa_isTree ht (br_f (by decide) ?_)
    exact xa_isNode ht hct hc (fun j hj e => absurd hp (by rw [e]; exact nI_ge hj (by omega))) (fun _ => br_t rfl h)
  · have h0 : ¬ nI i < 0 := nI_pos (by omega)
    have hci : ¬ ct (nI t).toNatClampNeg ≤ nI i := by rw [ect]; exact nI_ge hi (by omega)
    have e8 : (nI t * 8) + nI i = nI (8 * t + i) := ta_ix t i
    have iv : vp_in (nI (8 * t + i)) 16 := vp_in_nI (by omega) (by omega)
    have en : (nI (8 * t + i)).toNatClampNeg = 8 * t + i := nI_clamp (by omega)
    obtain ⟨f, hf, hf2, hf3, hf4⟩ := ta_own hc X hi
    have ivf : vp_in (nI (8 * t + f)) 16 := vp_in_nI (by omega) (by omega)
    have enf : (nI (8 * t + f)).toNatClampNeg = 8 * t + f := nI_clamp (by omega)
    have WX : ∀ post : Int32 → Prop, ((p2 < 0 → post (-2)) ∧ (¬ p2 < 0 → ((5 < p2 → post (-2)) ∧ (¬ 5 < p2 → ((p2 = 0 → (vp_in (nI (8 * t + i)) 16 ∧ post (kd (8 * t + i)))) ∧ (¬ p2 = 0 → ((p2 = 1 → (vp_in (nI (8 * t + i)) 16 ∧ post (pr (8 * t + i)))) ∧ (¬ p2 = 1 → ((p2 = 2 → (vp_in (nI (8 * t + i)) 16 ∧ post (nm (8 * t + i)))) ∧ (¬ p2 = 2 → ((p2 = 3 → (vp_in (nI (8 * t + f)) 16 ∧ post (md (8 * t + f)))) ∧ (¬ p2 = 3 → ((p2 = 4 → (vp_in (nI (8 * t + f)) 16 ∧ post (sz (8 * t + f)))) ∧ (¬ p2 = 4 → ((p2 = 5 → (vp_in (nI (8 * t + i)) 16 ∧ post (tg (8 * t + i)))) ∧ (¬ p2 = 5 → True)))))))))))))))) →
        wpX_nodeInfo post (fa, fb, fl, fe, fp, fn, ft, ct, kd, pr, nm, md, sz, tg, dt, ar, pa) (nI t) (nI i) p2 := by
      intro post h
      unfold wpX_nodeInfo
      refine xa_isTree ht (br_f (by decide) ?_)
      refine xa_isNode ht hct hc (fun _ _ _ => br_f (by decide) (nm_r e8 ?_)) (fun n => absurd rfl (n i hi))
      refine xa_cs ht hc X hi hf hf3 ?_
      rw [en, enf]
      exact h
    have CY : ∀ post : Int32 → Prop, ¬ p2 < 0 → p2 ≤ 5 → wY_nodeInfo_74 post p2 (nI (8 * t + i)) (nI (8 * t + f)) fa fb fl fe yc yo yb ct kd pr nm my tg sz dt ar sc st → wpY_nodeInfo post (fa, fb, fl, fe, yc, yo, yb, ct, kd, pr, nm, my, tg, sz, dt, ar, sc, st) (nI t) (nI i) p2 := by
      intro post a0 a5 h
      refine ya_tree ht (br_f h0 ⟨it, br_f hci (br_f a0 (br_t a5 (nm_r e8 ⟨iv, ?_⟩)))⟩)
      rw [en]
      rcases hf3 with ⟨k2, e⟩ | ⟨k2, e⟩
      · refine br_t k2 ⟨iv, ?_⟩
        rw [e, ta_ix]; exact h
      · rw [e] at h
        exact br_f k2 h
    by_cases a0 : p2 < 0
    · exact ⟨-2, fun post h => WX post (br_t a0 h), fun post h => ya_tree ht (br_f h0 ⟨it, br_f hci (br_t a0 h)⟩)⟩
    · by_cases a5 : 5 < p2
      · exact ⟨-2, fun post h => WX post (br_f a0 (br_t a5 h)), fun post h => ya_tree ht (br_f h0 ⟨it, br_f hci (br_f a0 (br_f (Int32.not_le.mpr a5) h))⟩)⟩
      · have a5' := Int32.not_lt.mp a5
        by_cases q0 : p2 = 0
        · exact ⟨kd (8 * t + i), fun post h => WX post (br_f a0 (br_f a5 (br_t q0 ⟨iv, h⟩))), fun post h => CY post a0 a5' (br_t q0 ⟨iv, by rw [en]; exact h⟩)⟩
        · by_cases q1 : p2 = 1
          · exact ⟨pr (8 * t + i), fun post h => WX post (br_f a0 (br_f a5 (br_f q0 (br_t q1 ⟨iv, h⟩)))), fun post h => CY post a0 a5' (br_f q0 (br_t q1 ⟨iv, by rw [en]; exact h⟩))⟩
          · by_cases q2 : p2 = 2
            · exact ⟨nm (8 * t + i), fun post h => WX post (br_f a0 (br_f a5 (br_f q0 (br_f q1 (br_t q2 ⟨iv, h⟩))))), fun post h => CY post a0 a5' (br_f q0 (br_f q1 (br_t q2 ⟨iv, by rw [en]; exact h⟩)))⟩
            · by_cases q3 : p2 = 3
              · exact ⟨md (8 * t + f), fun post h => WX post (br_f a0 (br_f a5 (br_f q0 (br_f q1 (br_f q2 (br_t q3 ⟨ivf, h⟩)))))), fun post h => CY post a0 a5' (br_f q0 (br_f q1 (br_f q2 (br_t q3 ⟨ivf, by rw [enf, ← hm _ hf2]; exact h⟩))))⟩
              · by_cases q4 : p2 = 4
                · refine ⟨sz (8 * t + f), fun post h => WX post (br_f a0 (br_f a5 (br_f q0 (br_f q1 (br_f q2 (br_f q3 (br_t q4 ⟨ivf, h⟩))))))), fun post h => CY post a0 a5' (br_f q0 (br_f q1 (br_f q2 (br_f q3 (br_t q4 ⟨iv, ?_⟩)))))⟩
                  rw [en, enf]
                  refine br_c (fun k3 => ?_) (fun _ => ⟨ivf, h⟩)
                  rw [← hf4 k3]; exact h
                · exact ⟨tg (8 * t + i), fun post h => WX post (br_f a0 (br_f a5 (br_f q0 (br_f q1 (br_f q2 (br_f q3 (br_f q4 (br_c (fun _ => ⟨iv, h⟩) (fun _ => trivial))))))))), fun post h => CY post a0 a5' (br_f q0 (br_f q1 (br_f q2 (br_f q3 (br_f q4 ⟨iv, by rw [en]; exact h⟩)))))⟩
/-- one byte, and both walk to it -/
theorem ta_byte (ht : t < 2) (hct : ct t = nI c) (hc : c ≤ 8) (X : ∀ i, i < c → ta_Nx (8 * t) kd sz tg i) (p1 p2 : Int32) : ∃ r : Int32,
    (∀ post : Int32 → Prop, post r → wpX_nodeByte post (fa, fb, fl, fe, fp, fn, ft, ct, kd, pr, nm, md, sz, tg, dt, ar, pa) (nI t) p1 p2) ∧
    (∀ post : Int32 → Prop, post r → wpY_nodeByte post (fa, fb, fl, fe, yc, yo, yb, ct, kd, pr, nm, my, tg, sz, dt, ar, sc, st) (nI t) p1 p2) := by
  have ect : ct (nI t).toNatClampNeg = nI c := by rw [nI_clamp (by omega)]; exact hct
  have it : vp_in (nI t) 2 := vp_in_nI ht (by omega)
  rcases pk_ix p1 (n := c) (by omega) with hp | hp | ⟨i, hi, rfl⟩
  · refine ⟨-2, fun post h => ?_, fun post h => ya_tree ht (br_t hp h)⟩
    unfold wpX_nodeByte
    refine xa_isTree ht (br_f (by decide) ?_)
    exact xa_isNode ht hct hc (fun j hj e => absurd hp (by rw [e]; exact nI_pos (by omega))) (fun _ => br_t rfl h)
  · have h0 : ¬ p1 < 0 := Int32.not_lt.mpr (Int32.le_trans (nI_pos' (by omega)) hp)
    refine ⟨-2, fun post h => ?_, fun post h => ya_tree ht (br_f h0 ⟨it, br_f (by rw [ect]; exact Int32.not_lt.mpr hp) h⟩)⟩
    unfold wpX_nodeByte
    refine xa_isTree ht (br_f (by decide) ?_)
    exact xa_isNode ht hct hc (fun j hj e => absurd hp (by rw [e]; exact nI_ge hj (by omega))) (fun _ => br_t rfl h)
  · have h0 : ¬ nI i < 0 := nI_pos (by omega)
    have hci : nI i < ct (nI t).toNatClampNeg := by rw [ect]; exact nI_lt hi (by omega)
    have e8 : (nI t * 8) + nI i = nI (8 * t + i) := ta_ix t i
    have iv : vp_in (nI (8 * t + i)) 16 := vp_in_nI (by omega) (by omega)
    have en : (nI (8 * t + i)).toNatClampNeg = 8 * t + i := nI_clamp (by omega)
    obtain ⟨f, hf, hf2, hf3, hf4⟩ := ta_own hc X hi
    obtain ⟨s, s1, s2⟩ := (X f hf).2.2.1
    have ivf : vp_in (nI (8 * t + f)) 16 := vp_in_nI (by omega) (by omega)
    have enf : (nI (8 * t + f)).toNatClampNeg = 8 * t + f := nI_clamp (by omega)
    have WX : ∀ post : Int32 → Prop, ((p2 < 0 → (post (-2))) ∧ (¬ p2 < 0 → (vp_in (nI (8 * t + f)) 16 ∧ (((p2 < (sz (8 * t + f)) → (vp_in ((nI (8 * t + f) * 32) + p2) 512 ∧ (post (dt ((nI (8 * t + f) * 32) + p2).toNatClampNeg)))) ∧ (¬ p2 < (sz (8 * t + f)) → (post (-2)))))))) →
        wpX_nodeByte post (fa, fb, fl, fe, fp, fn, ft, ct, kd, pr, nm, md, sz, tg, dt, ar, pa) (nI t) (nI i) p2 := by
      intro post h
      unfold wpX_nodeByte
      refine xa_isTree ht (br_f (by decide) ?_)
      refine xa_isNode ht hct hc (fun _ _ _ => br_f (by decide) ?_) (fun n => absurd rfl (n i hi))
      refine xa_cs ht hc X hi hf hf3 ?_
      rw [enf]
      exact h
    have CY : ∀ post : Int32 → Prop, (kd (8 * t + i) = 3 → post (-2)) → (kd (8 * t + i) ≠ 3 → wY_nodeByte_79 post p2 (nI (8 * t + f)) fa fb fl fe yc yo yb ct kd pr nm my tg sz dt ar sc st) → wpY_nodeByte post (fa, fb, fl, fe, yc, yo, yb, ct, kd, pr, nm, my, tg, sz, dt, ar, sc, st) (nI t) (nI i) p2 := by
      intro post h3 h
      refine ya_tree ht (br_f h0 ⟨it, br_t hci (nm_r e8 ⟨iv, ?_⟩)⟩)
      rw [en]
      refine br_c h3 (fun k3 => ⟨iv, ?_⟩)
      have h := h k3
      rcases hf3 with ⟨k2, e⟩ | ⟨k2, e⟩
      · refine br_t k2 ⟨iv, ?_⟩
        rw [e, ta_ix]; exact h
      · rw [e] at h
        exact br_f k2 h
    by_cases a0 : p2 < 0
    · exact ⟨-2, fun post h => WX post (br_t a0 h), fun post h => CY post (fun _ => h) (fun _ => br_t a0 h)⟩
    · by_cases a1 : p2 < sz (8 * t + f)
      · obtain ⟨q, hq, rfl⟩ := nI_of a0
        have hqs : q < s := by rw [s2] at a1; exact (nI_ltI hq (by omega)).mp a1
        have ex : nI (8 * t + f) * 32 + nI q = nI (32 * (8 * t + f) + q) := by rw [show (32 : Int32) = nI 32 from rfl, pk_mul, nI_add, Nat.mul_comm]
        have ivx : vp_in (nI (8 * t + f) * 32 + nI q) 512 := by rw [ex]; exact vp_in_nI (by omega) (by omega)
        refine ⟨dt (nI (8 * t + f) * 32 + nI q).toNatClampNeg, fun post h => WX post (br_f a0 ⟨ivf, br_t a1 ⟨ivx, h⟩⟩), fun post h => CY post (fun k3 => ?_) (fun _ => br_f a0 ⟨ivf, br_t (by rw [enf]; exact a1) ⟨ivx, h⟩⟩)⟩
        have := hf4 k3
        rw [this] at s2
        have := (nI_eq (a := 0) (by omega) (by omega)).mp s2
        omega
      · exact ⟨-2, fun post h => WX post (br_f a0 ⟨ivf, br_f a1 h⟩), fun post h => CY post (fun _ => h) (fun _ => br_f a0 ⟨ivf, br_f (by rw [enf]; exact a1) h⟩)⟩
end
theorem i_vc_nodeInfo {k : Nat} {u : SX} {v : SY} (I : i_Rel k u v) (hk : k + 5 ≤ 2562) (v1 : Int32) (v2 : Int32) (v3 : Int32) : wpX_nodeInfo (fun r => wpY_nodeInfo (fun r' => r' = r ∧ i_Rel (k + 5) u v) v v1 v2 v3) u v1 v2 v3 := by
  have I' := I
  obtain ⟨mn, mb, L, c0, c, fe, ct, kd, pr, nm, md, my, sz, tg, dt, ar, P0, P, ⟨fp, fn, ft, pa, rfl⟩, ⟨yc, yo, yb, sc, st, rfl⟩, hmn, hmb, hL, hc0, hc, J, hb⟩ := I
  obtain ⟨i1, i2, i3, i4, i5, i6, i7, i8, i9⟩ := J
  by_cases z : v1 = 0
  · subst z
    obtain ⟨r, hX, hY⟩ := ta_info (fa := nI mn) (fb := nI mb) (fl := nI L) (fe := fe) (fp := fp) (fn := fn) (ft := ft) (yc := yc) (yo := yo) (yb := yb) (md := md) (my := my) (dt := dt) (ar := ar) (pa := pa) (sc := sc) (st := st) (pr := pr) (nm := nm) (t := 0) (by omega) i1 (by omega) i5 i8 v2 v3
    exact hX _ (hY _ ⟨rfl, I'⟩)
  · by_cases w : v1 = 1
    · subst w
      obtain ⟨r, hX, hY⟩ := ta_info (fa := nI mn) (fb := nI mb) (fl := nI L) (fe := fe) (fp := fp) (fn := fn) (ft := ft) (yc := yc) (yo := yo) (yb := yb) (md := md) (my := my) (dt := dt) (ar := ar) (pa := pa) (sc := sc) (st := st) (pr := pr) (nm := nm) (t := 1) (by omega) i2 (by omega) i6 i8 v2 v3
      exact hX _ (hY _ ⟨rfl, I'⟩)
    · unfold wpX_nodeInfo
      exact br_f z (br_f w (br_t rfl (br_f z (br_f w ⟨rfl, I'⟩))))
theorem i_vc_nodeByte {k : Nat} {u : SX} {v : SY} (I : i_Rel k u v) (hk : k + 5 ≤ 2562) (v1 : Int32) (v2 : Int32) (v3 : Int32) : wpX_nodeByte (fun r => wpY_nodeByte (fun r' => r' = r ∧ i_Rel (k + 5) u v) v v1 v2 v3) u v1 v2 v3 := by
  have I' := I
  obtain ⟨mn, mb, L, c0, c, fe, ct, kd, pr, nm, md, my, sz, tg, dt, ar, P0, P, ⟨fp, fn, ft, pa, rfl⟩, ⟨yc, yo, yb, sc, st, rfl⟩, hmn, hmb, hL, hc0, hc, J, hb⟩ := I
  obtain ⟨i1, i2, i3, i4, i5, i6, i7, i8, i9⟩ := J
  by_cases z : v1 = 0
  · subst z
    obtain ⟨r, hX, hY⟩ := ta_byte (fa := nI mn) (fb := nI mb) (fl := nI L) (fe := fe) (fp := fp) (fn := fn) (ft := ft) (yc := yc) (yo := yo) (yb := yb) (md := md) (my := my) (dt := dt) (ar := ar) (pa := pa) (sc := sc) (st := st) (pr := pr) (nm := nm) (t := 0) (by omega) i1 (by omega) i5 v2 v3
    exact hX _ (hY _ ⟨rfl, I'⟩)
  · by_cases w : v1 = 1
    · subst w
      obtain ⟨r, hX, hY⟩ := ta_byte (fa := nI mn) (fb := nI mb) (fl := nI L) (fe := fe) (fp := fp) (fn := fn) (ft := ft) (yc := yc) (yo := yo) (yb := yb) (md := md) (my := my) (dt := dt) (ar := ar) (pa := pa) (sc := sc) (st := st) (pr := pr) (nm := nm) (t := 1) (by omega) i2 (by omega) i6 v2 v3
      exact hX _ (hY _ ⟨rfl, I'⟩)
    · unfold wpX_nodeByte
      exact br_f z (br_f w (br_t rfl (br_f z (br_f w ⟨rfl, I'⟩))))
