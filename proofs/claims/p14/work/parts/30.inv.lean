/-! 30: invariant, addNode, of whole's parts 27, 29, 30, 31 -/
/-- what both states hold of the trees; md: the component's modes, my: the reference's -/
def ta_I (c0 c : Nat) (ct kd pr nm md my sz tg dt : Nat → Int32) (P0 P : Nat → List Int32) : Prop :=
  ct 0 = nI c0 ∧ ct 1 = nI c ∧ ta_Tr 0 c0 kd pr nm P0 ∧ ta_Tr 8 c kd pr nm P ∧ (∀ i, i < c0 → ta_Nx 0 kd sz tg i) ∧ (∀ i, i < c → ta_Nx 8 kd sz tg i) ∧
  (∀ i, i < c0 → kd i = 2 → md i = 0) ∧ (∀ j, kd j ≠ 2 → md j = my j) ∧ (∀ j, ta_by (dt j))
theorem xa_isByte {post : Int32 → Prop} {x : Int32} (h1 : ¬ x < 0 → x ≤ 255 → ta_by x → post 1) (h0 : (x < 0 ∨ (¬ x < 0 ∧ ¬ x ≤ 255)) → post 0) : wpX_isByte post () x := by
  refine br_c (fun z => h0 (Or.inl z)) (fun z => br_c (fun w => h0 (Or.inr ⟨z, Int32.not_le.mpr w⟩)) (fun w => ?_))
  obtain ⟨j, hj, rfl⟩ := nI_of z
  have hl := Int32.not_lt.mp w
  have := (nI_leI (b := 255) hj (by decide)).mp hl
  exact h1 z hl ⟨j, by omega, rfl⟩
section
variable {fa fb fl fe fp fn ft yc yo yb : Int32} {ct kd pr nm md my sz tg dt ar pa sc st : Nat → Int32} {c t : Nat}
theorem xa_contentSlot {post : Int32 → Prop} {i : Nat} (ht : t < 2) (hc : c ≤ 8) (X : ∀ i, i < c → ta_Nx (8 * t) kd sz tg i) (hi : i < c) (h2 : ∀ q, q < i → kd (8 * t + i) = 2 → tg (8 * t + i) = nI q → kd (8 * t + q) = 1 → post (nI (8 * t + q))) (h1 : kd (8 * t + i) ≠ 2 → post (nI (8 * t + i))) :
    wpX_contentSlot post (fa, fb, fl, fe, fp, fn, ft, ct, kd, pr, nm, md, sz, tg, dt, ar, pa) (nI t) (nI i) := by
  have iv : vp_in (nI (8 * t + i)) 16 := vp_in_nI (by omega) (by omega)
  refine nm_r (ta_ix t i) ⟨iv, ?_⟩
  rw [nI_clamp (by omega)]
  refine br_c (fun k2 => ⟨iv, ?_⟩) (fun k2 => h1 k2)
  obtain ⟨q, q1, q2, q3⟩ := (X i hi).2.1 k2
  rw [q2, ta_ix]
  exact h2 q q1 k2 q2 q3
theorem xa_isTree {post : Int32 → Prop} (ht : t < 2) (h : post 1) : wpX_isTree post () (nI t) := by
  rcases (show t = 0 ∨ t = 1 by omega) with rfl | rfl
  · exact br_t rfl h
  · exact br_f (by decide) (br_t rfl h)
/-- the slot that holds a node's mode, size and bytes -/
theorem ta_own {i : Nat} (hc : c ≤ 8) (X : ∀ i, i < c → ta_Nx (8 * t) kd sz tg i) (hi : i < c) : ∃ f, f < c ∧ kd (8 * t + f) ≠ 2 ∧ ((kd (8 * t + i) = 2 ∧ tg (8 * t + i) = nI f) ∨ (kd (8 * t + i) ≠ 2 ∧ f = i)) ∧ (kd (8 * t + i) = 3 → sz (8 * t + f) = 0) := by
  have hX := X i hi
  by_cases k2 : kd (8 * t + i) = 2
  · obtain ⟨q, q1, q2, q3⟩ := hX.2.1 k2
    exact ⟨q, by omega, by rw [q3]; decide, Or.inl ⟨k2, q2⟩, fun k3 => absurd (k2.symm.trans k3) (by decide)⟩
  · exact ⟨i, hi, k2, Or.inr ⟨k2, rfl⟩, fun k3 => hX.2.2.2 (by rw [k3]; decide)⟩
theorem xa_cs {i f : Nat} (ht : t < 2) (hc : c ≤ 8) (X : ∀ i, i < c → ta_Nx (8 * t) kd sz tg i) (hi : i < c) (hf : f < c) (hf3 : (kd (8 * t + i) = 2 ∧ tg (8 * t + i) = nI f) ∨ (kd (8 * t + i) ≠ 2 ∧ f = i)) {post : Int32 → Prop} (h : post (nI (8 * t + f))) :
    wpX_contentSlot post (fa, fb, fl, fe, fp, fn, ft, ct, kd, pr, nm, md, sz, tg, dt, ar, pa) (nI t) (nI i) := by
  refine xa_contentSlot ht hc X hi (fun q q1 k2 q2 q3 => ?_) (fun k2 => ?_)
  · rcases hf3 with ⟨_, e⟩ | ⟨n2, _⟩
    · have : q = f := (nI_eq (by omega) (by omega)).mp (q2.symm.trans e)
      rw [this]; exact h
    · exact absurd k2 n2
  · rcases hf3 with ⟨k2', _⟩ | ⟨_, e⟩
    · exact absurd k2' k2
    · rw [← e]; exact h
end
def ta_ki3 (kind : Int32) : Prop := kind = 3 ∨ kind = 1 ∨ kind = 2
def ta_aP (c0 : Nat) (kd : Nat → Int32) (p : Int32) : Prop := p = -1 ∨ ∃ q, q < c0 ∧ p = nI q ∧ kd q = 3
def ta_aD (c0 : Nat) (P0 : Nat → List Int32) (p : Int32) : Prop := ∀ q, q < c0 → p = nI q → (P0 q).count 47 + 1 < 6
def ta_aU (c0 : Nat) (pr nm : Nat → Int32) (p v : Int32) : Prop := ∃ j, j < c0 ∧ pr j = p ∧ nm j = v
def ta_aM (m : Int32) : Prop := ¬ m < 0 ∧ m ≤ 511
def ta_aL (c0 : Nat) (kd tg : Nat → Int32) (m t : Int32) : Prop := ∃ q, q < c0 ∧ m = nI q ∧ kd q ≠ 3 ∧ t = if kd q = 2 then tg q else nI q
def ta_AE (c0 mn : Nat) (kd pr nm tg : Nat → Int32) (P0 : Nat → List Int32) (p k v m r : Int32) : Prop :=
  (c0 = mn ∧ r = -3) ∨ (c0 ≠ mn ∧ ¬ ta_ki3 k ∧ r = -4) ∨ (c0 ≠ mn ∧ ta_ki3 k ∧ ¬ ta_V v ∧ r = -5) ∨ (c0 ≠ mn ∧ ta_ki3 k ∧ ta_V v ∧ ¬ ta_aP c0 kd p ∧ r = -6) ∨
  (c0 ≠ mn ∧ ta_ki3 k ∧ ta_V v ∧ ta_aP c0 kd p ∧ ¬ ta_aD c0 P0 p ∧ r = -7) ∨ (c0 ≠ mn ∧ ta_ki3 k ∧ ta_V v ∧ ta_aP c0 kd p ∧ ta_aD c0 P0 p ∧ ta_aU c0 pr nm p v ∧ r = -8) ∨
  (c0 ≠ mn ∧ ta_ki3 k ∧ ta_V v ∧ ta_aP c0 kd p ∧ ta_aD c0 P0 p ∧ ¬ ta_aU c0 pr nm p v ∧ k ≠ 2 ∧ ¬ ta_aM m ∧ r = -9) ∨
  (c0 ≠ mn ∧ ta_ki3 k ∧ ta_V v ∧ ta_aP c0 kd p ∧ ta_aD c0 P0 p ∧ ¬ ta_aU c0 pr nm p v ∧ k = 2 ∧ (¬ ∃ t, ta_aL c0 kd tg m t) ∧ r = -10)
def ta_AS (c0 mn : Nat) (kd pr nm tg : Nat → Int32) (P0 : Nat → List Int32) (p k v m mv t : Int32) : Prop :=
  c0 ≠ mn ∧ ta_ki3 k ∧ ta_V v ∧ ta_aP c0 kd p ∧ ta_aD c0 P0 p ∧ ¬ ta_aU c0 pr nm p v ∧ ((k ≠ 2 ∧ ta_aM m ∧ mv = m ∧ t = -1) ∨ (k = 2 ∧ ta_aL c0 kd tg m t ∧ mv = 0))
section
variable {fa fb fl fe fp fn ft yc yo yb : Int32} {ct kd pr nm md my sz tg dt ar pa sc st : Nat → Int32} {c0 mn : Nat} {P0 : Nat → List Int32}
theorem xa_addNode (T : ta_Tr 0 c0 kd pr nm P0) (hct : ct 0 = nI c0) (hc : c0 ≤ mn) (hmn : mn ≤ 8) {post : Int32 → St2 → Prop} {p k v m : Int32}
    (hE : ∀ r, ta_AE c0 mn kd pr nm tg P0 p k v m r → post r (nI mn, fb, fl, fe, fp, fn, ft, ct, kd, pr, nm, md, sz, tg, dt, ar, pa))
    (hS : ∀ mv t, ta_AS c0 mn kd pr nm tg P0 p k v m mv t → post (nI c0) (nI mn, fb, fl, fe, fp, fn, ft, upd ct 0 (nI (c0 + 1)), upd kd c0 k, upd pr c0 p, upd nm c0 v, upd md c0 mv, upd sz c0 0, upd tg c0 t, dt, ar, pa))
    (X : ∀ i, i < c0 → ta_Nx 0 kd sz tg i) :
    wpX_addNode post (nI mn, fb, fl, fe, fp, fn, ft, ct, kd, pr, nm, md, sz, tg, dt, ar, pa) p k v m := by
  have PN : c0 < 8 → ∀ mv t, post (nI c0) (nI mn, fb, fl, fe, fp, fn, ft, upd ct 0 (nI (c0 + 1)), upd kd c0 k, upd pr c0 p, upd nm c0 v, upd md c0 mv, upd sz c0 0, upd tg c0 t, dt, ar, pa) → wpX_putNode (fun u => match u with | (fa, fb, fl, fe, fp, fn, ft, ct, kd, pr, nm, md, sz, tg, dt, ar, pa) => (post (nI c0) (fa, fb, fl, fe, fp, fn, ft, ct, kd, pr, nm, md, sz, tg, dt, ar, pa))) (nI mn, fb, fl, fe, fp, fn, ft, ct, kd, pr, nm, md, sz, tg, dt, ar, pa) 0 k p v mv t := by
    intro h8 mv t h
    refine xa_putNode (t := 0) (by omega) hct h8 ?_
    have e : 8 * 0 + c0 = c0 := by omega
    rw [e]
    exact h
  have W65 : c0 ≠ mn → ta_ki3 k → ta_V v → ta_aP c0 kd p → wX_addNode_65 post p k v m (nI c0) (nI mn) fb fl fe fp fn ft ct kd pr nm md sz tg dt ar pa := by
    intro h1 h2 h3 h4
    have D : ∀ d : Nat, d ≤ 6 → (d < 6 ↔ ta_aD c0 P0 p) → ((nI d < 6 → (wpX_findChild (fun r_26 => (((r_26 = (-2) → (((k = 2 → (wpX_fileBehind (fun r_66 => (((r_66 = (-2) → (post (-10) (nI mn, fb, fl, fe, fp, fn, ft, ct, kd, pr, nm, md, sz, tg, dt, ar, pa))) ∧ (¬ r_66 = (-2) → (wpX_putNode (fun u => match u with | (fa, fb, fl, fe, fp, fn, ft, ct, kd, pr, nm, md, sz, tg, dt, ar, pa) => (post (nI c0) (fa, fb, fl, fe, fp, fn, ft, ct, kd, pr, nm, md, sz, tg, dt, ar, pa))) (nI mn, fb, fl, fe, fp, fn, ft, ct, kd, pr, nm, md, sz, tg, dt, ar, pa) 0 k p v 0 r_66))))) (nI mn, fb, fl, fe, fp, fn, ft, ct, kd, pr, nm, md, sz, tg, dt, ar, pa) 0 m)) ∧ (¬ k = 2 → (((m < 0 → (post (-9) (nI mn, fb, fl, fe, fp, fn, ft, ct, kd, pr, nm, md, sz, tg, dt, ar, pa))) ∧ (¬ m < 0 → (((m ≤ 511 → (wpX_putNode (fun u => match u with | (fa, fb, fl, fe, fp, fn, ft, ct, kd, pr, nm, md, sz, tg, dt, ar, pa) => (post (nI c0) (fa, fb, fl, fe, fp, fn, ft, ct, kd, pr, nm, md, sz, tg, dt, ar, pa))) (nI mn, fb, fl, fe, fp, fn, ft, ct, kd, pr, nm, md, sz, tg, dt, ar, pa) 0 k p v m (-1))) ∧ (¬ m ≤ 511 → (post (-9) (nI mn, fb, fl, fe, fp, fn, ft, ct, kd, pr, nm, md, sz, tg, dt, ar, pa)))))))))))) ∧ (¬ r_26 = (-2) → (post (-8) (nI mn, fb, fl, fe, fp, fn, ft, ct, kd, pr, nm, md, sz, tg, dt, ar, pa)))))) (nI mn, fb, fl, fe, fp, fn, ft, ct, kd, pr, nm, md, sz, tg, dt, ar, pa) 0 p v)) ∧ (¬ nI d < 6 → (post (-7) (nI mn, fb, fl, fe, fp, fn, ft, ct, kd, pr, nm, md, sz, tg, dt, ar, pa)))) := by
      intro d hd hiff
      refine pk_lt d 6 (fun g => ?_) (fun g => hE _ (Or.inr (Or.inr (Or.inr (Or.inr (Or.inl ⟨h1, h2, h3, h4, fun q => by have := hiff.mpr q; omega, rfl⟩))))))
      have h5 := hiff.mp g
      refine xa_findChild (t := 0) (by omega) hct (by omega) (fun j hj e1 e2 => br_f (fun z => nI_pos (n := j) (by omega) (by rw [z]; decide)) ?_) (fun no => br_t rfl ?_)
      · simp only [Nat.mul_zero, Nat.zero_add] at e1 e2
        exact hE _ (Or.inr (Or.inr (Or.inr (Or.inr (Or.inr (Or.inl ⟨h1, h2, h3, h4, h5, ⟨j, hj, e1, e2⟩, rfl⟩))))))
      · simp only [Nat.mul_zero, Nat.zero_add] at no
        have h6 : ¬ ta_aU c0 pr nm p v := fun ⟨j, hj, e1, e2⟩ => no j hj e1 e2
        refine br_c (fun k2 => ?_) (fun k2 => br_c (fun z => ?_) (fun z => br_c (fun w => ?_) (fun w => ?_)))
        · refine xa_fileBehind (t := 0) (by omega) hct (by omega) (fun q hq e k3 kk => ?_) (fun q hq e k3 kk => ?_) (fun w => br_t rfl ?_)
          · simp only [Nat.mul_zero, Nat.zero_add] at k3 kk ⊢
            obtain ⟨_, hx, _⟩ := X q hq
            simp only [Nat.zero_add] at hx
            obtain ⟨g, g1, g2, _⟩ := hx kk
            refine br_f (fun z => nI_pos (n := g) (by omega) (by rw [← g2, z]; decide)) (PN (by omega) _ _ (hS _ _ ⟨h1, h2, h3, h4, h5, h6, Or.inr ⟨k2, ⟨q, hq, e, k3, ?_⟩, rfl⟩⟩))
            rw [if_pos kk]
          · simp only [Nat.mul_zero, Nat.zero_add] at k3 kk
            refine br_f (fun z => nI_pos (n := q) (by omega) (by rw [z]; decide)) (PN (by omega) _ _ (hS _ _ ⟨h1, h2, h3, h4, h5, h6, Or.inr ⟨k2, ⟨q, hq, e, k3, ?_⟩, rfl⟩⟩))
            rw [if_neg kk]
          · simp only [Nat.mul_zero, Nat.zero_add] at w
            exact hE _ (Or.inr (Or.inr (Or.inr (Or.inr (Or.inr (Or.inr (Or.inr ⟨h1, h2, h3, h4, h5, h6, k2, fun ⟨t, q, hq, e, k3, _⟩ => k3 (w q hq e), rfl⟩)))))))
        · exact hE _ (Or.inr (Or.inr (Or.inr (Or.inr (Or.inr (Or.inr (Or.inl ⟨h1, h2, h3, h4, h5, h6, k2, fun q => q.1 z, rfl⟩)))))))
        · exact PN (by omega) _ _ (hS _ _ ⟨h1, h2, h3, h4, h5, h6, Or.inl ⟨k2, ⟨z, w⟩, rfl, rfl⟩⟩)
        · exact hE _ (Or.inr (Or.inr (Or.inr (Or.inr (Or.inr (Or.inr (Or.inl ⟨h1, h2, h3, h4, h5, h6, k2, fun q => w q.2, rfl⟩)))))))
    unfold wX_addNode_65
    have h4' := h4
    rcases h4' with e | ⟨q, hq, e, k3⟩
    · subst e
      exact xa_sourceDepth0 (D 0 (by omega) ⟨fun _ q hq e => absurd e.symm (ta_m1 (by omega)), fun _ => by omega⟩)
    · subst e
      have h5 := (T.1 q hq).2.1
      refine xa_sourceDepth T (by omega) hq (D _ (by omega) ⟨fun g q' hq' e => ?_, fun w => w q hq rfl⟩)
      have : q = q' := (nI_eq (by omega) (by omega)).mp e
      rw [← this]; exact g
  have W38 : c0 ≠ mn → ta_ki3 k → wX_addNode_38 post p k v m (nI c0) (nI mn) fb fl fe fp fn ft ct kd pr nm md sz tg dt ar pa := by
    intro h1 h2
    unfold wX_addNode_38
    refine xa_isValidName (fun h3 => br_f (by decide) (br_c (fun z => W65 h1 h2 h3 (Or.inl z)) (fun z => ?_))) (fun h3 => br_t rfl (hE _ (Or.inr (Or.inr (Or.inl ⟨h1, h2, h3, rfl⟩)))))
    refine xa_isDir (t := 0) (by omega) hct (by omega) (fun j hj e k3 => br_f (by decide) ?_) (fun w => br_t rfl ?_)
    · simp only [Nat.mul_zero, Nat.zero_add] at k3
      exact W65 h1 h2 h3 (Or.inr ⟨j, hj, e, k3⟩)
    · simp only [Nat.mul_zero, Nat.zero_add] at w
      refine hE _ (Or.inr (Or.inr (Or.inr (Or.inl ⟨h1, h2, h3, fun q => ?_, rfl⟩))))
      rcases q with q | ⟨j, hj, e, k3⟩
      · exact z q
      · exact w j hj e k3
  refine nm_r hct (pk_lt c0 mn (fun g => ?_) (fun g => hE _ (Or.inl ⟨by omega, rfl⟩)))
  have h1 : c0 ≠ mn := by omega
  refine br_c (fun z => W38 h1 (Or.inl z)) (fun z => br_c (fun w => W38 h1 (Or.inr (Or.inl w))) (fun w => br_c (fun y => W38 h1 (Or.inr (Or.inr y))) (fun y => hE _ (Or.inr (Or.inl ⟨h1, fun q => q.elim z (fun q => q.elim w y), rfl⟩)))))
end
theorem ta_I_add {c0 c mn : Nat} {ct kd pr nm md my sz tg dt : Nat → Int32} {P0 P : Nat → List Int32} {p k v m mv t : Int32} (hc0 : c0 < 8) (I : ta_I c0 c ct kd pr nm md my sz tg dt P0 P) (S : ta_AS c0 mn kd pr nm tg P0 p k v m mv t) :
    ∃ P', ta_I (c0 + 1) c (upd ct 0 (nI (c0 + 1))) (upd kd c0 k) (upd pr c0 p) (upd nm c0 v) (upd md c0 mv) (upd my c0 mv) (upd sz c0 0) (upd tg c0 t) dt P' P := by
  obtain ⟨i1, i2, i3, i4, i5, i6, i7, i8, i9⟩ := I
  obtain ⟨s1, s2, s3, s4, s5, s6, s7⟩ := S
  have hlo : ∀ (a : Nat → Int32) (x : Int32) (i : Nat), i < c0 → upd a c0 x i = a i := fun a x i hi => pk_un (by omega)
  have hlo' : ∀ (a : Nat → Int32) (x : Int32) (i : Nat), i < c0 → upd a c0 x (0 + i) = a (0 + i) := fun a x i hi => pk_un (by omega)
  have hhi : ∀ (a : Nat → Int32) (x : Int32) (i : Nat), i < c → upd a c0 x (8 + i) = a (8 + i) := fun a x i hi => pk_un (by omega)
  have us : ∀ (a : Nat → Int32) (x : Int32), upd a c0 x (0 + c0) = x := fun a x => by rw [Nat.zero_add]; exact pk_us
  have T0 := ta_Tr_cg i3 (kd' := upd kd c0 k) (par' := upd pr c0 p) (nm' := upd nm c0 v) (hlo' _ _) (hlo' _ _) (hlo' _ _)
  have X0 := ta_Nx_cg i5 (kd' := upd kd c0 k) (sz' := upd sz c0 0) (tg' := upd tg c0 t) (hlo' _ _) (hlo' _ _) (hlo' _ _)
  have TT : ∃ P', ta_Tr 0 (c0 + 1) (upd kd c0 k) (upd pr c0 p) (upd nm c0 v) P' := by
    have hu : ∀ i, i < c0 → upd pr c0 p (0 + i) = upd pr c0 p (0 + c0) → upd nm c0 v (0 + i) = upd nm c0 v (0 + c0) → False := by
      intro i hi e1 e2
      rw [us, hlo' _ _ i hi, Nat.zero_add] at e1 e2
      exact s6 ⟨i, hi, e1, e2⟩
    rcases s4 with e | ⟨q, hq, e, k3⟩
    · refine ⟨_, ta_Tr_add T0 (N := ta_t v) (by rw [us]; exact s3) (by rw [ta_cnt s3]; omega) (Or.inl ⟨by rw [us]; exact e, by rw [us]⟩) hu⟩
    · have := s5 q hq e
      refine ⟨_, ta_Tr_add T0 (N := P0 q ++ 47 :: ta_t v) (by rw [us]; exact s3) (by rw [ta_cntq s3]; omega) (Or.inr ⟨q, hq, by rw [us]; exact e, by rw [hlo' _ _ q hq, Nat.zero_add]; exact k3, by rw [us]⟩) hu⟩
  obtain ⟨P', TT⟩ := TT
  refine ⟨P', pk_us, by rw [pk_un (by decide)]; exact i2, TT, ta_Tr_cg i4 (hhi _ _) (hhi _ _) (hhi _ _), ?_, ta_Nx_cg i6 (hhi _ _) (hhi _ _) (hhi _ _), ?_, ?_, i9⟩
  · intro i hi
    by_cases z : i < c0
    · exact X0 i z
    · have e : i = c0 := by omega
      subst e
      refine ⟨by rw [us]; exact s2.elim (fun q => Or.inr (Or.inr q)) (fun q => q.elim Or.inl (fun q => Or.inr (Or.inl q))), ?_, by rw [us]; exact ⟨0, by omega, rfl⟩, fun _ => by rw [us]⟩
      rw [us, us]
      intro k2
      rcases s7 with ⟨n2, _⟩ | ⟨_, ⟨q, hq, _, k3, e⟩, _⟩
      · exact absurd k2 n2
      · obtain ⟨j1, j2, _, _⟩ := i5 q hq
        simp only [Nat.zero_add] at j1 j2
        by_cases y : kd q = 2
        · rw [if_pos y] at e
          obtain ⟨q', q1, q2, q3⟩ := j2 y
          exact ⟨q', by omega, e.trans q2, by rw [hlo' _ _ q' (by omega), Nat.zero_add]; exact q3⟩
        · rw [if_neg y] at e
          refine ⟨q, hq, e, ?_⟩
          rw [hlo' _ _ q hq, Nat.zero_add]
          rcases j1 with x | x | x
          · exact x
          · exact absurd x y
          · exact absurd x k3
  · intro i hi
    by_cases z : i < c0
    · rw [hlo _ _ i z, hlo _ _ i z]
      exact i7 i z
    · have e : i = c0 := by omega
      subst e
      rw [pk_us, pk_us]
      intro k2
      rcases s7 with ⟨n2, _⟩ | ⟨_, _, e⟩
      · exact absurd k2 n2
      · exact e
  · intro j
    by_cases z : j = c0
    · rw [z, pk_us, pk_us, pk_us]
      exact fun _ => rfl
    · rw [pk_un z, pk_un z, pk_un z]
      exact i8 j
theorem ta_I_app {c0 c f s : Nat} {ct kd pr nm md my sz tg dt : Nat → Int32} {P0 P : Nat → List Int32} {x : Int32} (hf : f < c0) (hc0 : c0 ≤ 8) (hs : s < 32) (hk : kd f = 1) (hx : ta_by x) (I : ta_I c0 c ct kd pr nm md my sz tg dt P0 P) :
    ta_I c0 c ct kd pr nm md my (upd sz f (nI (s + 1))) tg (upd dt (32 * f + s) x) P0 P := by
  obtain ⟨i1, i2, i3, i4, i5, i6, i7, i8, i9⟩ := I
  refine ⟨i1, i2, i3, i4, fun i hi => ?_, ta_Nx_cg i6 (fun _ _ => rfl) (fun i hi => pk_un (by omega)) (fun _ _ => rfl), i7, i8, ta_upd_by i9 hx⟩
  obtain ⟨a1, a2, a3, a4⟩ := i5 i hi
  refine ⟨a1, a2, ?_, ?_⟩
  · by_cases z : i = f
    · rw [Nat.zero_add, z, pk_us]; exact ⟨s + 1, by omega, rfl⟩
    · rw [Nat.zero_add, pk_un z]; rw [Nat.zero_add] at a3; exact a3
  · intro k1
    by_cases z : i = f
    · rw [Nat.zero_add, z] at k1; exact absurd hk k1
    · have := a4 k1
      rw [Nat.zero_add] at this
      rw [Nat.zero_add, pk_un z]; exact this
