/-! 30: construction, addNode, appendData -/
theorem i_vc0 (k0 : Int32) (k1 : Int32) : wpX_init (fun u => wpY_init (fun v => i_Rel 2 u v) k0 k1) k0 k1 := by
  unfold wpX_init
  refine xa_clamp 2 8 (by omega) (by omega) (fun a a1 a2 a3 a4 a5 => xa_clamp 4 12 (by omega) (by omega) (fun b b1 b2 b3 b4 b5 => ?_))
  have R : i_Rel 2 (nI a, nI b, 0, -1, 0, 0, 0, (fun _ => 0), (fun _ => 0), (fun _ => 0), (fun _ => 0), (fun _ => 0), (fun _ => 0), (fun _ => 0), (fun _ => 0), (fun _ => 0), (fun _ => 0)) (nI a, nI b, 0, -1, 0, 0, 0, (fun _ => 0), (fun _ => 0), (fun _ => 0), (fun _ => 0), (fun _ => 0), (fun _ => 0), (fun _ => 0), (fun _ => 0), (fun _ => 0), (fun _ => 0), (fun _ => 0)) :=
    ⟨a, b, 0, 0, 0, -1, _, _, _, _, _, _, _, _, _, _, fun _ => [], fun _ => [], ⟨0, 0, 0, _, rfl⟩, ⟨0, 0, 0, _, _, rfl⟩, a2, b2, Nat.zero_le _, Nat.zero_le _, Nat.zero_le _, ⟨rfl, rfl, ta_Tr_0, ta_Tr_0, fun i hi => by omega, fun i hi => by omega, fun i hi => by omega, fun _ _ => rfl, fun _ => ⟨0, by omega, rfl⟩⟩, fun _ => ⟨0, by omega, rfl⟩⟩
  have K : ∀ z, z = nI a → wY_init_120 (fun v => i_Rel 2 (nI a, nI b, 0, -1, 0, 0, 0, (fun _ => 0), (fun _ => 0), (fun _ => 0), (fun _ => 0), (fun _ => 0), (fun _ => 0), (fun _ => 0), (fun _ => 0), (fun _ => 0), (fun _ => 0)) v) k1 z 0 0 0 (-1) 0 0 0 (fun _ => 0) (fun _ => 0) (fun _ => 0) (fun _ => 0) (fun _ => 0) (fun _ => 0) (fun _ => 0) (fun _ => 0) (fun _ => 0) (fun _ => 0) (fun _ => 0) := by
    intro z hz
    subst hz
    refine br_c (fun q => br_c (fun w => ?_) (fun w => ?_)) (fun q => ?_)
    · rw [show k1 = nI b from b4 (Int32.not_lt.mpr q) w]; exact R
    · have e : b = 12 := b5 w
      subst e; exact R
    · have e : b = 4 := b3 (Int32.not_le.mp q)
      subst e; exact R
  refine br_c (fun q => br_c (fun w => K _ (a4 (Int32.not_lt.mpr q) w)) (fun w => K _ ?_)) (fun q => K _ ?_)
  · rw [a5 w]; rfl
  · rw [a3 (Int32.not_le.mp q)]; rfl
def ta_ki3 (kind : Int32) : Prop := kind = 3 ∨ kind = 1 ∨ kind = 2
def ta_aP (c0 : Nat) (kd : Nat → Int32) (p : Int32) : Prop := p = -1 ∨ ∃ q, q < c0 ∧ p = nI q ∧ kd q = 3
def ta_aD (c0 : Nat) (P0 : Nat → List Int32) (p : Int32) : Prop := ∀ q, q < c0 → p = nI q → (P0 q).count 47 + 1 < 6
def ta_aU (c0 : Nat) (pr nm : Nat → Int32) (p v : Int32) : Prop := ∃ j, j < c0 ∧ pr j = p ∧ nm j = v
def ta_aM (m : Int32) : Prop := ¬ m < 0 ∧ m ≤ 511
def ta_aL (c0 : Nat) (kd tg : Nat → Int32) (m t : Int32) : Prop := ∃ q, q < c0 ∧ m = nI q ∧ kd q ≠ 3 ∧ t = if kd q = 2 then tg q else nI q
def ta_AE (c0 mn : Nat) (kd pr nm tg : Nat → Int32) (P0 : Nat → List Int32) (p k v m r : Int32) : Prop :=
  (c0 = mn ∧ r = -3) ∨ (c0 ≠ mn ∧ ¬ ta_ki3 k ∧ r = -4) ∨ (c0 ≠ mn ∧ ta_ki3 k ∧ ¬ ta_V v ∧ r = -5) ∨ (c0 ≠ mn ∧ ta_ki3 k ∧ ta_V v ∧ ¬ ta_aP c0 kd p ∧ r = -6) ∨
  (c0 ≠ mn ∧ ta_ki3 k ∧ ta_V v ∧ ta_aP c0 kd p ∧ ¬ ta_aD c0 P0 p ∧ r = -7) ∨ (c0 ≠ mn ∧ ta_ki3 k ∧ ta_V v ∧ ta_aP c0 kd p ∧ ta_aD c0 P0 p ∧ ta_aU c0 pr nm p v ∧ r = -8) ∨
  (c0 ≠ mn ∧ ta_ki3 k ∧ ta_V v ∧ ta_aP c0 kd p ∧ ta_aD c0 P0 p ∧ ¬ ta_aU c0 pr nm p v ∧ k ≠ 2 ∧ ¬ ta_aM m ∧ r = -9) ∨
  (c0 ≠ mn ∧ ta_ki3 k ∧ ta_V v ∧ ta_aP c0 kd p ∧ ta_aD c0 P0 p ∧ ¬ ta_aU c0 pr nm p v ∧ k = 2 ∧ (¬ ∃ t, ta_aL c0 kd tg m t) ∧ r = -10)
def ta_AS (c0 mn : Nat) (kd pr nm tg : Nat → Int32) (P0 : Nat → List Int32) (p k v m mv t : Int32) : Prop :=
  c0 ≠ mn ∧ ta_ki3 k ∧ ta_V v ∧ ta_aP c0 kd p ∧ ta_aD c0 P0 p ∧ ¬ ta_aU c0 pr nm p v ∧ ((k ≠ 2 ∧ ta_aM m ∧ mv = m ∧ t = -1) ∨ (k = 2 ∧ ta_aL c0 kd tg m t ∧ mv = 0))
theorem ta_AE_u {c0 mn : Nat} {kd pr nm tg : Nat → Int32} {P0 : Nat → List Int32} {p k v m r r' : Int32} (h : ta_AE c0 mn kd pr nm tg P0 p k v m r) (h' : ta_AE c0 mn kd pr nm tg P0 p k v m r') : r = r' := by
  unfold ta_AE at h h'
  generalize ta_ki3 k = A at h h'
  generalize ta_V v = B at h h'
  generalize ta_aP c0 kd p = C at h h'
  generalize ta_aD c0 P0 p = D at h h'
  generalize ta_aU c0 pr nm p v = E at h h'
  rcases h with ⟨h1, h⟩ | ⟨h1, h2, h⟩ | ⟨h1, h2, h3, h⟩ | ⟨h1, h2, h3, h4, h⟩ | ⟨h1, h2, h3, h4, h5, h⟩ | ⟨h1, h2, h3, h4, h5, h6, h⟩ | ⟨h1, h2, h3, h4, h5, h6, h7, h8, h⟩ | ⟨h1, h2, h3, h4, h5, h6, h7, h8, h⟩ <;>
  rcases h' with ⟨g1, g⟩ | ⟨g1, g2, g⟩ | ⟨g1, g2, g3, g⟩ | ⟨g1, g2, g3, g4, g⟩ | ⟨g1, g2, g3, g4, g5, g⟩ | ⟨g1, g2, g3, g4, g5, g6, g⟩ | ⟨g1, g2, g3, g4, g5, g6, g7, g8, g⟩ | ⟨g1, g2, g3, g4, g5, g6, g7, g8, g⟩ <;>
  first
    | exact h.trans g.symm
    | exact absurd h1 g1
    | exact absurd g1 h1
    | exact absurd h2 g2
    | exact absurd g2 h2
    | exact absurd h3 g3
    | exact absurd g3 h3
    | exact absurd h4 g4
    | exact absurd g4 h4
    | exact absurd h5 g5
    | exact absurd g5 h5
    | exact absurd h6 g6
    | exact absurd g6 h6
    | exact absurd h7 g7
    | exact absurd g7 h7
theorem ta_AE_AS {c0 mn : Nat} {kd pr nm tg : Nat → Int32} {P0 : Nat → List Int32} {p k v m r mv t : Int32} (h : ta_AE c0 mn kd pr nm tg P0 p k v m r) (h' : ta_AS c0 mn kd pr nm tg P0 p k v m mv t) : False := by
  obtain ⟨g1, g2, g3, g4, g5, g6, g7⟩ := h'
  rcases h with ⟨h1, h⟩ | ⟨h1, h2, h⟩ | ⟨h1, h2, h3, h⟩ | ⟨h1, h2, h3, h4, h⟩ | ⟨h1, h2, h3, h4, h5, h⟩ | ⟨h1, h2, h3, h4, h5, h6, h⟩ | ⟨h1, h2, h3, h4, h5, h6, h7, h8, h⟩ | ⟨h1, h2, h3, h4, h5, h6, h7, h8, h⟩
  · exact g1 h1
  · exact h2 g2
  · exact h3 g3
  · exact h4 g4
  · exact h5 g5
  · exact g6 h6
  · rcases g7 with ⟨_, g, _⟩ | ⟨g, _⟩
    · exact h8 g
    · exact h7 g
  · rcases g7 with ⟨g, _⟩ | ⟨_, g, _⟩
    · exact g h7
    · exact h8 ⟨_, g⟩
theorem ta_AS_u {c0 mn : Nat} {kd pr nm tg : Nat → Int32} {P0 : Nat → List Int32} {p k v m mv t mv' t' : Int32} (hc : c0 ≤ 8) (h : ta_AS c0 mn kd pr nm tg P0 p k v m mv t) (h' : ta_AS c0 mn kd pr nm tg P0 p k v m mv' t') : mv = mv' ∧ t = t' := by
  obtain ⟨_, _, _, _, _, _, h⟩ := h
  obtain ⟨_, _, _, _, _, _, h'⟩ := h'
  rcases h with ⟨a, _, b, d⟩ | ⟨a, ⟨q, hq, e, _, d⟩, b⟩
  · rcases h' with ⟨_, _, b', d'⟩ | ⟨a', _⟩
    · exact ⟨b.trans b'.symm, d.trans d'.symm⟩
    · exact absurd a' a
  · rcases h' with ⟨a', _⟩ | ⟨_, ⟨q', hq', e', _, d'⟩, b'⟩
    · exact absurd a a'
    · have : q = q' := (nI_eq (by omega) (by omega)).mp (e.symm.trans e')
      exact ⟨b.trans b'.symm, by rw [d, d', this]⟩
section
variable {fa fb fl fe fp fn ft yc yo yb : Int32} {ct kd pr nm md my sz tg dt ar pa sc st : Nat → Int32} {c0 mn : Nat} {P0 : Nat → List Int32}
theorem xa_addNode (T : ta_Tr 0 c0 kd pr nm P0) (hct : ct 0 = nI c0) (hc : c0 ≤ mn) (hmn : mn ≤ 8) {post : Int32 → SX → Prop} {p k v m : Int32}
    (hE : ∀ r, ta_AE c0 mn kd pr nm tg P0 p k v m r → post r (nI mn, fb, fl, fe, fp, fn, ft, ct, kd, pr, nm, md, sz, tg, dt, ar, pa))
    (hS : ∀ mv t, ta_AS c0 mn kd pr nm tg P0 p k v m mv t → post (nI c0) (nI mn, fb, fl, fe, fp, fn, ft, upd ct 0 (nI (c0 + 1)), upd kd c0 k, upd pr c0 p, upd nm c0 v, upd md c0 mv, upd sz c0 0, upd tg c0 t, dt, ar, pa))
    (X : ∀ i, i < c0 → ta_Nx 0 kd sz tg i) :
    wpX_addNode post (nI mn, fb, fl, fe, fp, fn, ft, ct, kd, pr, nm, md, sz, tg, dt, ar, pa) p k v m := by
  have PN : c0 < 8 → ∀ mv t, post (nI c0) (nI mn, fb, fl, fe, fp, fn, ft, upd ct 0 (nI (c0 + 1)), upd kd c0 k, upd pr c0 p, upd nm c0 v, upd md c0 mv, upd sz c0 0, upd tg c0 t, dt, ar, pa) → wpX_putNode (fun u => match u with | (fa, fb, fl, fe, fp, fn, ft, ct, kd, pr, nm, md, sz, tg, dt, ar, pa) => (post (nI c0) (fa, fb, fl, fe, fp, fn, ft, ct, kd, pr, nm, md, sz, tg, dt, ar, pa))) (nI mn, fb, fl, fe, fp, fn, ft, ct, kd, pr, nm, md, sz, tg, dt, ar, pa) 0 k p v mv t := by
    intro h8 mv t h
    refine xa_putNode (t := 0) (by omega) hct h8 ?_
    have e : 8 * 0 + c0 = c0 := by omega
    rw [e]
    exact h
  have W65 : c0 ≠ mn → ta_ki3 k → ta_V v → ta_aP c0 kd p → wX_addNode_65 post p k v m (nI c0) (nI mn) fb fl fe fp fn ft ct kd pr nm md sz tg dt ar pa := by
    intro h1 h2 h3 h4
    have D : ∀ d : Nat, d ≤ 6 → (d < 6 ↔ ta_aD c0 P0 p) → ((nI d < 6 → (wpX_findChild (fun r_26 => (((r_26 = (-2) → (((k = 2 → (wpX_fileBehind (fun r_66 => (((r_66 = (-2) → (post (-10) (nI mn, fb, fl, fe, fp, fn, ft, ct, kd, pr, nm, md, sz, tg, dt, ar, pa))) ∧ (¬ r_66 = (-2) → (wpX_putNode (fun u => match u with | (fa, fb, fl, fe, fp, fn, ft, ct, kd, pr, nm, md, sz, tg, dt, ar, pa) => (post (nI c0) (fa, fb, fl, fe, fp, fn, ft, ct, kd, pr, nm, md, sz, tg, dt, ar, pa))) (nI mn, fb, fl, fe, fp, fn, ft, ct, kd, pr, nm, md, sz, tg, dt, ar, pa) 0 k p v 0 r_66))))) (nI mn, fb, fl, fe, fp, fn, ft, ct, kd, pr, nm, md, sz, tg, dt, ar, pa) 0 m)) ∧ (¬ k = 2 → (((m < 0 → (post (-9) (nI mn, fb, fl, fe, fp, fn, ft, ct, kd, pr, nm, md, sz, tg, dt, ar, pa))) ∧ (¬ m < 0 → (((m ≤ 511 → (wpX_putNode (fun u => match u with | (fa, fb, fl, fe, fp, fn, ft, ct, kd, pr, nm, md, sz, tg, dt, ar, pa) => (post (nI c0) (fa, fb, fl, fe, fp, fn, ft, ct, kd, pr, nm, md, sz, tg, dt, ar, pa))) (nI mn, fb, fl, fe, fp, fn, ft, ct, kd, pr, nm, md, sz, tg, dt, ar, pa) 0 k p v m (-1))) ∧ (¬ m ≤ 511 → (post (-9) (nI mn, fb, fl, fe, fp, fn, ft, ct, kd, pr, nm, md, sz, tg, dt, ar, pa)))))))))))) ∧ (¬ r_26 = (-2) → (post (-8) (nI mn, fb, fl, fe, fp, fn, ft, ct, kd, pr, nm, md, sz, tg, dt, ar, pa)))))) (nI mn, fb, fl, fe, fp, fn, ft, ct, kd, pr, nm, md, sz, tg, dt, ar, pa) 0 p v)) ∧ (¬ nI d < 6 → (post (-7) (nI mn, fb, fl, fe, fp, fn, ft, ct, kd, pr, nm, md, sz, tg, dt, ar, pa)))) := by
      intro d hd hiff
      refine pk_lt d 6 (fun g => ?_) (fun g => hE _ (Or.inr (Or.inr (Or.inr (Or.inr (Or.inl ⟨h1, h2, h3, h4, fun q => by have := hiff.mpr q; omega, rfl⟩))))))
      have h5 := hiff.mp g
      refine xa_findChild (t := 0) (by omega) hct (by omega) (fun j hj e1 e2 => br_f (fun z => nI_pos (n := j) (by omega) (by rw [z]; decide)) ?_) (fun no => br_t rfl ?_)
      · simp only [Nat.mul_zero, Nat.zero_add] at e1 e2
        exact hE _ (Or.inr (Or.inr (Or.inr (Or.inr (Or.inr (Or.inl ⟨h1, h2, h3, h4, h5, ⟨j, hj, e1, e2⟩, rfl⟩))))))
      · simp only [Nat.mul_zero, Nat.zero_add] at no
        have h6 : ¬ ta_aU c0 pr nm p v := fun ⟨j, hj, e1, e2⟩ => no j hj e1 e2
        refine br_c (fun k2 => ?_) (fun k2 => br_c (fun z => ?_) (fun z => br_c (fun w => ?_) (fun w => ?_)))
        · refine xa_fileBehind (t := 0) (by omega) hct (by omega) (fun q hq e k3 kk => ?_) (fun q hq e k3 kk => ?_) (fun w => br_t rfl ?_)
          · simp only [Nat.mul_zero, Nat.zero_add] at k3 kk ⊢
            obtain ⟨_, hx, _⟩ := X q hq
            simp only [Nat.zero_add] at hx
            obtain ⟨g, g1, g2, _⟩ := hx kk
            refine br_f (fun z => nI_pos (n := g) (by omega) (by rw [← g2, z]; decide)) (PN (by omega) _ _ (hS _ _ ⟨h1, h2, h3, h4, h5, h6, Or.inr ⟨k2, ⟨q, hq, e, k3, ?_⟩, rfl⟩⟩))
            rw [if_pos kk]
          · simp only [Nat.mul_zero, Nat.zero_add] at k3 kk
            refine br_f (fun z => nI_pos (n := q) (by omega) (by rw [z]; decide)) (PN (by omega) _ _ (hS _ _ ⟨h1, h2, h3, h4, h5, h6, Or.inr ⟨k2, ⟨q, hq, e, k3, ?_⟩, rfl⟩⟩))
            rw [if_neg kk]
          · simp only [Nat.mul_zero, Nat.zero_add] at w
            exact hE _ (Or.inr (Or.inr (Or.inr (Or.inr (Or.inr (Or.inr (Or.inr ⟨h1, h2, h3, h4, h5, h6, k2, fun ⟨t, q, hq, e, k3, _⟩ => k3 (w q hq e), rfl⟩)))))))
        · exact hE _ (Or.inr (Or.inr (Or.inr (Or.inr (Or.inr (Or.inr (Or.inl ⟨h1, h2, h3, h4, h5, h6, k2, fun q => q.1 z, rfl⟩)))))))
        · exact PN (by omega) _ _ (hS _ _ ⟨h1, h2, h3, h4, h5, h6, Or.inl ⟨k2, ⟨z, w⟩, rfl, rfl⟩⟩)
        · exact hE _ (Or.inr (Or.inr (Or.inr (Or.inr (Or.inr (Or.inr (Or.inl ⟨h1, h2, h3, h4, h5, h6, k2, fun q => w q.2, rfl⟩)))))))
    unfold wX_addNode_65
    have h4' := h4
    rcases h4' with e | ⟨q, hq, e, k3⟩
    · subst e
      exact xa_sourceDepth0 (D 0 (by omega) ⟨fun _ q hq e => absurd e.symm (ta_m1 (by omega)), fun _ => by omega⟩)
    · subst e
      have h5 := (T.1 q hq).2.1
      refine xa_sourceDepth T (by omega) hq (D _ (by omega) ⟨fun g q' hq' e => ?_, fun w => w q hq rfl⟩)
      have : q = q' := (nI_eq (by omega) (by omega)).mp e
      rw [← this]; exact g
  have W38 : c0 ≠ mn → ta_ki3 k → wX_addNode_38 post p k v m (nI c0) (nI mn) fb fl fe fp fn ft ct kd pr nm md sz tg dt ar pa := by
    intro h1 h2
    unfold wX_addNode_38
    refine xa_isValidName (fun h3 => br_f (by decide) (br_c (fun z => W65 h1 h2 h3 (Or.inl z)) (fun z => ?_))) (fun h3 => br_t rfl (hE _ (Or.inr (Or.inr (Or.inl ⟨h1, h2, h3, rfl⟩)))))
    refine xa_isDir (t := 0) (by omega) hct (by omega) (fun j hj e k3 => br_f (by decide) ?_) (fun w => br_t rfl ?_)
    · simp only [Nat.mul_zero, Nat.zero_add] at k3
      exact W65 h1 h2 h3 (Or.inr ⟨j, hj, e, k3⟩)
    · simp only [Nat.mul_zero, Nat.zero_add] at w
      refine hE _ (Or.inr (Or.inr (Or.inr (Or.inl ⟨h1, h2, h3, fun q => ?_, rfl⟩))))
      rcases q with q | ⟨j, hj, e, k3⟩
      · exact z q
      · exact w j hj e k3
  refine nm_r hct (pk_lt c0 mn (fun g => ?_) (fun g => hE _ (Or.inl ⟨by omega, rfl⟩)))
  have h1 : c0 ≠ mn := by omega
  refine br_c (fun z => W38 h1 (Or.inl z)) (fun z => br_c (fun w => W38 h1 (Or.inr (Or.inl w))) (fun w => br_c (fun y => W38 h1 (Or.inr (Or.inr y))) (fun y => hE _ (Or.inr (Or.inl ⟨h1, fun q => q.elim z (fun q => q.elim w y), rfl⟩)))))
theorem ya_a86 (T : ta_Tr 0 c0 kd pr nm P0) (hc : c0 ≤ 8) {post : Int32 → SY → Prop} {x1 x2 x3 x4 x5 : Int32} : ∀ n d g i, i < c0 → g + (P0 i).count 47 ≤ 6 → (P0 i).count 47 + 1 < n → wY_addNode_116 post x1 x2 x3 x4 x5 (nI (d + (P0 i).count 47 + 1)) fa fb fl fe yc yo yb ct kd pr nm my tg sz dt ar sc st → wY_addNode_86 post x1 x2 x3 x4 x5 fa fb fl fe yc yo yb ct kd pr nm my tg sz dt ar sc st n (nI d) (nI i) (nI g) := by
  intro n
  induction n with
  | zero => intro d g i _ _ h; omega
  | succ n ih =>
    intro d g i hi h1 h2 hp
    obtain ⟨hv, _, h⟩ := ta_Nd0 T hi
    refine br_f (nI_ge (b := 8) (by omega) (by decide)) (br_f (nI_pos (by omega)) (nm_r (nI_1 d) ⟨vp_in_nI (by omega) (by omega), nm_r (by rw [nI_clamp (by omega)]) (nm_r (nI_1 g) ?_)⟩))
    rcases h with ⟨e, f⟩ | ⟨q, hq, e, _, f⟩
    · rw [e]
      rw [f, ta_cnt hv] at hp
      obtain ⟨n, rfl⟩ : ∃ m, n = m + 1 := ⟨n - 1, by omega⟩
      exact br_c (fun _ => hp) (fun _ => br_t (by decide) hp)
    · have z := ta_cntq hv (P0 q)
      rw [← f] at z
      rw [e]
      refine ih (d + 1) (g + 1) q (by omega) (by omega) (by omega) ?_
      rw [show d + 1 + (P0 q).count 47 + 1 = d + (P0 i).count 47 + 1 by omega]
      exact hp
theorem ya_a242 {post : Int32 → SY → Prop} {p k v m mv t : Int32} (hc : c0 < 8) (hm : (k = 2 ∧ mv = 0) ∨ (k ≠ 2 ∧ mv = m)) (h : post (nI c0) (fa, fb, fl, fe, yc, yo, yb, upd ct 0 (nI (c0 + 1)), upd kd c0 k, upd pr c0 p, upd nm c0 v, upd my c0 mv, upd tg c0 t, upd sz c0 0, dt, ar, sc, st)) :
    wY_addNode_242 post p k v m (nI c0) t fa fb fl fe yc yo yb ct kd pr nm my tg sz dt ar sc st := by
  have iv : vp_in (nI c0) 16 := vp_in_nI (by omega) (by omega)
  have en : (nI c0).toNatClampNeg = c0 := nI_clamp (by omega)
  refine ⟨iv, nm_r (by rw [en]) ⟨iv, nm_r (by rw [en]) ⟨iv, nm_r (by rw [en]) ?_⟩⟩⟩
  have K : wY_addNode_283 post (nI c0) t mv (nI c0) fa fb fl fe yc yo yb ct (upd kd c0 k) (upd pr c0 p) (upd nm c0 v) my tg sz dt ar sc st :=
    ⟨iv, nm_r (by rw [en]) ⟨iv, nm_r (by rw [en]) ⟨iv, nm_r (by rw [en]) (nm_r (by rw [nI_1]) h)⟩⟩⟩
  rcases hm with ⟨k2, e⟩ | ⟨k2, e⟩
  · rw [e] at K
    exact br_t k2 K
  · rw [e] at K
    exact br_f k2 K
theorem ya_a129 (hc : c0 ≤ mn) (hmn : mn ≤ 8) {post : Int32 → SY → Prop} {p k v m : Int32}
    (h1 : c0 ≠ mn) (h2 : ta_ki3 k) (h3 : ta_V v) (h4 : ta_aP c0 kd p) (h5 : ta_aD c0 P0 p)
    (hE : ∀ r, ta_AE c0 mn kd pr nm tg P0 p k v m r → post r (fa, fb, fl, fe, yc, yo, yb, ct, kd, pr, nm, my, tg, sz, dt, ar, sc, st))
    (hS : ∀ mv t, ta_AS c0 mn kd pr nm tg P0 p k v m mv t → post (nI c0) (fa, fb, fl, fe, yc, yo, yb, upd ct 0 (nI (c0 + 1)), upd kd c0 k, upd pr c0 p, upd nm c0 v, upd my c0 mv, upd tg c0 t, upd sz c0 0, dt, ar, sc, st))
    (X : ∀ i, i < c0 → ta_Nx 0 kd sz tg i) :
    ∀ n j, j ≤ c0 → c0 < j + n → (∀ i, i < j → pr i = p → nm i = v → False) → wY_addNode_129 post p k v m (nI c0) fa fb fl fe yc yo yb ct kd pr nm my tg sz dt ar sc st n (nI j) := by
  intro n
  induction n with
  | zero => intro j _ g; omega
  | succ n ih =>
    intro j g1 g2 g3
    refine pk_le c0 j (fun g => ?_) (fun g => ⟨vp_in_nI (by omega) (by omega), ?_⟩)
    · have h6 : ¬ ta_aU c0 pr nm p v := fun ⟨i, hi, e1, e2⟩ => g3 i (by omega) e1 e2
      refine br_c (fun k2 => ?_) (fun k2 => br_c (fun z => ?_) (fun z => br_c (fun w => ?_) (fun w => ?_)))
      · have NO : (¬ ∃ t, ta_aL c0 kd tg m t) → post (-10) (fa, fb, fl, fe, yc, yo, yb, ct, kd, pr, nm, my, tg, sz, dt, ar, sc, st) := fun q => hE _ (Or.inr (Or.inr (Or.inr (Or.inr (Or.inr (Or.inr (Or.inr ⟨h1, h2, h3, h4, h5, h6, k2, q, rfl⟩)))))))
        refine br_c (fun z => NO (fun ⟨t, q, hq, e, _⟩ => absurd z (by rw [e]; exact nI_pos (by omega)))) (fun z => br_c (fun w => NO (fun ⟨t, q, hq, e, _⟩ => absurd w (by rw [e]; exact nI_ge hq (by omega)))) (fun w => ?_))
        obtain ⟨q, hq', rfl⟩ := nI_of z
        have hq : q < c0 := by
          rcases Nat.lt_or_ge q c0 with y | y
          · exact y
          · exact absurd (nI_le y hq') w
        have iv : vp_in (nI q) 16 := vp_in_nI (by omega) (by omega)
        refine ⟨iv, ?_⟩
        rw [nI_clamp hq']
        refine br_c (fun k3 => NO (fun ⟨t, i, hi, e, n3, _⟩ => n3 ?_)) (fun k3 => ⟨iv, br_c (fun kk => ?_) (fun kk => ⟨iv, ?_⟩)⟩)
        · have : q = i := (nI_eq (by omega) (by omega)).mp e
          rw [← this]; exact k3
        · refine ya_a242 (by omega) (Or.inl ⟨k2, rfl⟩) (hS _ _ ⟨h1, h2, h3, h4, h5, h6, Or.inr ⟨k2, ⟨q, hq, rfl, k3, ?_⟩, rfl⟩⟩)
          rw [if_neg (by rw [kk]; decide)]
        · refine ya_a242 (by omega) (Or.inl ⟨k2, rfl⟩) (hS _ _ ⟨h1, h2, h3, h4, h5, h6, Or.inr ⟨k2, ⟨q, hq, rfl, k3, ?_⟩, rfl⟩⟩)
          have hk := (X q hq).1
          rw [Nat.zero_add] at hk
          rcases hk with y | y | y
          · exact absurd y kk
          · rw [if_pos y]
          · exact absurd y k3
      · exact hE _ (Or.inr (Or.inr (Or.inr (Or.inr (Or.inr (Or.inr (Or.inl ⟨h1, h2, h3, h4, h5, h6, k2, fun q => q.1 z, rfl⟩)))))))
      · exact ya_a242 (by omega) (Or.inr ⟨k2, rfl⟩) (hS _ _ ⟨h1, h2, h3, h4, h5, h6, Or.inl ⟨k2, ⟨z, w⟩, rfl, rfl⟩⟩)
      · exact hE _ (Or.inr (Or.inr (Or.inr (Or.inr (Or.inr (Or.inr (Or.inl ⟨h1, h2, h3, h4, h5, h6, k2, fun q => w q.2, rfl⟩)))))))
    · rw [nI_clamp (by omega)]
      have nx : (pr j = p → nm j = v → False) → wY_addNode_129 post p k v m (nI c0) fa fb fl fe yc yo yb ct kd pr nm my tg sz dt ar sc st n (nI (j + 1)) := fun q => ih (j + 1) (by omega) (by omega) (fun i hi => by
        rcases Nat.lt_or_ge i j with y | y
        · exact g3 i y
        · rw [show i = j by omega]; exact q)
      refine br_c (fun z => ⟨vp_in_nI (by omega) (by omega), br_c (fun w => ?_) (fun w => nm_r (nI_1 j) (nx (fun _ q => w q)))⟩) (fun z => nm_r (nI_1 j) (nx (fun q _ => z q)))
      exact hE _ (Or.inr (Or.inr (Or.inr (Or.inr (Or.inr (Or.inl ⟨h1, h2, h3, h4, h5, ⟨j, g, z, w⟩, rfl⟩))))))
theorem ya_addNode (T : ta_Tr 0 c0 kd pr nm P0) (hct : ct 0 = nI c0) (hc : c0 ≤ mn) (hmn : mn ≤ 8) {post : Int32 → SY → Prop} {p k v m : Int32}
    (hE : ∀ r, ta_AE c0 mn kd pr nm tg P0 p k v m r → post r (nI mn, fb, fl, fe, yc, yo, yb, ct, kd, pr, nm, my, tg, sz, dt, ar, sc, st))
    (hS : ∀ mv t, ta_AS c0 mn kd pr nm tg P0 p k v m mv t → post (nI c0) (nI mn, fb, fl, fe, yc, yo, yb, upd ct 0 (nI (c0 + 1)), upd kd c0 k, upd pr c0 p, upd nm c0 v, upd my c0 mv, upd tg c0 t, upd sz c0 0, dt, ar, sc, st))
    (X : ∀ i, i < c0 → ta_Nx 0 kd sz tg i) :
    wpY_addNode post (nI mn, fb, fl, fe, yc, yo, yb, ct, kd, pr, nm, my, tg, sz, dt, ar, sc, st) p k v m := by
  have W116 : c0 ≠ mn → ta_ki3 k → ta_V v → ta_aP c0 kd p → ∀ d : Nat, d ≤ 6 → (d < 6 ↔ ta_aD c0 P0 p) → wY_addNode_116 post p k v m (nI c0) (nI (1 + d)) (nI mn) fb fl fe yc yo yb ct kd pr nm my tg sz dt ar sc st := by
    intro h1 h2 h3 h4 d hd hiff
    refine pk_le (1 + d) 6 (fun g => ⟨c0 + 1, ?_⟩) (fun g => hE _ (Or.inr (Or.inr (Or.inr (Or.inr (Or.inl ⟨h1, h2, h3, h4, fun q => by have := hiff.mpr q; omega, rfl⟩))))))
    exact ya_a129 hc hmn h1 h2 h3 h4 (hiff.mp (by omega)) hE hS X (c0 + 1) 0 (Nat.zero_le _) (by omega) (fun i hi => by omega)
  have W38 : c0 ≠ mn → ta_ki3 k → wY_addNode_38 post p k v m (nI c0) (nI mn) fb fl fe yc yo yb ct kd pr nm my tg sz dt ar sc st := by
    intro h1 h2
    unfold wY_addNode_38
    refine ya_validName (fun h3 => br_f (by decide) (br_c (fun z => ?_) (fun z => ?_))) (fun h3 => br_t rfl (hE _ (Or.inr (Or.inr (Or.inl ⟨h1, h2, h3, rfl⟩)))))
    · have h4 : ta_aP c0 kd p := Or.inl z
      have K := W116 h1 h2 h3 h4 0 (by omega) ⟨fun _ q hq e => absurd (e.symm.trans z) (ta_m1 (by omega)), fun _ => by omega⟩
      refine ⟨1, br_f (by decide) (br_t (by rw [z]; decide) K)⟩
    · have NP : ¬ ta_aP c0 kd p → post (-6) (nI mn, fb, fl, fe, yc, yo, yb, ct, kd, pr, nm, my, tg, sz, dt, ar, sc, st) := fun q => hE _ (Or.inr (Or.inr (Or.inr (Or.inl ⟨h1, h2, h3, q, rfl⟩))))
      refine br_c (fun y => NP (fun q => ?_)) (fun y => br_c (fun w => NP (fun q => ?_)) (fun w => ?_))
      · rcases q with q | ⟨i, hi, e, _⟩
        · exact z q
        · exact absurd y (by rw [e]; exact nI_pos (by omega))
      · rcases q with q | ⟨i, hi, e, _⟩
        · exact z q
        · exact absurd w (by rw [e]; exact nI_ge hi (by omega))
      · obtain ⟨q, hq', rfl⟩ := nI_of y
        have hq : q < c0 := by
          rcases Nat.lt_or_ge q c0 with y | y
          · exact y
          · exact absurd (nI_le y hq') w
        refine ⟨vp_in_nI (by omega) (by omega), ?_⟩
        rw [nI_clamp hq']
        refine br_c (fun k3 => ⟨8, ?_⟩) (fun k3 => NP (fun x => ?_))
        · have h5 := (T.1 q hq).2.1
          have K := W116 h1 h2 h3 (Or.inr ⟨q, hq, rfl, k3⟩) ((P0 q).count 47 + 1) (by omega) ⟨fun g q' hq' e => by
            have : q = q' := (nI_eq (by omega) (by omega)).mp e
            rw [← this]; exact g, fun w => w q hq rfl⟩
          exact ya_a86 T (by omega) 8 1 0 q hq (by omega) (by omega) K
        · rcases x with x | ⟨i, hi, e, n3⟩
          · exact z x
          · have : q = i := (nI_eq (by omega) (by omega)).mp e
            exact k3 (by rw [this]; exact n3)
  refine nm_r hct (pk_eq c0 mn (fun g => hE _ (Or.inl ⟨g, rfl⟩)) (fun h1 => ?_))
  refine br_c (fun z => W38 h1 (Or.inl z)) (fun z => br_c (fun w => W38 h1 (Or.inr (Or.inl w))) (fun w => br_c (fun y => W38 h1 (Or.inr (Or.inr y))) (fun y => hE _ (Or.inr (Or.inl ⟨h1, fun q => q.elim z (fun q => q.elim w y), rfl⟩)))))
end
