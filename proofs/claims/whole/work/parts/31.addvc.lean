/-! 31: addNode and appendData -/
theorem ta_I_add {c0 c mn : Nat} {ct kd pr nm md my sz tg dt : Nat → Int32} {P0 P : Nat → List Int32} {p k v m mv t : Int32} (hc0 : c0 < 8) (I : ta_I c0 c ct kd pr nm md my sz tg dt P0 P) (S : ta_AS c0 mn kd pr nm tg P0 p k v m mv t) :
    ∃ P', ta_I (c0 + 1) c (upd ct 0 (nI (c0 + 1))) (upd kd c0 k) (upd pr c0 p) (upd nm c0 v) (upd md c0 mv) (upd my c0 mv) (upd sz c0 0) (upd tg c0 t) dt P' P := by
  obtain ⟨i1, i2, i3, i4, i5, i6, i7, i8, i9⟩ := I
  obtain ⟨s1, s2, s3, s4, s5, s6, s7⟩ := S
  have hlo : ∀ (a : Nat → Int32) (x : Int32) (i : Nat), i < c0 → upd a c0 x i = a i := fun a x i hi => pk_un (by omega)
  have hlo' : ∀ (a : Nat → Int32) (x : Int32) (i : Nat), i < c0 → upd a c0 x (0 + i) = a (0 + i) := fun a x i hi => pk_un (by omega)
  have hhi : ∀ (a : Nat → Int32) (x : Int32) (i : Nat), i < c → upd a c0 x (8 + i) = a (8 + i) := fun a x i hi => pk_un (by omega)
  have us : ∀ (a : Nat → Int32) (x : Int32), upd a c0 x (0 + c0) = x := fun a x => by rw [Nat.zero_add]; exact pk_us
  have T0 := ta_Tr_cg i3 (kd' := upd kd c0 k) (par' := upd pr c0 p) (nm' := upd nm c0 v) (hlo' _ _) (hlo' _ _) (hlo' _ _)
  have X0 := ta_Nx_cg i5 (kd' := upd kd c0 k) (sz' := upd sz c0 0) (tg' := upd tg c0 t) (hlo' _ _) (hlo' _ _) (hlo' _ _)
  have TT : ∃ P', ta_Tr 0 (c0 + 1) (upd kd c0 k) (upd pr c0 p) (upd nm c0 v) P' := by
    have hu : ∀ i, i < c0 → upd pr c0 p (0 + i) = upd pr c0 p (0 + c0) → upd nm c0 v (0 + i) = upd nm c0 v (0 + c0) → False := by
      intro i hi e1 e2
      rw [us, hlo' _ _ i hi, Nat.zero_add] at e1 e2
      exact s6 ⟨i, hi, e1, e2⟩
    rcases s4 with e | ⟨q, hq, e, k3⟩
    · refine ⟨_, ta_Tr_add T0 (N := ta_t v) (by rw [us]; exact s3) (by rw [ta_cnt s3]; omega) (Or.inl ⟨by rw [us]; exact e, by rw [us]⟩) hu⟩
    · have := s5 q hq e
      refine ⟨_, ta_Tr_add T0 (N := P0 q ++ 47 :: ta_t v) (by rw [us]; exact s3) (by rw [ta_cntq s3]; omega) (Or.inr ⟨q, hq, by rw [us]; exact e, by rw [hlo' _ _ q hq, Nat.zero_add]; exact k3, by rw [us]⟩) hu⟩
  obtain ⟨P', TT⟩ := TT
  refine ⟨P', pk_us, by rw [pk_un (by decide)]; exact i2, TT, ta_Tr_cg i4 (hhi _ _) (hhi _ _) (hhi _ _), ?_, ta_Nx_cg i6 (hhi _ _) (hhi _ _) (hhi _ _), ?_, ?_, i9⟩
  · intro i hi
    by_cases z : i < c0
    · exact X0 i z
    · have e : i = c0 := by omega
      subst e
      refine ⟨by rw [us]; exact s2.elim (fun q => Or.inr (Or.inr q)) (fun q => q.elim Or.inl (fun q => Or.inr (Or.inl q))), ?_, by rw [us]; exact ⟨0, by omega, rfl⟩, fun _ => by rw [us]⟩
      rw [us, us]
      intro k2
      rcases s7 with ⟨n2, _⟩ | ⟨_, ⟨q, hq, _, k3, e⟩, _⟩
      · exact absurd k2 n2
      · obtain ⟨j1, j2, _, _⟩ := i5 q hq
        simp only [Nat.zero_add] at j1 j2
        by_cases y : kd q = 2
        · rw [if_pos y] at e
          obtain ⟨q', q1, q2, q3⟩ := j2 y
          exact ⟨q', by omega, e.trans q2, by rw [hlo' _ _ q' (by omega), Nat.zero_add]; exact q3⟩
        · rw [if_neg y] at e
          refine ⟨q, hq, e, ?_⟩
          rw [hlo' _ _ q hq, Nat.zero_add]
          rcases j1 with x | x | x
          · exact x
          · exact absurd x y
          · exact absurd x k3
  · intro i hi
    by_cases z : i < c0
    · rw [hlo _ _ i z, hlo _ _ i z]
      exact i7 i z
    · have e : i = c0 := by omega
      subst e
      rw [pk_us, pk_us]
      intro k2
      rcases s7 with ⟨n2, _⟩ | ⟨_, _, e⟩
      · exact absurd k2 n2
      · exact e
  · intro j
    by_cases z : j = c0
    · rw [z, pk_us, pk_us, pk_us]
      exact fun _ => rfl
    · rw [pk_un z, pk_un z, pk_un z]
      exact i8 j
theorem i_vc_addNode {k : Nat} {u : SX} {v : SY} (I : i_Rel k u v) (hk : k + 5 ≤ 2562) (v1 : Int32) (v2 : Int32) (v3 : Int32) (v4 : Int32) : wpX_addNode (fun r u' => wpY_addNode (fun r' v' => r' = r ∧ i_Rel (k + 5) u' v') v v1 v2 v3 v4) u v1 v2 v3 v4 := by
  have I' := I
  obtain ⟨mn, mb, L, c0, c, fe, ct, kd, pr, nm, md, my, sz, tg, dt, ar, P0, P, ⟨fp, fn, ft, pa, rfl⟩, ⟨yc, yo, yb, sc, st, rfl⟩, hmn, hmb, hL, hc0, hc, J, hb⟩ := I
  have J' := J
  obtain ⟨i1, i2, i3, i4, i5, i6, i7, i8, i9⟩ := J
  refine xa_addNode i3 i1 hc0 hmn (fun r hr => ?_) (fun mv t hs => ?_) i5
  · exact ya_addNode i3 i1 hc0 hmn (fun r' hr' => ⟨ta_AE_u hr' hr, I'⟩) (fun mv t hs => (ta_AE_AS hr hs).elim) i5
  · refine ya_addNode i3 i1 hc0 hmn (fun r' hr' => (ta_AE_AS hr' hs).elim) (fun mv' t' hs' => ⟨rfl, ?_⟩) i5
    obtain ⟨e1, e2⟩ := ta_AS_u (by omega) hs hs'
    subst e1 e2
    have hcm : c0 ≠ mn := hs.1
    obtain ⟨P', J2⟩ := ta_I_add (by omega) J' hs
    exact ⟨mn, mb, L, c0 + 1, c, fe, _, _, _, _, _, _, _, _, dt, ar, P', P, ⟨_, _, _, _, rfl⟩, ⟨_, _, _, _, _, rfl⟩, hmn, hmb, hL, by omega, hc, J2, hb⟩
theorem ta_I_app {c0 c f s : Nat} {ct kd pr nm md my sz tg dt : Nat → Int32} {P0 P : Nat → List Int32} {x : Int32} (hf : f < c0) (hc0 : c0 ≤ 8) (hs : s < 32) (hk : kd f = 1) (hx : ta_by x) (I : ta_I c0 c ct kd pr nm md my sz tg dt P0 P) :
    ta_I c0 c ct kd pr nm md my (upd sz f (nI (s + 1))) tg (upd dt (32 * f + s) x) P0 P := by
  obtain ⟨i1, i2, i3, i4, i5, i6, i7, i8, i9⟩ := I
  refine ⟨i1, i2, i3, i4, fun i hi => ?_, ta_Nx_cg i6 (fun _ _ => rfl) (fun i hi => pk_un (by omega)) (fun _ _ => rfl), i7, i8, ta_upd_by i9 hx⟩
  obtain ⟨a1, a2, a3, a4⟩ := i5 i hi
  refine ⟨a1, a2, ?_, ?_⟩
  · by_cases z : i = f
    · rw [Nat.zero_add, z, pk_us]; exact ⟨s + 1, by omega, rfl⟩
    · rw [Nat.zero_add, pk_un z]; rw [Nat.zero_add] at a3; exact a3
  · intro k1
    by_cases z : i = f
    · rw [Nat.zero_add, z] at k1; exact absurd hk k1
    · have := a4 k1
      rw [Nat.zero_add] at this
      rw [Nat.zero_add, pk_un z]; exact this
theorem i_vc_appendData {k : Nat} {u : SX} {v : SY} (I : i_Rel k u v) (hk : k + 5 ≤ 2562) (v1 : Int32) (v2 : Int32) : wpX_appendData (fun r u' => wpY_appendData (fun r' v' => r' = r ∧ i_Rel (k + 5) u' v') v v1 v2) u v1 v2 := by
  have I' := I
  obtain ⟨mn, mb, L, c0, c, fe, ct, kd, pr, nm, md, my, sz, tg, dt, ar, P0, P, ⟨fp, fn, ft, pa, rfl⟩, ⟨yc, yo, yb, sc, st, rfl⟩, hmn, hmb, hL, hc0, hc, J, hb⟩ := I
  have J' := J
  obtain ⟨i1, i2, i3, i4, i5, i6, i7, i8, i9⟩ := J
  unfold wpX_appendData
  refine xa_isNode (t := 0) (by omega) i1 (by omega) (fun j hj e => br_f (by decide) ?_) (fun no => br_t rfl ?_)
  · subst e
    have hlt : nI j < ct 0 := by rw [i1]; exact nI_lt hj (by omega)
    have iv : vp_in (nI j) 16 := vp_in_nI (by omega) (by omega)
    have en : (nI j).toNatClampNeg = j := nI_clamp (by omega)
    have h0 : ¬ nI j < 0 := nI_pos (by omega)
    -- both, once the file is known
    have F : ∀ f : Nat, f < c0 → kd f = 1 → kd j ≠ 3 → ((kd j = 2 ∧ tg j = nI f) ∨ (kd j ≠ 2 ∧ f = j)) → wpX_isByte (fun r_39 => (((r_39 = 0 → (wpY_appendData (fun r' v' => r' = -2 ∧ i_Rel (k + 5) (nI mn, nI mb, nI L, fe, fp, fn, ft, ct, kd, pr, nm, md, sz, tg, dt, ar, pa) v') (nI mn, nI mb, nI L, fe, yc, yo, yb, ct, kd, pr, nm, my, tg, sz, dt, ar, sc, st) (nI j) v2)) ∧ (¬ r_39 = 0 → (vp_in (nI f) 16 ∧ (∀ x4_42, x4_42 = sz (nI f).toNatClampNeg → (((x4_42 < 32 → (vp_in ((nI f * 32) + x4_42) 512 ∧ ∀ a_contents_45, a_contents_45 = upd dt ((nI f * 32) + x4_42).toNatClampNeg v2 → (vp_in (nI f) 16 ∧ ∀ a_sizes_47, a_sizes_47 = upd sz (nI f).toNatClampNeg (x4_42 + 1) → (wpY_appendData (fun r' v' => r' = (x4_42 + 1) ∧ i_Rel (k + 5) (nI mn, nI mb, nI L, fe, fp, fn, ft, ct, kd, pr, nm, md, a_sizes_47, tg, a_contents_45, ar, pa) v') (nI mn, nI mb, nI L, fe, yc, yo, yb, ct, kd, pr, nm, my, tg, sz, dt, ar, sc, st) (nI j) v2)))) ∧ (¬ x4_42 < 32 → (wpY_appendData (fun r' v' => r' = -3 ∧ i_Rel (k + 5) (nI mn, nI mb, nI L, fe, fp, fn, ft, ct, kd, pr, nm, md, sz, tg, dt, ar, pa) v') (nI mn, nI mb, nI L, fe, yc, yo, yb, ct, kd, pr, nm, my, tg, sz, dt, ar, sc, st) (nI j) v2)))))))))) v2 := by
      intro f hf k1 k3 hlk
      obtain ⟨_, _, ⟨s, s1, s2⟩, _⟩ := i5 f hf
      rw [Nat.zero_add] at s2
      have ivf : vp_in (nI f) 16 := vp_in_nI (by omega) (by omega)
      have enf : (nI f).toNatClampNeg = f := nI_clamp (by omega)
      have ef : sz (nI f).toNatClampNeg = nI s := by rw [enf]; exact s2
      -- the reference, up to the file
      have Y : ∀ post : Int32 → SY → Prop, ¬ v2 < 0 → v2 ≤ 255 → wY_appendData_64 post v2 (nI f) (nI mn) (nI mb) (nI L) fe yc yo yb ct kd pr nm my tg sz dt ar sc st → wpY_appendData post (nI mn, nI mb, nI L, fe, yc, yo, yb, ct, kd, pr, nm, my, tg, sz, dt, ar, sc, st) (nI j) v2 := by
        intro post b0 b1 h
        refine br_f h0 (br_t hlt ⟨iv, ?_⟩)
        rw [en]
        refine br_f k3 (br_f b0 (br_t b1 ⟨iv, ?_⟩))
        rcases hlk with ⟨k2, e⟩ | ⟨k2, e⟩
        · refine br_t k2 ⟨iv, ?_⟩
          rw [e]; exact h
        · rw [e] at h
          exact br_f k2 h
      refine xa_isByte (fun b0 b1 b2 => br_f (by decide) ⟨ivf, nm_r ef (pk_lt s 32 (fun g => ?_) (fun g => ?_))⟩) (fun q => br_t rfl ?_)
      · have ex : nI f * 32 + nI s = nI (32 * f + s) := by rw [show (32 : Int32) = nI 32 from rfl, pk_mul, nI_add, Nat.mul_comm]
        have ivx : vp_in (nI f * 32 + nI s) 512 := by rw [ex]; exact vp_in_nI (by omega) (by omega)
        refine ⟨ivx, nm_r (e' := upd dt (32 * f + s) v2) (by rw [ex, nI_clamp (by omega)]) ⟨ivf, nm_r (e' := upd sz f (nI (s + 1))) (by rw [enf, nI_1]) ?_⟩⟩
        refine Y _ b0 b1 ⟨ivf, ?_⟩
        rw [ef]
        refine br_t (nI_lt (b := 32) g (by decide)) ⟨ivf, ivx, nm_r (e' := upd dt (32 * f + s) v2) (by rw [ex, nI_clamp (by omega)]) ⟨ivf, ivf, nm_r (e' := upd sz f (nI (s + 1))) (by rw [enf, nI_1]) ⟨ivf, ?_⟩⟩⟩
        rw [enf, pk_us]
        exact ⟨(nI_1 s).symm, mn, mb, L, c0, c, fe, ct, kd, pr, nm, md, my, _, tg, _, ar, P0, P, ⟨_, _, _, _, rfl⟩, ⟨_, _, _, _, _, rfl⟩, hmn, hmb, hL, hc0, hc, ta_I_app hf (by omega) g k1 b2 J', hb⟩
      · refine Y _ b0 b1 ⟨ivf, ?_⟩
        rw [ef]
        exact br_f (nI_nlt (b := 32) g (by omega)) ⟨rfl, I'⟩
      · refine br_f h0 (br_t hlt ⟨iv, ?_⟩)
        rw [en]
        rcases q with q | ⟨q, q2⟩
        · exact br_f k3 (br_t q ⟨rfl, I'⟩)
        · exact br_f k3 (br_f q (br_f q2 ⟨rfl, I'⟩))
    refine xa_fileBehind (t := 0) (by omega) i1 (by omega) (fun q hq e k3 k2 => ?_) (fun q hq e k3 k2 => ?_) (fun w => br_t rfl ?_)
    · have : j = q := (nI_eq (by omega) (by omega)).mp e
      subst this
      simp only [Nat.mul_zero, Nat.zero_add] at k3 k2 ⊢
      obtain ⟨_, hx, _⟩ := i5 j hj
      simp only [Nat.zero_add] at hx
      obtain ⟨f, g1, g2, g3⟩ := hx k2
      rw [g2]
      exact br_f (fun z => nI_pos (n := f) (by omega) (by rw [z]; decide)) (F f (by omega) g3 k3 (Or.inl ⟨k2, g2⟩))
    · have : j = q := (nI_eq (by omega) (by omega)).mp e
      subst this
      simp only [Nat.mul_zero, Nat.zero_add] at k3 k2
      have hkk := (i5 j hj).1
      rw [Nat.zero_add] at hkk
      have k1 : kd j = 1 := by
        rcases hkk with x | x | x
        · exact x
        · exact absurd x k2
        · exact absurd x k3
      exact br_f (fun z => nI_pos (n := j) (by omega) (by rw [z]; decide)) (F j hj k1 k3 (Or.inr ⟨k2, rfl⟩))
    · have k3 := w j hj rfl
      simp only [Nat.mul_zero, Nat.zero_add] at k3
      refine br_f h0 (br_t hlt ⟨iv, ?_⟩)
      rw [en]
      exact br_t k3 ⟨rfl, I'⟩
  · by_cases z : v1 < 0
    · exact br_t z ⟨rfl, I'⟩
    · obtain ⟨j, hj, rfl⟩ := nI_of z
      have hjc : c0 ≤ j := by
        rcases Nat.lt_or_ge j c0 with y | y
        · exact absurd rfl (no j y)
        · exact y
      exact br_f z (br_f (by rw [i1]; exact nI_nlt hjc hj) ⟨rfl, I'⟩)
