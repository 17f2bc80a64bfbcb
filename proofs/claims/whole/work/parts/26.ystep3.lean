/-! 26: the reference's step, whole -/
section
variable {fa fb fl fe yc yo yb : Int32} {ct kd pr nm my tg sz dt ar sc st : Nat → Int32} {P : Nat → List Int32} {c : Nat}
theorem ya_551 (H : ta_Tr 8 c kd pr nm P) (hct : ct 1 = nI c) {post : Int32 → SY → Prop} {mn mb L b : Nat} (hmn : mn ≤ 8) (hcm : c ≤ mn) (hmb : mb ≤ 12) (hL : L ≤ 64 * mb) (hbb : b < mb) (w : 64 * (b + 1) ≤ L) (z : ¬ ta_z ar (64 * b) 64) (hr : ta_HF ar (64 * b) 0) (w1 : ta_wf ar (64 * b) 12) (w2 : ta_wf ar (64 * b + 47) 10) {A : List Int32}
    (hA : A ++ ta_sg ar (64 * b) (ta_tl ar (64 * b) 12) = ta_T ar (64 * b))
    (hS : ta_YS post (nI mn) fb fe yc ct kd pr nm my tg sz dt ar P L mn c b) (hG : ta_YG post (nI mn) fb fe yc yo yb ct kd pr nm my tg sz dt ar P L mn c b) :
    ∀ n k, k ≤ ta_tl ar (64 * b) 12 → ta_tl ar (64 * b) 12 < k + n → wY_step_551 post (nI b) (nI (64 * b)) (ta_ki (ar (64 * b + 26))) (nI (ta_ov ar (64 * b + 12) 3)) (nI (ta_ov ar (64 * b + 16) 3)) (nI (ta_tl ar (64 * b) 12)) (nI mn) fb (nI L) fe yc yo yb n (nI (A.length + k)) (nI k) ct kd pr nm my tg sz dt ar (ta_wr (ta_wr sc 0 A) A.length (ta_sg ar (64 * b) k)) st := by
  have b12 := (ta_tl_spec ar 12 (64 * b)).1
  have h23 := ta_T_len ar (64 * b)
  have hAl : A.length + ta_tl ar (64 * b) 12 = (ta_T ar (64 * b)).length := by rw [← hA, List.length_append, ta_sg_len]
  intro n
  induction n with
  | zero => intro k _ g; omega
  | succ n ih =>
    intro k g1 g2
    have e1 : nI (64 * b) + nI k = nI (64 * b + k) := nI_add _ _
    refine pk_le (ta_tl ar (64 * b) 12) k (fun g => ?_) (fun g => ⟨by rw [e1]; exact vp_in_nI (by omega) (by omega), vp_in_nI (by omega) (by omega), nm_r (e' := ta_wr (ta_wr sc 0 A) A.length (ta_sg ar (64 * b) (k + 1))) ?_ (nm_r (nI_1 _) (nm_r (nI_1 k) (ih (k + 1) (by omega) (by omega))))⟩)
    · have ek : k = ta_tl ar (64 * b) 12 := by omega
      have hw : ta_wr (ta_wr sc 0 A) A.length (ta_sg ar (64 * b) (ta_tl ar (64 * b) 12)) = ta_wr sc 0 (ta_T ar (64 * b)) := by
        have := ta_wr_app sc 0 A (ta_sg ar (64 * b) (ta_tl ar (64 * b) 12))
        rwa [Nat.zero_add, hA] at this
      rw [ek, hw, hAl]
      have hsc : ∀ k, k < (ta_T ar (64 * b)).length → ta_wr sc 0 (ta_T ar (64 * b)) k = ta_g (ta_T ar (64 * b)) k := fun k hk => ta_g_wr hk
      refine ya_validPath (by omega) hsc (fun vp q hq => br_t (nI_pos' (by omega)) ?_) (fun vp => br_f (by decide) ?_)
      · have hNm : ta_Nm ar (64 * b) := ⟨w1, w2, vp⟩
        refine pk_eq c mn (fun e => ?_) (fun e => ⟨(ta_T ar (64 * b)).length + 1, ?_⟩) (hx := hct)
        · exact hS (-20) (nI b) (-20) (Or.inr (Or.inr (Or.inr (Or.inl ⟨w, z, hr, ⟨0, 0, 0, Or.inr (Or.inl ⟨hNm, e, rfl⟩)⟩, by decide, rfl⟩)))) (Or.inl ⟨by decide, rfl⟩) _ _
        · exact ya_628 H hct hmn (by omega) hmb hL hbb w z hr hNm hsc hS hG ((ta_T ar (64 * b)).length + 1) 0 0 (-1) (Nat.zero_le _) (by omega) ⟨Nat.le_refl _, Or.inl rfl, fun j a d => by omega⟩ (Or.inl ⟨rfl, rfl⟩)
      · exact hS (-5) (nI b) (-5) (Or.inr (Or.inr (Or.inr (Or.inl ⟨w, z, hr, ⟨0, 0, 0, Or.inl ⟨fun q => vp q.2.2, rfl⟩⟩, by decide, rfl⟩)))) (Or.inl ⟨by decide, rfl⟩) _ _
    · rw [e1, nI_clamp (by omega), nI_clamp (by omega), ta_sg_S, ← ta_wr_snoc, ta_sg_len]
theorem ya_496 (H : ta_Tr 8 c kd pr nm P) (hct : ct 1 = nI c) {post : Int32 → SY → Prop} {mn mb L b : Nat} (hmn : mn ≤ 8) (hcm : c ≤ mn) (hmb : mb ≤ 12) (hL : L ≤ 64 * mb) (hbb : b < mb) (w : 64 * (b + 1) ≤ L) (z : ¬ ta_z ar (64 * b) 64) (hr : ta_HF ar (64 * b) 0) (w1 : ta_wf ar (64 * b) 12) (w2 : ta_wf ar (64 * b + 47) 10)
    (hS : ta_YS post (nI mn) fb fe yc ct kd pr nm my tg sz dt ar P L mn c b) (hG : ta_YG post (nI mn) fb fe yc yo yb ct kd pr nm my tg sz dt ar P L mn c b) :
    ∀ n k, k ≤ ta_tl ar (64 * b + 47) 10 → ta_tl ar (64 * b + 47) 10 < k + n → wY_step_496 post (nI b) (nI (64 * b)) (ta_ki (ar (64 * b + 26))) (nI (ta_ov ar (64 * b + 12) 3)) (nI (ta_ov ar (64 * b + 16) 3)) (nI (ta_tl ar (64 * b) 12)) (nI (ta_tl ar (64 * b + 47) 10)) (nI mn) fb (nI L) fe yc yo yb n (nI k) (nI k) ct kd pr nm my tg sz dt ar (ta_wr sc 0 (ta_sg ar (64 * b + 47) k)) st := by
  have b10 := (ta_tl_spec ar 10 (64 * b + 47)).1
  intro n
  induction n with
  | zero => intro k _ g; omega
  | succ n ih =>
    intro k g1 g2
    have e1 : nI (64 * b) + 47 + nI k = nI (64 * b + 47 + k) := by rw [show (47 : Int32) = nI 47 from rfl, nI_add, nI_add]
    refine pk_le (ta_tl ar (64 * b + 47) 10) k (fun g => ?_) (fun g => ⟨by rw [e1]; exact vp_in_nI (by omega) (by omega), vp_in_nI (by omega) (by omega), nm_r (e' := ta_wr sc 0 (ta_sg ar (64 * b + 47) (k + 1))) ?_ (nm_r (nI_1 k) (nm_r (nI_1 k) (ih (k + 1) (by omega) (by omega))))⟩)
    · have ek : k = ta_tl ar (64 * b + 47) 10 := by omega
      refine pk_le (ta_tl ar (64 * b + 47) 10) 0 (fun y => ?_) (fun y => ⟨vp_in_nI (by omega) (by omega), nm_r (e' := ta_wr sc 0 (ta_sg ar (64 * b + 47) (ta_tl ar (64 * b + 47) 10) ++ [47])) ?_ (nm_r (nI_1 k) ?_)⟩)
      · have hA : [] ++ ta_sg ar (64 * b) (ta_tl ar (64 * b) 12) = ta_T ar (64 * b) := by unfold ta_T; rw [if_pos (by omega)]; rfl
        have := ya_551 (sc := sc) (st := st) H hct hmn hcm hmb hL hbb w z hr w1 w2 hA hS hG (ta_tl ar (64 * b) 12 + 1) 0 (Nat.zero_le _) (by omega)
        rw [ta_wr_nil, ta_sg_0, ta_wr_nil] at this
        rw [show k = 0 by omega, ta_sg_0, ta_wr_nil]
        exact ⟨_, this⟩
      · rw [ek, nI_clamp (by omega), ← ta_wr_snoc, ta_sg_len, Nat.zero_add]
      · have hA : (ta_sg ar (64 * b + 47) (ta_tl ar (64 * b + 47) 10) ++ [47]) ++ ta_sg ar (64 * b) (ta_tl ar (64 * b) 12) = ta_T ar (64 * b) := by unfold ta_T; rw [if_neg (by omega), List.append_assoc]; rfl
        have := ya_551 (sc := sc) (st := st) H hct hmn hcm hmb hL hbb w z hr w1 w2 hA hS hG (ta_tl ar (64 * b) 12 + 1) 0 (Nat.zero_le _) (by omega)
        rw [ta_sg_0, ta_wr_nil, List.length_append, ta_sg_len] at this
        rw [ek]
        exact ⟨_, this⟩
    · rw [e1, nI_clamp (by omega), nI_clamp (by omega), ta_sg_S, ← ta_wr_snoc, ta_sg_len, Nat.zero_add]
theorem ya_425 (H : ta_Tr 8 c kd pr nm P) (hct : ct 1 = nI c) {post : Int32 → SY → Prop} {mn mb L b : Nat} (hmn : mn ≤ 8) (hcm : c ≤ mn) (hmb : mb ≤ 12) (hL : L ≤ 64 * mb) (hbb : b < mb) (w : 64 * (b + 1) ≤ L) (z : ¬ ta_z ar (64 * b) 64) (hr : ta_HF ar (64 * b) 0)
    (hS : ta_YS post (nI mn) fb fe yc ct kd pr nm my tg sz dt ar P L mn c b) (hG : ta_YG post (nI mn) fb fe yc yo yb ct kd pr nm my tg sz dt ar P L mn c b) :
    wY_step_425 post (nI b) (nI (64 * b)) (ta_ki (ar (64 * b + 26))) (nI (ta_ov ar (64 * b + 12) 3)) (nI (ta_ov ar (64 * b + 16) 3)) (nI mn) fb (nI L) fe yc yo yb ct kd pr nm my tg sz dt ar sc st := by
  have b12 := (ta_tl_spec ar 12 (64 * b)).1
  have b10 := (ta_tl_spec ar 10 (64 * b + 47)).1
  have F : ¬ ta_Nm ar (64 * b) → ∀ sc' st', post (-1) (nI mn, fb, nI L, fe, yc, -5, nI b, ct, kd, pr, nm, my, tg, sz, dt, ar, sc', st') := fun q => hS (-5) (nI b) (-5) (Or.inr (Or.inr (Or.inr (Or.inl ⟨w, z, hr, ⟨0, 0, 0, Or.inl ⟨q, rfl⟩⟩, by decide, rfl⟩)))) (Or.inl ⟨by decide, rfl⟩)
  unfold wY_step_425
  refine ya_wellFormed 12 rfl (by omega) (fun w1 => br_f (by decide) ?_) (fun w1 => br_t rfl (F (fun q => w1 q.1) _ _))
  refine ya_wellFormed 10 (nI_add _ 47) (by omega) (fun w2 => br_f (by decide) ?_) (fun w2 => br_t rfl (F (fun q => w2 q.2.1) _ _))
  refine ya_textLen 12 rfl (by omega) (pk_eq (ta_tl ar (64 * b) 12) 0 (fun e => F (fun q => ta_vp_nl e q.2.2) _ _) (fun e => ?_))
  refine ya_textLen 10 (nI_add _ 47) (by omega) ?_
  have := ya_496 (sc := sc) (st := st) H hct hmn hcm hmb hL hbb w z hr w1 w2 hS hG (ta_tl ar (64 * b + 47) 10 + 1) 0 (Nat.zero_le _) (by omega)
  rw [ta_sg_0, ta_wr_nil] at this
  exact ⟨_, this⟩
theorem ya_303 (H : ta_Tr 8 c kd pr nm P) (hct : ct 1 = nI c) {post : Int32 → SY → Prop} {mn mb L b : Nat} (hmn : mn ≤ 8) (hcm : c ≤ mn) (hmb : mb ≤ 12) (hL : L ≤ 64 * mb) (hbb : b < mb) (w : 64 * (b + 1) ≤ L) (z : ¬ ta_z ar (64 * b) 64) (a1 : ta_Ck ar (64 * b)) (a2 : ta_Mg ar (64 * b)) {z0 : Int32}
    (hz0 : (¬ ta_Ty ar (64 * b) ∧ z0 = 0) ∨ (ta_Ty ar (64 * b) ∧ z0 = ta_ki (ar (64 * b + 26))))
    (hS : ta_YS post (nI mn) fb fe yc ct kd pr nm my tg sz dt ar P L mn c b) (hG : ta_YG post (nI mn) fb fe yc yo yb ct kd pr nm my tg sz dt ar P L mn c b) :
    wY_step_303 post (nI b) (nI (64 * b)) z0 (nI mn) fb (nI L) fe yc yo yb ct kd pr nm my tg sz dt ar sc st := by
  have SH : ∀ r, ta_HF ar (64 * b) r → r ≠ 0 → ∀ sc' st', post (-1) (nI mn, fb, nI L, fe, yc, r, nI b, ct, kd, pr, nm, my, tg, sz, dt, ar, sc', st') := fun r q rn => hS r (nI b) r (Or.inr (Or.inr (Or.inl ⟨w, z, q, rn, rfl⟩))) (Or.inl ⟨rn, rfl⟩)
  rcases hz0 with ⟨nt, rfl⟩ | ⟨a3, rfl⟩
  · exact br_t rfl (SH (-17) (Or.inr (Or.inr (Or.inl ⟨a1, a2, nt, rfl⟩))) (by decide) _ _)
  · have F : ¬ (ta_Fl ar (64 * b) ∧ ta_Sz ar (64 * b)) → ∀ sc' st', post (-1) (nI mn, fb, nI L, fe, yc, -18, nI b, ct, kd, pr, nm, my, tg, sz, dt, ar, sc', st') := fun q => SH (-18) (Or.inr (Or.inr (Or.inr (Or.inl ⟨a1, a2, a3, q, rfl⟩)))) (by decide)
    have k0 : ¬ ta_ki (ar (64 * b + 26)) = 0 := by rcases a3 with q | q | q <;> rw [q] <;> decide
    have k1 : ta_ki (ar (64 * b + 26)) = 1 ↔ ar (64 * b + 26) = 48 := by rcases a3 with q | q | q <;> rw [q] <;> decide
    refine br_f k0 (ya_octalField 3 (nI_add _ 12) (by omega) (fun m1 => br_f (by decide) ?_) (fun m0 => br_t rfl (F (fun q => m0 q.1.1) _ _)))
    refine ya_octalField 3 (nI_add _ 16) (by omega) (fun s1 => br_f (by decide) ?_) (fun s0 => br_t rfl (F (fun q => s0 q.1.2.1) _ _))
    refine ya_allZero (64 * b + 57) 7 (nI_add _ 57) rfl (by omega) (fun z1 => br_f (by decide) ?_) (fun zz => br_t rfl (F (fun q => zz q.1.2.2) _ _))
    refine ya_octalValue 3 (nI_add _ 12) (by omega) m1.1 (ya_octalValue 3 (nI_add _ 16) (by omega) s1.1 ?_)
    have b2 := ta_ov_lt 3 s1.1
    have G : ta_Sz ar (64 * b) → wY_step_404 post (nI b) (nI (64 * b)) (ta_ki (ar (64 * b + 26))) (nI (ta_ov ar (64 * b + 12) 3)) (nI (ta_ov ar (64 * b + 16) 3)) (nI mn) fb (nI L) fe yc yo yb ct kd pr nm my tg sz dt ar sc st := by
      intro s
      have go : ta_ov ar (64 * b + 16) 3 ≤ 32 → wY_step_425 post (nI b) (nI (64 * b)) (ta_ki (ar (64 * b + 26))) (nI (ta_ov ar (64 * b + 12) 3)) (nI (ta_ov ar (64 * b + 16) 3)) (nI mn) fb (nI L) fe yc yo yb ct kd pr nm my tg sz dt ar sc st := fun h32 =>
        ya_425 H hct hmn hcm hmb hL hbb w z (Or.inr (Or.inr (Or.inr (Or.inr (Or.inr ⟨a1, a2, a3, ⟨m1, s1, z1⟩, s, h32, rfl⟩))))) hS hG
      refine br_c (fun _ => pk_le (ta_ov ar (64 * b + 16) 3) 32 go (fun y => ?_)) (fun q => go ?_)
      · exact SH (-19) (Or.inr (Or.inr (Or.inr (Or.inr (Or.inl ⟨a1, a2, a3, ⟨m1, s1, z1⟩, s, by omega, rfl⟩))))) (by decide) _ _
      · have := s (fun y => q (k1.mpr y))
        omega
    refine br_c (fun q => G (fun y => absurd (k1.mp q) y)) (fun q => pk_eq (ta_ov ar (64 * b + 16) 3) 0 (fun y => G (fun _ => y)) (fun y => F (fun p => y (p.2 (fun t => q (k1.mpr t)))) _ _))
theorem ya_step (H : ta_Tr 8 c kd pr nm P) (hct : ct 1 = nI c) {post : Int32 → SY → Prop} {mn mb L b : Nat} (hmn : mn ≤ 8) (hcm : c ≤ mn) (hmb : mb ≤ 12) (hL : L ≤ 64 * mb) (hb : ∀ j, ta_by (ar j)) (hbb : b ≤ mb)
    (hS : ta_YS post (nI mn) fb fe yc ct kd pr nm my tg sz dt ar P L mn c b) (hG : ta_YG post (nI mn) fb fe yc yo yb ct kd pr nm my tg sz dt ar P L mn c b) :
    wpY_step post (nI mn, fb, nI L, fe, yc, yo, yb, ct, kd, pr, nm, my, tg, sz, dt, ar, sc, st) (nI b) := by
  have e1 : (64 : Int32) * (nI b + 1) = nI (64 * (b + 1)) := by rw [nI_1, show (64 : Int32) = nI 64 from rfl, pk_mul]
  have e2 : (64 : Int32) * (nI b + 2) = nI (64 * (b + 2)) := by rw [show nI b + 2 = nI (b + 2) from nI_add b 2, show (64 : Int32) = nI 64 from rfl, pk_mul]
  refine nm_r (e' := nI (64 * b)) (by rw [show (64 : Int32) = nI 64 from rfl, pk_mul, Nat.mul_comm]) (pk_le (64 * (b + 1)) L (fun w => ?_) (fun w => ?_) (hx := e1))
  · refine ya_allZero (64 * b) 64 rfl rfl (by omega) (fun z => br_f (by decide) ?_) (fun z => br_t rfl ?_)
    · refine pk_le (64 * (b + 2)) L (fun w2 => ?_) (fun w2 => ?_) (hx := e2)
      · refine ya_allZero (64 * (b + 1)) 64 (nI_add _ 64) rfl (by omega) (fun z2 => br_f (by decide) ?_) (fun z2 => br_t rfl ?_)
        · exact hS (nI c) (-1) 0 (Or.inr (Or.inl ⟨w, z, Or.inr (Or.inr ⟨w2, z2, rfl, rfl⟩)⟩)) (Or.inr ⟨rfl, rfl, rfl⟩) _ _
        · have := hS (-14) (nI (b + 1)) (-14) (Or.inr (Or.inl ⟨w, z, Or.inr (Or.inl ⟨w2, z2, rfl, rfl⟩)⟩)) (Or.inl ⟨by decide, rfl⟩) sc st
          rw [← nI_1] at this
          exact this
      · have := hS (-13) (nI (b + 1)) (-13) (Or.inr (Or.inl ⟨w, z, Or.inl ⟨w2, rfl, rfl⟩⟩)) (Or.inl ⟨by decide, rfl⟩) sc st
        rw [← nI_1] at this
        exact this
    · have SH : ∀ r, ta_HF ar (64 * b) r → r ≠ 0 → ∀ sc' st', post (-1) (nI mn, fb, nI L, fe, yc, r, nI b, ct, kd, pr, nm, my, tg, sz, dt, ar, sc', st') := fun r q rn => hS r (nI b) r (Or.inr (Or.inr (Or.inl ⟨w, z, q, rn, rfl⟩))) (Or.inl ⟨rn, rfl⟩)
      refine ya_octalField 5 (nI_add _ 20) (by omega) (fun k1 => br_f (by decide) ?_) (fun k0 => br_t rfl (SH (-15) (Or.inl ⟨fun q => k0 q.1, rfl⟩) (by decide) _ _))
      refine ya_octalValue 5 (nI_add _ 20) (by omega) k1.1 (ya_checksum (by omega) (br_c (fun ec => ?_) (fun ec => SH (-15) (Or.inl ⟨fun q => ec q.2, rfl⟩) (by decide) _ _)))
      have a1 : ta_Ck ar (64 * b) := ⟨k1, ec⟩
      have NM : ∀ k x, k < 8 → ta_mg.getD k 0 = x → ¬ ar (64 * b + 39 + k) = x → wY_step_250 post (nI b) (nI mn) fb (nI L) fe yc yo yb ct kd pr nm my tg sz dt ar sc st := fun k x hk e n => SH (-16) (Or.inr (Or.inl ⟨a1, fun q => n ((q k hk).trans e), rfl⟩)) (by decide) _ _
      have IX : ∀ d : Nat, d < 64 → vp_in (nI (64 * b) + nI d) 768 := fun d hd => by rw [nI_add]; exact vp_in_nI (by omega) (by omega)
      have CL : ∀ d : Nat, d < 64 → (nI (64 * b) + nI d).toNatClampNeg = 64 * b + d := fun d hd => by rw [nI_add, nI_clamp (by omega)]
      have c39 : (nI (64 * b) + 39).toNatClampNeg = 64 * b + 39 := CL 39 (by omega)
      have c40 : (nI (64 * b) + 40).toNatClampNeg = 64 * b + 40 := CL 40 (by omega)
      have c41 : (nI (64 * b) + 41).toNatClampNeg = 64 * b + 41 := CL 41 (by omega)
      have c42 : (nI (64 * b) + 42).toNatClampNeg = 64 * b + 42 := CL 42 (by omega)
      have c43 : (nI (64 * b) + 43).toNatClampNeg = 64 * b + 43 := CL 43 (by omega)
      have c44 : (nI (64 * b) + 44).toNatClampNeg = 64 * b + 44 := CL 44 (by omega)
      have c45 : (nI (64 * b) + 45).toNatClampNeg = 64 * b + 45 := CL 45 (by omega)
      have c46 : (nI (64 * b) + 46).toNatClampNeg = 64 * b + 46 := CL 46 (by omega)
      have c26 : (nI (64 * b) + 26).toNatClampNeg = 64 * b + 26 := CL 26 (by omega)
      rw [c39, c40, c41, c42, c43, c44, c45, c46, c26]
      refine ⟨IX 39 (by omega), br_c (fun m0 => ?_) (fun m0 => NM 0 117 (by omega) rfl m0)⟩
      refine ⟨IX 40 (by omega), br_c (fun m1 => ?_) (fun m1 => NM 1 115 (by omega) rfl m1)⟩
      refine ⟨IX 41 (by omega), br_c (fun m2 => ?_) (fun m2 => NM 2 116 (by omega) rfl m2)⟩
      refine ⟨IX 42 (by omega), br_c (fun m3 => ?_) (fun m3 => NM 3 97 (by omega) rfl m3)⟩
      refine ⟨IX 43 (by omega), br_c (fun m4 => ?_) (fun m4 => NM 4 114 (by omega) rfl m4)⟩
      refine ⟨IX 44 (by omega), br_c (fun m5 => ?_) (fun m5 => NM 5 0 (by omega) rfl m5)⟩
      refine ⟨IX 45 (by omega), br_c (fun m6 => ?_) (fun m6 => NM 6 48 (by omega) rfl m6)⟩
      refine ⟨IX 46 (by omega), br_c (fun m7 => ?_) (fun m7 => NM 7 48 (by omega) rfl m7)⟩
      have a2 : ta_Mg ar (64 * b) := by
        intro k hk
        rcases (show k = 0 ∨ k = 1 ∨ k = 2 ∨ k = 3 ∨ k = 4 ∨ k = 5 ∨ k = 6 ∨ k = 7 by omega) with rfl | rfl | rfl | rfl | rfl | rfl | rfl | rfl
        · exact m0
        · exact m1
        · exact m2
        · exact m3
        · exact m4
        · exact m5
        · exact m6
        · exact m7
      refine ⟨IX 26 (by omega), nm_e (br_c (fun t0 => ?_) (fun t0 => br_c (fun t1 => ?_) (fun t1 => br_c (fun t5 => ?_) (fun t5 => ?_))))⟩
      · exact ya_303 H hct hmn hcm hmb hL (by omega) w z a1 a2 (Or.inr ⟨Or.inl t0, by rw [t0]; decide⟩) hS hG
      · exact ya_303 H hct hmn hcm hmb hL (by omega) w z a1 a2 (Or.inr ⟨Or.inr (Or.inl t1), by rw [t1]; decide⟩) hS hG
      · exact ya_303 H hct hmn hcm hmb hL (by omega) w z a1 a2 (Or.inr ⟨Or.inr (Or.inr t5), by rw [t5]; decide⟩) hS hG
      · exact ya_303 H hct hmn hcm hmb hL (by omega) w z a1 a2 (Or.inl ⟨fun q => q.elim t0 (fun q => q.elim t1 t5), rfl⟩) hS hG
  · exact hS (-13) (nI b) (-13) (Or.inl ⟨w, rfl, rfl⟩) (Or.inl ⟨by decide, rfl⟩) _ _
end
