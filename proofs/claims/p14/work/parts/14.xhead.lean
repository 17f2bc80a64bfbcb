/-! 14: what the component looks at in a header -/
theorem ta_by_of {x : Int32} (h : ta_by x) : ∃ n, n < 256 ∧ x = nI n := h
section
variable {fa fb fl fe fp fn ft : Int32} {ct kd pr nm md sz tg dt ar pa : Nat → Int32} {P : Nat → List Int32} {c : Nat}
theorem xa_iz {post : Int32 → Prop} {f m : Nat} (hf : f + m ≤ 768) (h1 : ta_z ar f m → post 1) (h0 : ¬ ta_z ar f m → post 0) : ∀ n k, k ≤ m → m < k + n → (∀ j, j < k → ar (f + j) = 0) → wX_isZero_2 post (nI (f + m)) fa fb fl fe fp fn ft ct kd pr nm md sz tg dt ar pa n (nI (f + k)) := by
  intro n
  induction n with
  | zero => intro k _ g; omega
  | succ n ih =>
    intro k g1 g2 g3
    refine pk_le (f + m) (f + k) (fun g => h1 (fun j hj => g3 j (by omega))) (fun g => ⟨vp_in_nI (by omega) (by omega), ?_⟩)
    rw [nI_clamp (by omega)]
    refine br_c (fun z => nm_r (nI_1 (f + k)) (ih (k + 1) (by omega) (by omega) (fun j hj => ?_))) (fun z => h0 (fun w => z (w k (by omega))))
    rcases Nat.lt_or_ge j k with y | y
    · exact g3 j y
    · rw [show j = k by omega]; exact z
theorem xa_isZero {post : Int32 → Prop} {p0 p1 : Int32} (f m : Nat) (e0 : p0 = nI f) (e1 : p1 = nI (f + m)) (hf : f + m ≤ 768) (h1 : ta_z ar f m → post 1) (h0 : ¬ ta_z ar f m → post 0) : wpX_isZero post (fa, fb, fl, fe, fp, fn, ft, ct, kd, pr, nm, md, sz, tg, dt, ar, pa) p0 p1 := by
  subst e0 e1
  exact ⟨m + 1, xa_iz hf h1 h0 (m + 1) 0 (Nat.zero_le _) (by omega) (fun j hj => by omega)⟩
theorem xa_isWhole {post : Int32 → Prop} {p0 : Int32} {L b : Nat} (e : p0 = nI b) (hL : L ≤ 768) (hb : b < 1000) (h1 : 64 * (b + 1) ≤ L → post 1) (h0 : L < 64 * (b + 1) → post 0) : wpX_isWhole post (fa, fb, nI L, fe, fp, fn, ft, ct, kd, pr, nm, md, sz, tg, dt, ar, pa) p0 := by
  have ei : 64 * (p0 + 1) = nI (64 * (b + 1)) := by rw [e, nI_1, show (64 : Int32) = nI 64 from rfl, pk_mul]
  exact pk_lt L (64 * (b + 1)) h0 h1 (hy := ei)
theorem xa_ov {post : Int32 → Prop} {o d : Nat} (hb : ∀ j, ta_by (ar j)) (ho : o + d < 768) (hd : d ≤ 5) (h1 : ta_ok ar o d → post (nI (ta_ov ar o d))) (h0 : ¬ ta_ok ar o d → post (-1)) :
    ∀ n k, k ≤ d → d < k + n → ta_od ar o k → wX_octalValue_5 post (nI o) (nI d) fa fb fl fe fp fn ft ct kd pr nm md sz tg dt ar pa n (nI (ta_ov ar o k)) (nI k) := by
  intro n
  induction n with
  | zero => intro k _ g; omega
  | succ n ih =>
    intro k g1 g2 g3
    have ed : nI o + nI d = nI (o + d) := nI_add _ _
    have ek : nI o + nI k = nI (o + k) := nI_add _ _
    refine pk_le d k (fun g => ⟨by rw [ed]; exact vp_in_nI (by omega) (by omega), ?_⟩) (fun g => ⟨by rw [ek]; exact vp_in_nI (by omega) (by omega), nm_r (by rw [ek, nI_clamp (by omega)]) ?_⟩)
    · have e : k = d := by omega
      rw [ed, nI_clamp (by omega)]
      subst e
      exact br_c (fun z => h1 ⟨g3, z⟩) (fun z => h0 (fun w => z w.2))
    · refine br_c (fun z => h0 (fun w => Int32.not_lt.mpr (w.1 k g).1 z)) (fun z => br_c (fun w => ?_) (fun w => h0 (fun y => w (y.1 k g).2)))
      obtain ⟨m, m1, m2, m3⟩ := ta_dg ⟨Int32.not_lt.mp z, w⟩
      refine nm_r (e' := nI (ta_ov ar o (k + 1))) ?_ (nm_r (nI_1 k) (ih (k + 1) (by omega) (by omega) (fun j hj => ?_)))
      · show _ = nI (ta_ov ar o k * 8 + (ta_n (ar (o + k)) - 48))
        rw [m3, m2, show (8 : Int32) = nI 8 from rfl, pk_mul, nI_add, show (48 : Int32) = nI 48 from rfl, pk_sub (by omega)]
        exact congrArg nI (by omega)
      · rcases Nat.lt_or_ge j k with y | y
        · exact g3 j y
        · rw [show j = k by omega]; exact ⟨Int32.not_lt.mp z, w⟩
theorem xa_octalValue {post : Int32 → Prop} {p0 : Int32} {o : Nat} (d : Nat) (e : p0 = nI o) (hb : ∀ j, ta_by (ar j)) (ho : o + d < 768) (hd : d ≤ 5) (h1 : ta_ok ar o d → post (nI (ta_ov ar o d))) (h0 : ¬ ta_ok ar o d → post (-1)) :
    wpX_octalValue post (fa, fb, fl, fe, fp, fn, ft, ct, kd, pr, nm, md, sz, tg, dt, ar, pa) p0 (nI d) := by
  subst e
  exact ⟨d + 1, xa_ov hb ho hd h1 h0 (d + 1) 0 (Nat.zero_le _) (by omega) (fun j hj => by omega)⟩
theorem xa_hm {post : Int32 → Prop} {o : Nat} (ho : o + 64 ≤ 768) (h1 : ta_Mg ar o → post 1) (h0 : ¬ ta_Mg ar o → post 0) : ∀ n k, k ≤ 8 → 8 < k + n → (∀ j, j < k → ar (o + 39 + j) = ta_mg.getD j 0) → wX_hasMagic_2 post (nI o) fa fb fl fe fp fn ft ct kd pr nm md sz tg dt ar pa n (nI k) := by
  intro n
  induction n with
  | zero => intro k _ g; omega
  | succ n ih =>
    intro k g1 g2 g3
    have ei : nI o + 39 + nI k = nI (o + 39 + k) := by rw [show (39 : Int32) = nI 39 from rfl, nI_add, nI_add]
    refine pk_le 8 k (fun g => h1 (fun j hj => g3 j (by omega))) (fun g => ⟨by rw [ei]; exact vp_in_nI (by omega) (by omega), xa_magicByte g ?_⟩)
    rw [ei, nI_clamp (by omega)]
    refine br_c (fun z => nm_r (nI_1 k) (ih (k + 1) (by omega) (by omega) (fun j hj => ?_))) (fun z => h0 (fun w => z (w k g)))
    rcases Nat.lt_or_ge j k with y | y
    · exact g3 j y
    · rw [show j = k by omega]; exact z
theorem xa_hasMagic {post : Int32 → Prop} {o : Nat} (ho : o + 64 ≤ 768) (h1 : ta_Mg ar o → post 1) (h0 : ¬ ta_Mg ar o → post 0) : wpX_hasMagic post (fa, fb, fl, fe, fp, fn, ft, ct, kd, pr, nm, md, sz, tg, dt, ar, pa) (nI o) :=
  ⟨9, xa_hm ho h1 h0 9 0 (by omega) (by omega) (fun j hj => by omega)⟩
theorem xa_h62 {post : Int32 → Prop} {o : Nat} (hb : ∀ j, ta_by (ar j)) (ho : o + 64 ≤ 768) (a1 : ta_Ck ar o) (a2 : ta_Mg ar o) (a3 : ta_Ty ar o) (h : ∀ r, ta_HF ar o r → post r) :
    wX_headerFault_62 post (nI o) (ar (o + 26)) fa fb fl fe fp fn ft ct kd pr nm md sz tg dt ar pa := by
  have F : ¬ (ta_Fl ar o ∧ ta_Sz ar o) → post (-18) := fun w => h _ (Or.inr (Or.inr (Or.inr (Or.inl ⟨a1, a2, a3, w, rfl⟩))))
  unfold wX_headerFault_62
  refine xa_octalValue 3 (nI_add o 12) hb (by omega) (by omega) (fun m1 => ?_) (fun m0 => ?_)
  · refine xa_octalValue 3 (nI_add o 16) hb (by omega) (by omega) (fun s1 => ?_) (fun s0 => ?_)
    · have b1 := ta_ov_lt 3 m1.1
      have b2 := ta_ov_lt 3 s1.1
      refine br_f (ta_m1 (by omega)) (br_f (ta_m1 (by omega)) ?_)
      refine xa_isZero (o + 57) 7 (nI_add o 57) (nI_add o 64) (by omega) (fun z1 => br_f (by decide) ?_) (fun z0 => br_t rfl (F (fun w => z0 w.1.2.2)))
      have L : ta_Sz ar o → wX_headerFault_126 post (nI (ta_ov ar (o + 16) 3)) fa fb fl fe fp fn ft ct kd pr nm md sz tg dt ar pa := fun s =>
        pk_le (ta_ov ar (o + 16) 3) 32 (fun g => h 0 (Or.inr (Or.inr (Or.inr (Or.inr (Or.inr ⟨a1, a2, a3, ⟨m1, s1, z1⟩, s, g, rfl⟩))))))
          (fun g => h _ (Or.inr (Or.inr (Or.inr (Or.inr (Or.inl ⟨a1, a2, a3, ⟨m1, s1, z1⟩, s, by omega, rfl⟩))))))
      refine br_c (fun t => L (fun w => absurd t w)) (fun t => ?_)
      exact pk_eq (ta_ov ar (o + 16) 3) 0 (fun g => L (fun _ => g)) (fun g => F (fun w => g (w.2 t)))
    · have b1 := ta_ov_lt 3 m1.1
      exact br_f (ta_m1 (by omega)) (br_t rfl (F (fun w => s0 w.1.2.1)))
  · refine xa_octalValue 3 (nI_add o 16) hb (by omega) (by omega) (fun s1 => br_t rfl (F (fun w => m0 w.1.1))) (fun s0 => br_t rfl (F (fun w => m0 w.1.1)))
theorem xa_headerFault {post : Int32 → Prop} {o : Nat} (hb : ∀ j, ta_by (ar j)) (ho : o + 64 ≤ 768) (h : ∀ r, ta_HF ar o r → post r) : wpX_headerFault post (fa, fb, fl, fe, fp, fn, ft, ct, kd, pr, nm, md, sz, tg, dt, ar, pa) (nI o) := by
  unfold wpX_headerFault
  have R : ta_Ck ar o → wpX_hasMagic (fun r_38 => (((r_38 = 0 → (post (-16))) ∧ (¬ r_38 = 0 → (vp_in (nI o + 26) 768 ∧ (∀ x2_58, x2_58 = ar (nI o + 26).toNatClampNeg → (((x2_58 = 48 → (wX_headerFault_62 post (nI o) x2_58 fa fb fl fe fp fn ft ct kd pr nm md sz tg dt ar pa)) ∧ (¬ x2_58 = 48 → (((x2_58 = 49 → (wX_headerFault_62 post (nI o) x2_58 fa fb fl fe fp fn ft ct kd pr nm md sz tg dt ar pa)) ∧ (¬ x2_58 = 49 → (((x2_58 = 53 → (wX_headerFault_62 post (nI o) x2_58 fa fb fl fe fp fn ft ct kd pr nm md sz tg dt ar pa)) ∧ (¬ x2_58 = 53 → (post (-17))))))))))))))))) (fa, fb, fl, fe, fp, fn, ft, ct, kd, pr, nm, md, sz, tg, dt, ar, pa) (nI o) := by
    intro a1
    refine xa_hasMagic ho (fun a2 => br_f (by decide) ?_) (fun a2 => br_t rfl (h _ (Or.inr (Or.inl ⟨a1, a2, rfl⟩))))
    have ei : nI o + 26 = nI (o + 26) := nI_add o 26
    refine ⟨by rw [ei]; exact vp_in_nI (by omega) (by omega), nm_r (e' := ar (o + 26)) (by rw [ei, nI_clamp (by omega)]) ?_⟩
    refine br_c (fun z => xa_h62 hb ho a1 a2 (Or.inl z) h) (fun z => br_c (fun w => xa_h62 hb ho a1 a2 (Or.inr (Or.inl w)) h) (fun w => br_c (fun y => xa_h62 hb ho a1 a2 (Or.inr (Or.inr y)) h) (fun y => ?_)))
    exact h _ (Or.inr (Or.inr (Or.inl ⟨a1, a2, fun q => q.elim z (fun q => q.elim w y), rfl⟩)))
  refine xa_octalValue 5 (nI_add o 20) hb (by omega) (by omega) (fun k1 => ?_) (fun k0 => ?_)
  · refine xa_checksum ho (br_c (fun z => R ⟨k1, z⟩) (fun z => h _ (Or.inl ⟨fun w => z w.2, rfl⟩)))
  · obtain ⟨m, m1, m2⟩ := ta_cs_by (o := o) hb 64 (by omega)
    refine xa_checksum ho (br_f (fun z => ?_) (h _ (Or.inl ⟨fun w => k0 w.1, rfl⟩)))
    rw [m2] at z
    exact ta_m1 (by omega) z.symm
theorem xa_tl {post : Int32 → Prop} {o m : Nat} (ho : o + m ≤ 768) (h : post (nI (ta_tl ar o m))) : ∀ n k, k ≤ m → m < k + n → (∀ j, j < k → ar (o + j) ≠ 0) → wX_textLength_2 post (nI o) (nI m) fa fb fl fe fp fn ft ct kd pr nm md sz tg dt ar pa n (nI k) := by
  intro n
  induction n with
  | zero => intro k _ g; omega
  | succ n ih =>
    intro k g1 g2 g3
    have ek : nI o + nI k = nI (o + k) := nI_add _ _
    refine pk_le m k (fun g => ?_) (fun g => ⟨by rw [ek]; exact vp_in_nI (by omega) (by omega), ?_⟩)
    · rw [← ta_tl_uniq g1 g3 (fun y => by omega)] at h; exact h
    · rw [ek, nI_clamp (by omega)]
      refine br_c (fun z => ?_) (fun z => nm_r (nI_1 k) (ih (k + 1) (by omega) (by omega) (fun j hj => ?_)))
      · rw [← ta_tl_uniq g1 g3 (fun _ => z)] at h; exact h
      · rcases Nat.lt_or_ge j k with y | y
        · exact g3 j y
        · rw [show j = k by omega]; exact z
theorem xa_textLength {post : Int32 → Prop} {p0 : Int32} {o : Nat} (m : Nat) (e : p0 = nI o) (ho : o + m ≤ 768) (h : post (nI (ta_tl ar o m))) : wpX_textLength post (fa, fb, fl, fe, fp, fn, ft, ct, kd, pr, nm, md, sz, tg, dt, ar, pa) p0 (nI m) := by
  subst e
  exact ⟨m + 1, xa_tl ho h (m + 1) 0 (Nat.zero_le _) (by omega) (fun j hj => by omega)⟩
theorem xa_lh57 {post : Int32 → St2 → Prop} {o s m : Nat} (ho : o + m ≤ 768) (hs : s + m ≤ 30) (h : post (nI (s + m)) (fa, fb, fl, fe, fp, fn, ft, ct, kd, pr, nm, md, sz, tg, dt, ar, ta_wr pa s (ta_sg ar o m))) :
    ∀ n k, k ≤ m → m < k + n → wX_loadHeaderPath_57 post (nI o) (nI m) (nI s) fa fb fl fe fp fn ft n (nI k) ct kd pr nm md sz tg dt ar (ta_wr pa s (ta_sg ar o k)) := by
  intro n
  induction n with
  | zero => intro k _ g; omega
  | succ n ih =>
    intro k g1 g2
    have ei : nI o + 0 + nI k = nI (o + k) := by rw [show (0 : Int32) = nI 0 from rfl, nI_add, nI_add]; rfl
    have es : nI s + nI k = nI (s + k) := nI_add _ _
    refine pk_le m k (fun g => ?_) (fun g => ⟨by rw [ei]; exact vp_in_nI (by omega) (by omega), by rw [es]; exact vp_in_nI (by omega) (by omega), nm_r (e' := ta_wr pa s (ta_sg ar o (k + 1))) ?_ (nm_r (nI_1 k) (ih (k + 1) (by omega) (by omega)))⟩)
    · rw [nI_add, show k = m by omega]; exact h
    · rw [ei, es, nI_clamp (by omega), nI_clamp (by omega), ta_sg_S, ← ta_wr_snoc, ta_sg_len]
theorem xa_lh57z {post : Int32 → St2 → Prop} {o s m : Nat} (ho : o + m ≤ 768) (hs : s + m ≤ 30) (h : post (nI (s + m)) (fa, fb, fl, fe, fp, fn, ft, ct, kd, pr, nm, md, sz, tg, dt, ar, ta_wr pa s (ta_sg ar o m))) :
    ∃ n, wX_loadHeaderPath_57 post (nI o) (nI m) (nI s) fa fb fl fe fp fn ft n 0 ct kd pr nm md sz tg dt ar pa := by
  have := xa_lh57 ho hs h (m + 1) 0 (Nat.zero_le _) (by omega)
  rw [ta_sg_0, ta_wr_nil] at this
  exact ⟨_, this⟩
theorem xa_lh10 {post : Int32 → St2 → Prop} {o p m : Nat} (ho : o + 64 ≤ 768) (hp : p ≤ 10) (hm : m ≤ 12) (h : post (nI (p + 1 + m)) (fa, fb, fl, fe, fp, fn, ft, ct, kd, pr, nm, md, sz, tg, dt, ar, ta_wr pa 0 (ta_sg ar (o + 47) p ++ 47 :: ta_sg ar o m))) :
    ∀ n k, k ≤ p → p < k + n → wX_loadHeaderPath_10 post (nI o) (nI p) (nI m) fa fb fl fe fp fn ft n (nI k) ct kd pr nm md sz tg dt ar (ta_wr pa 0 (ta_sg ar (o + 47) k)) := by
  intro n
  induction n with
  | zero => intro k _ g; omega
  | succ n ih =>
    intro k g1 g2
    have ei : nI o + 47 + nI k = nI (o + 47 + k) := by rw [show (47 : Int32) = nI 47 from rfl, nI_add, nI_add]
    refine pk_le p k (fun g => ⟨vp_in_nI (by omega) (by omega), nm_r (e' := ta_wr pa 0 (ta_sg ar (o + 47) p ++ [47])) ?_ (nm_r (nI_1 p) (xa_lh57z (by omega) (by omega) ?_))⟩) (fun g => ⟨by rw [ei]; exact vp_in_nI (by omega) (by omega), vp_in_nI (by omega) (by omega), nm_r (e' := ta_wr pa 0 (ta_sg ar (o + 47) (k + 1))) ?_ (nm_r (nI_1 k) (ih (k + 1) (by omega) (by omega)))⟩)
    · rw [show k = p by omega, nI_clamp (by omega), ← ta_wr_snoc, ta_sg_len, Nat.zero_add]
    · have hw := ta_wr_app pa 0 (ta_sg ar (o + 47) p ++ [47]) (ta_sg ar o m)
      rw [List.length_append, ta_sg_len, Nat.zero_add, List.append_assoc] at hw
      have hw : ta_wr (ta_wr pa 0 (ta_sg ar (o + 47) p ++ [47])) (p + 1) (ta_sg ar o m) = ta_wr pa 0 (ta_sg ar (o + 47) p ++ 47 :: ta_sg ar o m) := hw
      rw [hw]; exact h
    · rw [ei, nI_clamp (by omega), nI_clamp (by omega), ta_sg_S, ← ta_wr_snoc, ta_sg_len, Nat.zero_add]
theorem xa_loadHeaderPath {post : Int32 → St2 → Prop} {o : Nat} (ho : o + 64 ≤ 768) (h : post (nI (ta_T ar o).length) (fa, fb, fl, fe, fp, fn, ft, ct, kd, pr, nm, md, sz, tg, dt, ar, ta_wr pa 0 (ta_T ar o))) :
    wpX_loadHeaderPath post (fa, fb, fl, fe, fp, fn, ft, ct, kd, pr, nm, md, sz, tg, dt, ar, pa) (nI o) (nI (ta_tl ar (o + 47) 10)) (nI (ta_tl ar o 12)) := by
  have b1 := (ta_tl_spec ar 12 o).1
  have b2 := (ta_tl_spec ar 10 (o + 47)).1
  unfold ta_T at h
  refine pk_le (ta_tl ar (o + 47) 10) 0 (fun g => ?_) (fun g => ?_)
  · rw [if_pos (by omega), ta_sg_len] at h
    refine xa_lh57z (s := 0) (by omega) (by omega) ?_
    rw [Nat.zero_add]; exact h
  · rw [if_neg (by omega), List.length_append, List.length_cons, ta_sg_len, ta_sg_len] at h
    have := xa_lh10 ho b2 b1 (by rw [show ta_tl ar (o + 47) 10 + 1 + ta_tl ar o 12 = ta_tl ar (o + 47) 10 + (ta_tl ar o 12 + 1) by omega]; exact h) (ta_tl ar (o + 47) 10 + 1) 0 (Nat.zero_le _) (by omega)
    rw [ta_sg_0, ta_wr_nil] at this
    exact ⟨_, this⟩
theorem xa_pn_path {post : Int32 → Prop} {f m : Nat} (hf : f + m ≤ 30) (h4 : m ≤ 4) (h1 : (∀ j, j < m → ta_nc (pa (f + j))) → post (ta_pk pa f m)) (h0 : (¬ ∀ j, j < m → ta_nc (pa (f + j))) → post 0) :
    ∀ n k, k ≤ m → m < k + n → (∀ j, j < k → ta_nc (pa (f + j))) → wX_packName_21 post (nI f) (nI (f + m)) pa n (ta_pk pa f k) (nI (f + k)) := by
  intro n
  induction n with
  | zero => intro k _ g; omega
  | succ n ih =>
    intro k g1 g2 g3
    refine pk_le (f + m) (f + k) (fun g => ?_) (fun g => ⟨vp_in_nI (by omega) (by omega), nm_r (by rw [nI_clamp (by omega)]) ?_⟩)
    · have e : k = m := by omega
      subst e
      exact h1 g3
    · refine xa_isNameChar (fun z => br_f (by decide) (nm_r (e' := ta_pk pa f (k + 1)) ?_ (nm_r (nI_1 (f + k)) (ih (k + 1) (by omega) (by omega) (fun j hj => ?_))))) (fun z => br_t rfl (h0 (fun w => z (w k (by omega)))))
      · rw [pk_sub (by omega), show f + k - f = k by omega]; rfl
      · rcases Nat.lt_or_ge j k with y | y
        · exact g3 j y
        · rw [show j = k by omega]; exact z
theorem xa_packName_path {post : Int32 → Prop} {p1 p2 : Int32} (f m : Nat) (e1 : p1 = nI f) (e2 : p2 = nI (f + m)) (hf : f + m ≤ 30) (h1 : 1 ≤ m → m ≤ 4 → (∀ j, j < m → ta_nc (pa (f + j))) → post (ta_pk pa f m)) (h0 : ¬ (1 ≤ m ∧ m ≤ 4 ∧ ∀ j, j < m → ta_nc (pa (f + j))) → post 0) :
    wpX_packName post pa p1 p2 := by
  subst e1 e2
  have ei : nI (f + m) - nI f = nI m := by rw [pk_sub (by omega), show f + m - f = m by omega]
  refine pk_lt m 1 (fun g => h0 (fun w => by omega)) (fun g => pk_le m 4 (fun w => ⟨m + 1, ?_⟩) (fun w => h0 (fun y => by omega)) (hx := ei)) (hx := ei)
  exact xa_pn_path hf w (h1 g w) (fun y => h0 (fun q => y q.2.2)) (m + 1) 0 (Nat.zero_le _) (by omega) (fun j hj => by omega)
theorem xa_pn_archive {post : Int32 → Prop} {f m : Nat} (hf : f + m ≤ 768) (h4 : m ≤ 4) (h1 : (∀ j, j < m → ta_nc (ar (f + j))) → post (ta_pk ar f m)) (h0 : (¬ ∀ j, j < m → ta_nc (ar (f + j))) → post 0) :
    ∀ n k, k ≤ m → m < k + n → (∀ j, j < k → ta_nc (ar (f + j))) → wX_packName_2_21 post (nI f) (nI (f + m)) ar n (ta_pk ar f k) (nI (f + k)) := by
  intro n
  induction n with
  | zero => intro k _ g; omega
  | succ n ih =>
    intro k g1 g2 g3
    refine pk_le (f + m) (f + k) (fun g => ?_) (fun g => ⟨vp_in_nI (by omega) (by omega), nm_r (by rw [nI_clamp (by omega)]) ?_⟩)
    · have e : k = m := by omega
      subst e
      exact h1 g3
    · refine xa_isNameChar (fun z => br_f (by decide) (nm_r (e' := ta_pk ar f (k + 1)) ?_ (nm_r (nI_1 (f + k)) (ih (k + 1) (by omega) (by omega) (fun j hj => ?_))))) (fun z => br_t rfl (h0 (fun w => z (w k (by omega)))))
      · rw [pk_sub (by omega), show f + k - f = k by omega]; rfl
      · rcases Nat.lt_or_ge j k with y | y
        · exact g3 j y
        · rw [show j = k by omega]; exact z
theorem xa_packName_archive {post : Int32 → Prop} {p1 p2 : Int32} (f m : Nat) (e1 : p1 = nI f) (e2 : p2 = nI (f + m)) (hf : f + m ≤ 768) (h1 : 1 ≤ m → m ≤ 4 → (∀ j, j < m → ta_nc (ar (f + j))) → post (ta_pk ar f m)) (h0 : ¬ (1 ≤ m ∧ m ≤ 4 ∧ ∀ j, j < m → ta_nc (ar (f + j))) → post 0) :
    wpX_packName_2 post ar p1 p2 := by
  subst e1 e2
  have ei : nI (f + m) - nI f = nI m := by rw [pk_sub (by omega), show f + m - f = m by omega]
  refine pk_lt m 1 (fun g => h0 (fun w => by omega)) (fun g => pk_le m 4 (fun w => ⟨m + 1, ?_⟩) (fun w => h0 (fun y => by omega)) (hx := ei)) (hx := ei)
  exact xa_pn_archive hf w (h1 g w) (fun y => h0 (fun q => y q.2.2)) (m + 1) 0 (Nat.zero_le _) (by omega) (fun j hj => by omega)
end
