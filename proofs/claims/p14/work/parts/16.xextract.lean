/-! 16: the component's extract, a step -/
def ta_ki (y : Int32) : Int32 := if y = 53 then 3 else if y = 49 then 2 else 1
theorem ta_upd2 (a : Nat → Int32) (k : Nat) (x y : Int32) : upd (upd a k x) k y = upd a k y := by
  funext j
  unfold upd
  by_cases h : j = k
  · rw [if_pos h, if_pos h]
  · rw [if_neg h, if_neg h, if_neg h]
/-- the run stops at block b: its answer, its error block -/
def ta_Stop (ar : Nat → Int32) (L mn c : Nat) (kd tg : Nat → Int32) (P : Nat → List Int32) (b : Nat) (r e : Int32) : Prop :=
  (L < 64 * (b + 1) ∧ r = -13 ∧ e = nI b) ∨
  (64 * (b + 1) ≤ L ∧ ta_z ar (64 * b) 64 ∧ ((L < 64 * (b + 2) ∧ r = -13 ∧ e = nI (b + 1)) ∨ (64 * (b + 2) ≤ L ∧ ¬ ta_z ar (64 * (b + 1)) 64 ∧ r = -14 ∧ e = nI (b + 1)) ∨ (64 * (b + 2) ≤ L ∧ ta_z ar (64 * (b + 1)) 64 ∧ r = nI c ∧ e = -1))) ∨
  (64 * (b + 1) ≤ L ∧ ¬ ta_z ar (64 * b) 64 ∧ ta_HF ar (64 * b) r ∧ r ≠ 0 ∧ e = nI b) ∨
  (64 * (b + 1) ≤ L ∧ ¬ ta_z ar (64 * b) 64 ∧ ta_HF ar (64 * b) 0 ∧ (∃ nd nv t, ta_EF ar (64 * b) mn c kd tg P r nd nv t) ∧ r ≠ 0 ∧ e = nI b) ∨
  (64 * (b + 1) ≤ L ∧ ¬ ta_z ar (64 * b) 64 ∧ ta_HF ar (64 * b) 0 ∧ (∃ nd nv t, ta_EF ar (64 * b) mn c kd tg P 0 nd nv t) ∧ 0 < ta_ov ar (64 * b + 16) 3 ∧ ((L < 64 * (b + 2) ∧ r = -13 ∧ e = nI (b + 1)) ∨ (64 * (b + 2) ≤ L ∧ ¬ ta_z ar (64 * (b + 1) + ta_ov ar (64 * b + 16) 3) (64 - ta_ov ar (64 * b + 16) 3) ∧ r = -21 ∧ e = nI (b + 1))))
/-- or it takes the header at b in -/
def ta_Go (ar : Nat → Int32) (L mn c : Nat) (kd tg : Nat → Int32) (P : Nat → List Int32) (b : Nat) (nd nv t : Int32) : Prop :=
  64 * (b + 1) ≤ L ∧ ¬ ta_z ar (64 * b) 64 ∧ ta_HF ar (64 * b) 0 ∧ ta_EF ar (64 * b) mn c kd tg P 0 nd nv t ∧ (ta_ov ar (64 * b + 16) 3 = 0 ∨ (64 * (b + 2) ≤ L ∧ ta_z ar (64 * (b + 1) + ta_ov ar (64 * b + 16) 3) (64 - ta_ov ar (64 * b + 16) 3)))
theorem ta_HF0 {a : Nat → Int32} {o : Nat} (h : ta_HF a o 0) : ta_Ck a o ∧ ta_Mg a o ∧ ta_Ty a o ∧ ta_Fl a o ∧ ta_Sz a o ∧ ta_ov a (o + 16) 3 ≤ 32 := by
  rcases h with ⟨_, h⟩ | ⟨_, _, h⟩ | ⟨_, _, _, h⟩ | ⟨_, _, _, _, h⟩ | ⟨_, _, _, _, _, _, h⟩ | ⟨h1, h2, h3, h4, h5, h6, _⟩
  · exact absurd h (by decide)
  · exact absurd h (by decide)
  · exact absurd h (by decide)
  · exact absurd h (by decide)
  · exact absurd h (by decide)
  · exact ⟨h1, h2, h3, h4, h5, h6⟩
theorem xa_kindOf {post : Int32 → Prop} {y : Int32} (h : post (ta_ki y)) : wpX_kindOf post () y := by
  unfold ta_ki at h
  refine br_c (fun z => ?_) (fun z => br_c (fun w => ?_) (fun w => ?_))
  · rw [if_pos z] at h; exact h
  · rw [if_neg z, if_pos w] at h; exact h
  · rw [if_neg z, if_neg w] at h; exact h
section
variable {fa fb fl fe fp fn ft : Int32} {ct kd pr nm md sz tg dt ar pa : Nat → Int32} {P : Nat → List Int32} {c : Nat}
theorem xa_e156 (H : ta_Tr 8 c kd pr nm P) (hct : ct 1 = nI c) (X : ∀ i, i < c → ta_Nx 8 kd sz tg i) {mn : Nat} (hc : c ≤ 8) {post : Int32 → St2 → Prop} {o s : Nat} {nd : Int32} (ho : o + 64 ≤ 768) (hNm : ta_Nm ar o) (hcm : c ≠ mn) (hs : ta_St (ta_g (ta_T ar o)) s (ta_T ar o).length) (hP : ta_Pa c kd P (ta_T ar o) s nd) (hpa : ∀ k, k < (ta_T ar o).length → pa k = ta_g (ta_T ar o) k)
    (h1 : ∀ nv t, ta_EF ar o mn c kd tg P 0 nd nv t → post 0 (fa, fb, fl, fe, nd, nv, t, ct, kd, pr, nm, md, sz, tg, dt, ar, pa))
    (h0 : ∀ r nd' nv t, r ≠ 0 → ta_EF ar o mn c kd tg P r nd' nv t → ∀ fp' fn' ft', post r (fa, fb, fl, fe, fp', fn', ft', ct, kd, pr, nm, md, sz, tg, dt, ar, pa)) :
    wX_entryFault_156 post (nI o) (nI (ta_T ar o).length) (nI s) fa fb fl fe nd fn ft ct kd pr nm md sz tg dt ar pa := by
  have h23 := ta_T_len ar o
  obtain ⟨l1, l4, lc⟩ := ta_vp_last hNm.2.2 hs
  have epk : ta_pk pa s ((ta_T ar o).length - s) = ta_pk (ta_g (ta_T ar o)) s ((ta_T ar o).length - s) := ta_pk_cg _ (fun k hk => hpa _ (by omega))
  unfold wX_entryFault_156
  refine xa_packName_path s ((ta_T ar o).length - s) rfl (by rw [show s + ((ta_T ar o).length - s) = (ta_T ar o).length by omega]) (by omega) (fun _ _ _ => ?_) (fun nv => absurd ⟨by omega, by omega, fun j hj => by rw [hpa _ (by omega)]; exact lc j hj⟩ nv)
  rw [epk]
  refine xa_findChild (t := 1) (by omega) hct hc (fun j hj e1 e2 => br_f (fun z => nI_pos (n := j) (by omega) (by rw [z]; decide)) ?_) (fun no => br_t rfl ?_)
  · exact h0 (-8) nd 0 0 (by decide) (Or.inr (Or.inr ⟨hNm, hcm, s, hs, Or.inr ⟨hP, Or.inl ⟨(ta_dup H (by omega) hP hs hNm.2.2).mpr ⟨j, hj, e1, e2⟩, rfl⟩⟩⟩)) _ _ _
  · have nod : ¬ ∃ j, j < c ∧ P j = ta_T ar o := fun w => by
      obtain ⟨j, hj, e1, e2⟩ := (ta_dup H (by omega) hP hs hNm.2.2).mp w
      exact no j hj e1 e2
    refine xa_linkFault H hc hct X ho (fun t ht => ?_) (fun nt ft' => ?_)
    · exact h1 _ t (Or.inr (Or.inr ⟨hNm, hcm, s, hs, Or.inr ⟨hP, Or.inr ⟨nod, rfl, Or.inr ⟨ht, rfl⟩⟩⟩⟩))
    · exact h0 (-10) nd _ 0 (by decide) (Or.inr (Or.inr ⟨hNm, hcm, s, hs, Or.inr ⟨hP, Or.inr ⟨nod, rfl, Or.inl ⟨nt, rfl⟩⟩⟩⟩)) _ _ _
theorem xa_entryFault (H : ta_Tr 8 c kd pr nm P) (hct : ct 1 = nI c) (X : ∀ i, i < c → ta_Nx 8 kd sz tg i) {mn : Nat} (hc : c ≤ mn) (hmn : mn ≤ 8) {post : Int32 → St2 → Prop} {o : Nat} (ho : o + 64 ≤ 768)
    (h1 : ∀ nd nv t pa', ta_EF ar o mn c kd tg P 0 nd nv t → post 0 (nI mn, fb, fl, fe, nd, nv, t, ct, kd, pr, nm, md, sz, tg, dt, ar, pa'))
    (h0 : ∀ r nd nv t, r ≠ 0 → ta_EF ar o mn c kd tg P r nd nv t → ∀ fp' fn' ft' pa', post r (nI mn, fb, fl, fe, fp', fn', ft', ct, kd, pr, nm, md, sz, tg, dt, ar, pa')) :
    wpX_entryFault post (nI mn, fb, fl, fe, fp, fn, ft, ct, kd, pr, nm, md, sz, tg, dt, ar, pa) (nI o) := by
  have b1 := (ta_tl_spec ar 12 o).1
  have b2 := (ta_tl_spec ar 10 (o + 47)).1
  have h23 := ta_T_len ar o
  have e0 : nI o + 0 = nI o := by rw [show (0 : Int32) = nI 0 from rfl, nI_add]; rfl
  have e47 : nI o + 47 = nI (o + 47) := nI_add o 47
  have F : ¬ ta_Nm ar o → ∀ fp' fn' ft' pa', post (-5) (nI mn, fb, fl, fe, fp', fn', ft', ct, kd, pr, nm, md, sz, tg, dt, ar, pa') := fun w => h0 (-5) 0 0 0 (by decide) (Or.inl ⟨w, rfl⟩)
  unfold wpX_entryFault
  refine xa_textLength 12 e0 (by omega) (xa_textLength 10 e47 (by omega) ?_)
  refine xa_isZero (o + ta_tl ar o 12) (12 - ta_tl ar o 12) (by rw [e0, nI_add]) (by rw [e0, show o + ta_tl ar o 12 + (12 - ta_tl ar o 12) = o + 12 by omega]; exact nI_add o 12) (by omega) (fun w1 => br_f (by decide) ?_) (fun w1 => br_t rfl (F (fun w => w1 w.1) _ _ _ _))
  refine xa_isZero (o + 47 + ta_tl ar (o + 47) 10) (10 - ta_tl ar (o + 47) 10) (by rw [e47, nI_add]) (by rw [e47, show o + 47 + ta_tl ar (o + 47) 10 + (10 - ta_tl ar (o + 47) 10) = o + 47 + 10 by omega]; exact nI_add (o + 47) 10) (by omega) (fun w2 => br_f (by decide) ?_) (fun w2 => br_t rfl (F (fun w => w2 w.2.1) _ _ _ _))
  refine xa_loadHeaderPath ho ?_
  have hpa : ∀ k, k < (ta_T ar o).length → ta_wr pa 0 (ta_T ar o) k = ta_g (ta_T ar o) k := fun k hk => ta_g_wr hk
  refine xa_isValidPath (by omega) hpa (fun vp => br_f (by decide) ?_) (fun vp => br_t rfl (F (fun w => vp w.2.2) _ _ _ _))
  have hNm : ta_Nm ar o := ⟨w1, w2, vp⟩
  refine pk_lt c mn (fun g => ?_) (fun g => h0 (-20) 0 0 0 (by decide) (Or.inr (Or.inl ⟨hNm, by omega, rfl⟩)) _ _ _ _) (hx := hct)
  have hcm : c ≠ mn := by omega
  refine xa_lastNameStart (by omega) hpa (fun s hs => ?_)
  obtain ⟨l1, l4, lc⟩ := ta_vp_last vp hs
  refine pk_eq s 0 (fun s0 => ?_) (fun s0 => ?_)
  · refine br_t rfl (xa_e156 H hct X (by omega) ho hNm hcm hs (Or.inl ⟨s0, rfl⟩) hpa (fun nv t w => h1 _ nv t _ w) (fun r nd' nv t w1 w2 fp' fn' ft' => h0 r nd' nv t w1 w2 fp' fn' ft' _))
  · have es : nI s - 1 = nI (s - 1) := by
      obtain ⟨q, rfl⟩ : ∃ q, s = q + 1 := ⟨s - 1, by omega⟩
      rw [nI_pred]; rfl
    have etk : ta_sg (ta_wr pa 0 (ta_T ar o)) 0 (s - 1) = (ta_T ar o).take (s - 1) := ta_wr_take (by omega)
    refine xa_findPath_path H (by omega) hct 0 (s - 1) rfl (by rw [es, Nat.zero_add]) (by omega) (fun r hr => ?_)
    rw [etk] at hr
    rcases hr with ⟨q, hq, hP, rfl⟩ | ⟨no, rfl⟩
    · refine br_f (ta_m1 (by omega)) ?_
      refine xa_isDir (t := 1) (by omega) hct (by omega) (fun j hj e k3 => br_f (by decide) ?_) (fun w => br_t rfl ?_)
      · have : q = j := (nI_eq (by omega) (by omega)).mp e
        subst this
        exact xa_e156 H hct X (by omega) ho hNm hcm hs (Or.inr ⟨by omega, q, hq, hP, k3, rfl⟩) hpa (fun nv t w => h1 _ nv t _ w) (fun r nd' nv t w1 w2 fp' fn' ft' => h0 r nd' nv t w1 w2 fp' fn' ft' _)
      · refine h0 (-6) 0 0 0 (by decide) (Or.inr (Or.inr ⟨hNm, hcm, s, hs, Or.inl ⟨fun x hx => ?_, rfl⟩⟩)) _ _ _ _
        rcases hx with ⟨hx, _⟩ | ⟨_, i, hi, hPi, k3, _⟩
        · exact s0 hx
        · have : i = q := ta_P_inj H i q hi hq (hPi.trans hP.symm)
          subst this
          exact w i hi rfl k3
    · refine br_f (by decide) ?_
      refine xa_isDir (t := 1) (by omega) hct (by omega) (fun j hj e k3 => absurd (show nI j < 0 by rw [← e]; decide) (nI_pos (by omega))) (fun w => br_t rfl ?_)
      refine h0 (-6) 0 0 0 (by decide) (Or.inr (Or.inr ⟨hNm, hcm, s, hs, Or.inl ⟨fun x hx => ?_, rfl⟩⟩)) _ _ _ _
      rcases hx with ⟨hx, _⟩ | ⟨_, i, hi, hPi, k3, _⟩
      · exact s0 hx
      · exact no i hi hPi
theorem xa_pe66 {post : St2 → Prop} {o s q : Nat} (hs : s ≤ 32) (ho : s = 0 ∨ o + 128 ≤ 768) (hq : q < 16) (h : post (fa, fb, fl, fe, fp, fn, ft, ct, kd, pr, nm, md, sz, tg, ta_wr dt (32 * q) (ta_sg ar (o + 64) s), ar, pa)) :
    ∀ n k, k ≤ s → s < k + n → wX_putEntry_66 post (nI o) (nI s) (nI q) fa fb fl fe fp fn ft n (nI k) ct kd pr nm md sz tg (ta_wr dt (32 * q) (ta_sg ar (o + 64) k)) ar pa := by
  intro n
  induction n with
  | zero => intro k _ g; omega
  | succ n ih =>
    intro k g1 g2
    have ei : nI o + 64 + nI k = nI (o + 64 + k) := by rw [show (64 : Int32) = nI 64 from rfl, nI_add, nI_add]
    have eq : nI q * 32 + nI k = nI (32 * q + k) := by rw [show (32 : Int32) = nI 32 from rfl, pk_mul, nI_add, Nat.mul_comm]
    refine pk_le s k (fun g => ?_) (fun g => ⟨by rw [ei]; exact vp_in_nI (by omega) (by omega), by rw [eq]; exact vp_in_nI (by omega) (by omega), nm_r (e' := ta_wr dt (32 * q) (ta_sg ar (o + 64) (k + 1))) ?_ (nm_r (nI_1 k) (ih (k + 1) (by omega) (by omega)))⟩)
    · rw [show k = s by omega]; exact h
    · rw [ei, eq, nI_clamp (by omega), nI_clamp (by omega), ta_sg_S, ← ta_wr_snoc, ta_sg_len]
theorem xa_putEntry (hct : ct 1 = nI c) (hc : c < 8) (hb : ∀ j, ta_by (ar j)) {post : St2 → Prop} {o s : Nat} (hs : s ≤ 32) (ho : o + 64 ≤ 768) (ho2 : s = 0 ∨ o + 128 ≤ 768) (hok : ta_ok ar (o + 12) 3)
    (h : post (fa, fb, fl, fe, fp, fn, ft, upd ct 1 (nI (c + 1)), upd kd (8 + c) (ta_ki (ar (o + 26))), upd pr (8 + c) fp, upd nm (8 + c) fn, upd md (8 + c) (nI (ta_ov ar (o + 12) 3)), upd sz (8 + c) (nI s), upd tg (8 + c) ft, ta_wr dt (32 * (8 + c)) (ta_sg ar (o + 64) s), ar, pa)) :
    wpX_putEntry post (fa, fb, fl, fe, fp, fn, ft, ct, kd, pr, nm, md, sz, tg, dt, ar, pa) (nI o) (nI s) := by
  have e26 : nI o + 26 = nI (o + 26) := nI_add o 26
  refine nm_r (e' := nI (8 + c)) (by rw [hct]; exact nI_add 8 c) ⟨by rw [e26]; exact vp_in_nI (by omega) (by omega), ?_⟩
  rw [e26, nI_clamp (n := o + 26) (by omega)]
  refine xa_kindOf (xa_octalValue 3 (nI_add o 12) hb (by omega) (by omega) (fun _ => ?_) (fun w => absurd hok w))
  refine xa_putNode (t := 1) (by omega) hct hc ⟨vp_in_nI (by omega) (by omega), nm_r (e' := upd sz (8 + c) (nI s)) (by rw [nI_clamp (by omega)]; exact ta_upd2 _ _ _ _) ?_⟩
  have := xa_pe66 (fa := fa) (fb := fb) (fl := fl) (fe := fe) (fp := fp) (fn := fn) (ft := ft) (pa := pa) hs ho2 (q := 8 + c) (by omega) h (s + 1) 0 (Nat.zero_le _) (by omega)
  rw [ta_sg_0, ta_wr_nil] at this
  exact ⟨_, this⟩
theorem xa_dataFault {post : Int32 → Prop} {p0 : Int32} {L b s : Nat} (e : p0 = nI b) (hL : L ≤ 768) (hs : s ≤ 64) (h1 : L < 64 * (b + 1) → post (-13)) (h2 : 64 * (b + 1) ≤ L → ¬ ta_z ar (64 * b + s) (64 - s) → post (-21)) (h3 : 64 * (b + 1) ≤ L → ta_z ar (64 * b + s) (64 - s) → post 0) (hb : b < 1000) :
    wpX_dataFault post (fa, fb, nI L, fe, fp, fn, ft, ct, kd, pr, nm, md, sz, tg, dt, ar, pa) p0 (nI s) := by
  unfold wpX_dataFault
  have em : p0 * 64 = nI (64 * b) := by rw [e, show (64 : Int32) = nI 64 from rfl, pk_mul, Nat.mul_comm]
  refine xa_isWhole e hL hb (fun w2 => br_f (by decide) ?_) (fun w2 => br_t rfl (h1 w2))
  exact xa_isZero (64 * b + s) (64 - s) (by rw [em, nI_add]) (by rw [em, show 64 * b + s + (64 - s) = 64 * b + 64 by omega]; exact nI_add _ 64) (by omega) (fun z2 => br_f (by decide) (h3 w2 z2)) (fun z2 => br_t rfl (h2 w2 z2))
theorem xa_step (H : ta_Tr 8 c kd pr nm P) (hct : ct 1 = nI c) (X : ∀ i, i < c → ta_Nx 8 kd sz tg i) {mn mb L b : Nat} (hc : c ≤ mn) (hmn : mn ≤ 8) (hmb : mb ≤ 12) (hL : L ≤ 64 * mb) (hb : ∀ j, ta_by (ar j)) (hbb : b ≤ mb) {post : Int32 → St2 → Prop} {n : Nat}
    (hS : ∀ r e, ta_Stop ar L mn c kd tg P b r e → ∀ fp' fn' ft' pa', post r (nI mn, nI mb, nI L, e, fp', fn', ft', ct, kd, pr, nm, md, sz, tg, dt, ar, pa'))
    (hG : ∀ nd nv t, ta_Go ar L mn c kd tg P b nd nv t → c < mn → ∀ pa', wX_extract_9 post n (nI (if ta_ov ar (64 * b + 16) 3 = 0 then b + 1 else b + 2)) (nI mn) (nI mb) (nI L) fe nd nv t (upd ct 1 (nI (c + 1))) (upd kd (8 + c) (ta_ki (ar (64 * b + 26)))) (upd pr (8 + c) nd) (upd nm (8 + c) nv) (upd md (8 + c) (nI (ta_ov ar (64 * b + 12) 3))) (upd sz (8 + c) (nI (ta_ov ar (64 * b + 16) 3))) (upd tg (8 + c) t) (ta_wr dt (32 * (8 + c)) (ta_sg ar (64 * b + 64) (ta_ov ar (64 * b + 16) 3))) ar pa') :
    wX_extract_9 post (n + 1) (nI b) (nI mn) (nI mb) (nI L) fe fp fn ft ct kd pr nm md sz tg dt ar pa := by
  refine pk_le mb b (fun g => ?_) (fun g => ?_)
  · have e : mb = b := by omega
    subst e
    exact hS (-13) _ (Or.inl ⟨by omega, rfl, rfl⟩) _ _ _ _
  · refine nm_r (e' := nI (64 * b)) (by rw [show (64 : Int32) = nI 64 from rfl, pk_mul, Nat.mul_comm]) ?_
    refine xa_isWhole rfl (by omega) (by omega) (fun w => br_f (by decide) ?_) (fun w => br_t rfl (hS _ _ (Or.inl ⟨w, rfl, rfl⟩) _ _ _ _))
    refine xa_isZero (64 * b) 64 rfl (nI_add (64 * b) 64) (by omega) (fun z => br_f (by decide) ?_) (fun z => br_t rfl ?_)
    · refine nm_r (nI_1 b) (xa_isWhole rfl (by omega) (by omega) (fun w2 => br_f (by decide) ?_) (fun w2 => br_t rfl (hS _ _ (Or.inr (Or.inl ⟨w, z, Or.inl ⟨w2, rfl, rfl⟩⟩)) _ _ _ _)))
      have em : nI (b + 1) * 64 = nI (64 * (b + 1)) := by rw [show (64 : Int32) = nI 64 from rfl, pk_mul, Nat.mul_comm]
      refine xa_isZero (64 * (b + 1)) 64 em (by rw [em]; exact nI_add _ 64) (by omega) (fun z2 => br_f (by decide) ?_) (fun z2 => br_t rfl (hS _ _ (Or.inr (Or.inl ⟨w, z, Or.inr (Or.inl ⟨w2, z2, rfl, rfl⟩)⟩)) _ _ _ _))
      rw [hct]
      exact hS _ _ (Or.inr (Or.inl ⟨w, z, Or.inr (Or.inr ⟨w2, z2, rfl, rfl⟩)⟩)) _ _ _ _
    · refine xa_headerFault hb (by omega) (fun r hr => br_c (fun r0 => ?_) (fun r0 => ?_))
      · subst r0
        refine xa_entryFault H hct X hc hmn (by omega) (fun nd nv t pa' hE => br_t rfl ?_) (fun r nd nv t rn hE fp' fn' ft' pa' => br_f rn (hS _ _ (Or.inr (Or.inr (Or.inr (Or.inl ⟨w, z, hr, ⟨nd, nv, t, hE⟩, rn, rfl⟩)))) _ _ _ _))
        obtain ⟨_, _, _, hFl, hSz, h32⟩ := ta_HF0 hr
        have hcm : c < mn := by
          rcases hE with ⟨_, q⟩ | ⟨_, _, q⟩ | ⟨_, q, _⟩
          · exact absurd q (by decide)
          · exact absurd q (by decide)
          · omega
        refine xa_octalValue 3 (nI_add (64 * b) 16) hb (by omega) (by omega) (fun _ => ?_) (fun q => absurd hFl.2.1 q)
        refine pk_le (ta_ov ar (64 * b + 16) 3) 0 (fun y => ?_) (fun y => ?_)
        · have y0 : ta_ov ar (64 * b + 16) 3 = 0 := by omega
          refine xa_putEntry hct (by omega) hb h32 (by omega) (Or.inl y0) hFl.1 (br_t (by rw [y0]; decide) (nm_r (nI_1 b) ?_))
          have := hG nd nv t ⟨w, z, hr, hE, Or.inl y0⟩ hcm pa'
          rw [if_pos y0] at this
          exact this
        · have dS : ∀ r e, (L < 64 * (b + 2) ∧ r = -13 ∧ e = nI (b + 1)) ∨ (64 * (b + 2) ≤ L ∧ ¬ ta_z ar (64 * (b + 1) + ta_ov ar (64 * b + 16) 3) (64 - ta_ov ar (64 * b + 16) 3) ∧ r = -21 ∧ e = nI (b + 1)) → ∀ fp' fn' ft' pa', post r (nI mn, nI mb, nI L, e, fp', fn', ft', ct, kd, pr, nm, md, sz, tg, dt, ar, pa') :=
            fun r e q => hS r e (Or.inr (Or.inr (Or.inr (Or.inr ⟨w, z, hr, ⟨nd, nv, t, hE⟩, y, q⟩))))
          refine xa_dataFault (nI_1 b) (by omega) (by omega) (fun w2 => br_f (by decide) ?_) (fun w2 z2 => br_f (by decide) ?_) (fun w2 z2 => br_t rfl ?_) (by omega)
          · have := dS (-13) _ (Or.inl ⟨w2, rfl, rfl⟩) nd nv t pa'
            rw [← nI_1 b] at this
            exact this
          · have := dS (-21) _ (Or.inr ⟨w2, z2, rfl, rfl⟩) nd nv t pa'
            rw [← nI_1 b] at this
            exact this
          · refine xa_putEntry hct (by omega) hb h32 (by omega) (Or.inr (by omega)) hFl.1 (br_f (nI_nle (by omega) (by omega)) (nm_r (nI_1 b) (nm_r (nI_1 (b + 1)) ?_)))
            have := hG nd nv t ⟨w, z, hr, hE, Or.inr ⟨w2, z2⟩⟩ hcm pa'
            rw [if_neg (by omega)] at this
            exact this
      · exact br_f r0 (hS _ _ (Or.inr (Or.inr (Or.inl ⟨w, z, hr, r0, rfl⟩))) _ _ _ _)
end
