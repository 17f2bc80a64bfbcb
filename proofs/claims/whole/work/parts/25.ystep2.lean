/-! 25: the reference's step, from its end to its beginning -/
theorem ta_vp_nl {a : Nat → Int32} {o : Nat} (h : ta_tl a o 12 = 0) : ¬ ta_vp (ta_T a o) := by
  intro hv
  unfold ta_T at hv
  rw [h, ta_sg_0] at hv
  by_cases p : ta_tl a (o + 47) 10 = 0
  · rw [if_pos p] at hv
    obtain ⟨s, hs, _⟩ := hv.1 0 (Nat.le_refl _) (Or.inl rfl)
    omega
  · rw [if_neg p] at hv
    have hl : (ta_sg a (o + 47) (ta_tl a (o + 47) 10) ++ [(47 : Int32)]).length = ta_tl a (o + 47) 10 + 1 := by rw [List.length_append, ta_sg_len]; rfl
    obtain ⟨s, hs, _, _, hn⟩ := hv.1 _ (Nat.le_refl _) (Or.inl rfl)
    rw [hl] at hs hn
    have := hn (ta_tl a (o + 47) 10) (by omega) (by omega)
    have e : ta_g (ta_sg a (o + 47) (ta_tl a (o + 47) 10) ++ [(47 : Int32)]) (ta_tl a (o + 47) 10) = 47 := by
      unfold ta_g
      rw [List.getD_eq_getElem?_getD, List.getElem?_append_right (by rw [ta_sg_len]; exact Nat.le_refl _), ta_sg_len, Nat.sub_self]
      rfl
    rw [e] at this
    exact ta_nc_47 this
section
variable {fa fb fl fe yc yo yb : Int32} {ct kd pr nm my tg sz dt ar sc st : Nat → Int32} {P : Nat → List Int32} {c : Nat}
theorem ya_773 (H : ta_Tr 8 c kd pr nm P) (hct : ct 1 = nI c) {post : Int32 → SY → Prop} {mn mb L b : Nat} (hmn : mn ≤ 8) (hcm : c < mn) (hmb : mb ≤ 12) (hL : L ≤ 64 * mb) (hbb : b < mb) {s : Nat} {x12 nd : Int32} (w : 64 * (b + 1) ≤ L) (z : ¬ ta_z ar (64 * b) 64) (hr : ta_HF ar (64 * b) 0) (hNm : ta_Nm ar (64 * b))
    (hSt : ta_St (ta_g (ta_T ar (64 * b))) s (ta_T ar (64 * b)).length) (hPa : ta_Pa c kd P (ta_T ar (64 * b)) s nd) (hnd : ¬ ∃ j, j < c ∧ P j = ta_T ar (64 * b)) (t1 : ar (64 * b + 26) = 49) (hwf : ta_wf ar (64 * b + 27) 12) (h12 : x12 + 1 = nI s) (hsc : ∀ k, k < (ta_T ar (64 * b)).length → sc k = ta_g (ta_T ar (64 * b)) k)
    (hS : ta_YS post fa fb fe yc ct kd pr nm my tg sz dt ar P L mn c b) (hG : ta_YG post fa fb fe yc yo yb ct kd pr nm my tg sz dt ar P L mn c b) :
    ∀ n k, k ≤ ta_tl ar (64 * b + 27) 12 → ta_tl ar (64 * b + 27) 12 < k + n → wY_step_773 post (nI b) (nI (64 * b)) (ta_ki (ar (64 * b + 26))) (nI (ta_ov ar (64 * b + 12) 3)) (nI (ta_ov ar (64 * b + 16) 3)) (nI (ta_T ar (64 * b)).length) x12 nd (nI (ta_tl ar (64 * b + 27) 12)) fa fb (nI L) fe yc yo yb n (nI k) ct kd pr nm my tg sz dt ar (ta_wr sc 32 (ta_sg ar (64 * b + 27) k)) st := by
  have b12 := (ta_tl_spec ar 12 (64 * b + 27)).1
  have h23 := ta_T_len ar (64 * b)
  intro n
  induction n with
  | zero => intro k _ g; omega
  | succ n ih =>
    intro k g1 g2
    have e1 : nI (64 * b) + 27 + nI k = nI (64 * b + 27 + k) := by rw [show (27 : Int32) = nI 27 from rfl, nI_add, nI_add]
    have e2 : (32 : Int32) + nI k = nI (32 + k) := nI_add 32 k
    refine pk_le (ta_tl ar (64 * b + 27) 12) k (fun g => ?_) (fun g => ⟨by rw [e1]; exact vp_in_nI (by omega) (by omega), by rw [e2]; exact vp_in_nI (by omega) (by omega), nm_r (e' := ta_wr sc 32 (ta_sg ar (64 * b + 27) (k + 1))) ?_ (nm_r (nI_1 k) (ih (k + 1) (by omega) (by omega)))⟩)
    · have ek : k = ta_tl ar (64 * b + 27) 12 := by omega
      rw [ek]
      have eT : ta_sg (ta_wr sc 32 (ta_sg ar (64 * b + 27) (ta_tl ar (64 * b + 27) 12))) 32 (ta_tl ar (64 * b + 27) 12) = ta_sg ar (64 * b + 27) (ta_tl ar (64 * b + 27) 12) := by
        have := ta_wr_sg sc 32 (ta_sg ar (64 * b + 27) (ta_tl ar (64 * b + 27) 12))
        rwa [ta_sg_len] at this
      have agT : ∀ sc' : Nat → Int32, (∀ k, k < 64 → sc' k = ta_wr sc 32 (ta_sg ar (64 * b + 27) (ta_tl ar (64 * b + 27) 12)) k) → ∀ k, k < (ta_T ar (64 * b)).length → sc' k = ta_g (ta_T ar (64 * b)) k := fun sc' ag k hk => by
        rw [ag k (by omega), ta_wr_out (by omega)]; exact hsc k hk
      have EF0 : ∀ t, ta_Lk ar (64 * b) c kd tg P t → ta_EF ar (64 * b) mn c kd tg P 0 nd (ta_pk (ta_g (ta_T ar (64 * b))) s ((ta_T ar (64 * b)).length - s)) t := fun t ht => Or.inr (Or.inr ⟨hNm, by omega, s, hSt, Or.inr ⟨hPa, Or.inr ⟨hnd, rfl, Or.inr ⟨ht, rfl⟩⟩⟩⟩)
      refine ya_findPath H (by omega) hct 2 32 (ta_tl ar (64 * b + 27) 12) (by omega) (by omega) (by omega) (fun j hj hfl hP sc' st' ag => ?_) (fun no sc' st' ag => ?_)
      · rw [eT] at hP
        have e8 : (8 : Int32) + nI j = nI (8 + j) := nI_add 8 j
        have k3 : kd (8 + j) ≠ 3 := hfl.2 rfl
        refine br_t (nI_pos' (by omega)) ⟨by rw [e8]; exact vp_in_nI (by omega) (by omega), ?_⟩
        rw [e8, nI_clamp (n := 8 + j) (by omega)]
        refine br_c (fun k2 => ⟨vp_in_nI (by omega) (by omega), nm_e ?_⟩) (fun k2 => ?_)
        · exact ya_858 hct hmn hcm hmb hL hbb w z hr (EF0 _ (Or.inr ⟨t1, hwf, j, hj, hP, k3, by rw [if_pos k2]⟩)) hSt rfl h12 (agT sc' ag) hS hG
        · exact ya_858 hct hmn hcm hmb hL hbb w z hr (EF0 _ (Or.inr ⟨t1, hwf, j, hj, hP, k3, by rw [if_neg k2]⟩)) hSt rfl h12 (agT sc' ag) hS hG
      · rw [eT] at no
        refine br_f (by decide) (hS (-10) (nI b) (-10) (Or.inr (Or.inr (Or.inr (Or.inl ⟨w, z, hr, ⟨nd, _, 0, Or.inr (Or.inr ⟨hNm, by omega, s, hSt, Or.inr ⟨hPa, Or.inr ⟨hnd, rfl, Or.inl ⟨fun x hx => ?_, rfl⟩⟩⟩⟩)⟩, by decide, rfl⟩)))) (Or.inl ⟨by decide, rfl⟩) _ _)
        rcases hx with ⟨q, _⟩ | ⟨_, _, j, hj, hP, k3, _⟩
        · exact q t1
        · exact no j hj ⟨fun q => absurd q (by decide), fun _ => k3⟩ hP
    · rw [e1, e2, nI_clamp (n := 64 * b + 27 + k) (by omega), nI_clamp (n := 32 + k) (by omega), ta_sg_S, ← ta_wr_snoc, ta_sg_len]
theorem ya_688 (H : ta_Tr 8 c kd pr nm P) (hct : ct 1 = nI c) {post : Int32 → SY → Prop} {mn mb L b : Nat} (hmn : mn ≤ 8) (hcm : c < mn) (hmb : mb ≤ 12) (hL : L ≤ 64 * mb) (hbb : b < mb) {s : Nat} {x12 nd : Int32} (w : 64 * (b + 1) ≤ L) (z : ¬ ta_z ar (64 * b) 64) (hr : ta_HF ar (64 * b) 0) (hNm : ta_Nm ar (64 * b))
    (hSt : ta_St (ta_g (ta_T ar (64 * b))) s (ta_T ar (64 * b)).length) (hPa : ta_Pa c kd P (ta_T ar (64 * b)) s nd) (h12 : x12 + 1 = nI s) (hsc : ∀ k, k < (ta_T ar (64 * b)).length → sc k = ta_g (ta_T ar (64 * b)) k)
    (hS : ta_YS post fa fb fe yc ct kd pr nm my tg sz dt ar P L mn c b) (hG : ta_YG post fa fb fe yc yo yb ct kd pr nm my tg sz dt ar P L mn c b) :
    wY_step_688 post (nI b) (nI (64 * b)) (ta_ki (ar (64 * b + 26))) (nI (ta_ov ar (64 * b + 12) 3)) (nI (ta_ov ar (64 * b + 16) 3)) (nI (ta_T ar (64 * b)).length) x12 nd fa fb (nI L) fe yc yo yb ct kd pr nm my tg sz dt ar sc st := by
  have h23 := ta_T_len ar (64 * b)
  obtain ⟨_, _, hTy, _, _, _⟩ := ta_HF0 hr
  have eT : ta_sg sc 0 (ta_T ar (64 * b)).length = ta_T ar (64 * b) := by
    rw [← ta_g_sg (ta_T ar (64 * b))]
    conv => lhs; rw [ta_g_sg (ta_T ar (64 * b))]
    exact ta_sg_congr (fun k hk => by rw [Nat.zero_add]; exact hsc k hk)
  have e27 : nI (64 * b) + 27 = nI (64 * b + 27) := nI_add _ 27
  have SE : ∀ r nv t, ta_EF ar (64 * b) mn c kd tg P r nd nv t → r ≠ 0 → ∀ sc' st', post (-1) (fa, fb, nI L, fe, yc, r, nI b, ct, kd, pr, nm, my, tg, sz, dt, ar, sc', st') := fun r nv t q rn => hS r (nI b) r (Or.inr (Or.inr (Or.inr (Or.inl ⟨w, z, hr, ⟨nd, nv, t, q⟩, rn, rfl⟩)))) (Or.inl ⟨rn, rfl⟩)
  unfold wY_step_688
  refine ya_findPath H (by omega) hct 0 0 (ta_T ar (64 * b)).length (by omega) (by omega) (by omega) (fun j hj _ hP sc' st' ag => ?_) (fun no sc' st' ag => ?_)
  · rw [eT] at hP
    exact br_f (nI_pos (by omega)) (SE (-8) 0 0 (Or.inr (Or.inr ⟨hNm, by omega, s, hSt, Or.inr ⟨hPa, Or.inl ⟨⟨j, hj, hP⟩, rfl⟩⟩⟩)) (by decide) _ _)
  · rw [eT] at no
    have hnd : ¬ ∃ j, j < c ∧ P j = ta_T ar (64 * b) := fun ⟨j, hj, q⟩ => no j hj ⟨fun q => absurd q (by decide), fun q => absurd q (by decide)⟩ q
    have hsc' : ∀ k, k < (ta_T ar (64 * b)).length → sc' k = ta_g (ta_T ar (64 * b)) k := fun k hk => by rw [ag k (by omega)]; exact hsc k hk
    have noL : (∀ x, ¬ ta_Lk ar (64 * b) c kd tg P x) → ∀ sc' st', post (-1) (fa, fb, nI L, fe, yc, -10, nI b, ct, kd, pr, nm, my, tg, sz, dt, ar, sc', st') := fun q => SE (-10) _ 0 (Or.inr (Or.inr ⟨hNm, by omega, s, hSt, Or.inr ⟨hPa, Or.inr ⟨hnd, rfl, Or.inl ⟨q, rfl⟩⟩⟩⟩)) (by decide)
    have k49 : ta_ki (ar (64 * b + 26)) = 2 ↔ ar (64 * b + 26) = 49 := by
      rcases hTy with q | q | q <;> rw [q] <;> decide
    refine br_t (by decide) (br_c (fun k2 => ?_) (fun k2 => ?_))
    · have t1 := k49.mp k2
      refine ya_wellFormed 12 e27 (by omega) (fun wf => br_f (by decide) ?_) (fun wf => br_t rfl (noL (fun x hx => ?_) _ _))
      · refine ya_textLen 12 e27 (by omega) ?_
        have := ya_773 (sc := sc') (st := st') H hct hmn hcm hmb hL hbb w z hr hNm hSt hPa hnd t1 wf h12 hsc' hS hG (ta_tl ar (64 * b + 27) 12 + 1) 0 (Nat.zero_le _) (by omega)
        rw [ta_sg_0, ta_wr_nil] at this
        exact ⟨_, this⟩
      · rcases hx with ⟨q, _⟩ | ⟨_, q, _⟩
        · exact q t1
        · exact wf q
    · have t1 : ar (64 * b + 26) ≠ 49 := fun q => k2 (k49.mpr q)
      refine ya_allZero (64 * b + 27) 12 e27 rfl (by omega) (fun z2 => br_f (by decide) ?_) (fun z2 => br_t rfl (noL (fun x hx => ?_) _ _))
      · exact ya_858 hct hmn hcm hmb hL hbb w z hr (Or.inr (Or.inr ⟨hNm, by omega, s, hSt, Or.inr ⟨hPa, Or.inr ⟨hnd, rfl, Or.inr ⟨Or.inl ⟨t1, z2, rfl⟩, rfl⟩⟩⟩⟩)) hSt rfl h12 hsc' hS hG
      · rcases hx with ⟨_, q, _⟩ | ⟨q, _⟩
        · exact z2 q
        · exact t1 q
theorem ya_628 (H : ta_Tr 8 c kd pr nm P) (hct : ct 1 = nI c) {post : Int32 → SY → Prop} {mn mb L b : Nat} (hmn : mn ≤ 8) (hcm : c < mn) (hmb : mb ≤ 12) (hL : L ≤ 64 * mb) (hbb : b < mb) (w : 64 * (b + 1) ≤ L) (z : ¬ ta_z ar (64 * b) 64) (hr : ta_HF ar (64 * b) 0) (hNm : ta_Nm ar (64 * b))
    (hsc : ∀ k, k < (ta_T ar (64 * b)).length → sc k = ta_g (ta_T ar (64 * b)) k)
    (hS : ta_YS post fa fb fe yc ct kd pr nm my tg sz dt ar P L mn c b) (hG : ta_YG post fa fb fe yc yo yb ct kd pr nm my tg sz dt ar P L mn c b) :
    ∀ n k s x12, k ≤ (ta_T ar (64 * b)).length → (ta_T ar (64 * b)).length < k + n → ta_St sc s k → ((s = 0 ∧ x12 = -1) ∨ (0 < s ∧ x12 = nI (s - 1))) → wY_step_628 post (nI b) (nI (64 * b)) (ta_ki (ar (64 * b + 26))) (nI (ta_ov ar (64 * b + 12) 3)) (nI (ta_ov ar (64 * b + 16) 3)) (nI (ta_T ar (64 * b)).length) fa fb (nI L) fe yc yo yb ct kd pr nm my tg sz dt ar sc st n x12 (nI k) := by
  have h23 := ta_T_len ar (64 * b)
  intro n
  induction n with
  | zero => intro k s x12 _ g; omega
  | succ n ih =>
    intro k s x12 g1 g2 g3 g4
    have hs1 := g3.1
    refine pk_le (ta_T ar (64 * b)).length k (fun g => ?_) (fun g => ⟨vp_in_nI (by omega) (by omega), ?_⟩)
    · have ek : k = (ta_T ar (64 * b)).length := by omega
      rw [ek] at g3
      have hSt := ta_St_cg hsc g3
      rcases g4 with ⟨s0, rfl⟩ | ⟨s0, rfl⟩
      · exact br_t (by decide) (ya_688 H hct hmn hcm hmb hL hbb w z hr hNm hSt (Or.inl ⟨s0, rfl⟩) (by rw [s0]; decide) hsc hS hG)
      · have e12 : nI (s - 1) + 1 = nI s := by rw [nI_1, show s - 1 + 1 = s by omega]
        have eT : ta_sg sc 0 (s - 1) = (ta_T ar (64 * b)).take (s - 1) := by
          have h1 : ta_sg sc 0 (s - 1) = ta_sg (ta_g (ta_T ar (64 * b))) 0 (s - 1) := ta_sg_congr (fun q hq => by rw [Nat.zero_add]; exact hsc q (by omega))
          rw [h1, ← ta_take_sg _ 0 (show s - 1 ≤ (ta_T ar (64 * b)).length by omega), ta_g_sg]
        refine br_f (nI_pos (by omega)) (ya_findPath H (by omega) hct 1 0 (s - 1) (by omega) (by omega) (by omega) (fun j hj hfl hP sc' st' ag => ?_) (fun no sc' st' ag => ?_))
        · rw [eT] at hP
          refine br_t (nI_pos' (by omega)) (ya_688 H hct hmn hcm hmb hL hbb w z hr hNm hSt (Or.inr ⟨s0, j, hj, hP, hfl.1 rfl, rfl⟩) e12 (fun q hq => by rw [ag q (by omega)]; exact hsc q hq) hS hG)
        · rw [eT] at no
          refine br_f (by decide) (hS (-6) (nI b) (-6) (Or.inr (Or.inr (Or.inr (Or.inl ⟨w, z, hr, ⟨0, 0, 0, Or.inr (Or.inr ⟨hNm, by omega, s, hSt, Or.inl ⟨fun x hx => ?_, rfl⟩⟩)⟩, by decide, rfl⟩)))) (Or.inl ⟨by decide, rfl⟩) _ _)
          rcases hx with ⟨q, _⟩ | ⟨_, j, hj, hP, k3, _⟩
          · omega
          · exact no j hj ⟨fun _ => k3, fun q => absurd q (by decide)⟩ hP
    · rw [nI_clamp (by omega)]
      refine br_c (fun y => nm_r (nI_1 k) (ih (k + 1) (k + 1) (nI k) (by omega) (by omega) ⟨Nat.le_refl _, Or.inr (by rw [Nat.add_sub_cancel]; exact y), fun j a d => by omega⟩ (Or.inr ⟨by omega, by rw [Nat.add_sub_cancel]⟩))) (fun y => nm_r (nI_1 k) (ih (k + 1) s x12 (by omega) (by omega) ⟨by omega, g3.2.1, fun j a d => ?_⟩ g4))
      rcases Nat.lt_or_ge j k with q | q
      · exact g3.2.2 j a q
      · rw [show j = k by omega]; exact y
end
