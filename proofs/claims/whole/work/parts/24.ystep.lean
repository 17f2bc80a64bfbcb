/-! 24: the reference's step -/
def ta_YS (post : Int32 → SY → Prop) (fa fb fe yc : Int32) (ct kd pr nm my tg sz dt ar : Nat → Int32) (P : Nat → List Int32) (L mn c b : Nat) : Prop :=
  ∀ r e code, ta_Stop ar L mn c kd tg P b r e → ((code ≠ 0 ∧ code = r) ∨ (code = 0 ∧ r = nI c ∧ e = -1)) → ∀ sc' st', post (-1) (fa, fb, nI L, fe, yc, code, e, ct, kd, pr, nm, my, tg, sz, dt, ar, sc', st')
def ta_YG (post : Int32 → SY → Prop) (fa fb fe yc yo yb : Int32) (ct kd pr nm my tg sz dt ar : Nat → Int32) (P : Nat → List Int32) (L mn c b : Nat) : Prop :=
  ∀ nd nv t, ta_Go ar L mn c kd tg P b nd nv t → c < mn → ∀ sc' st', post (nI (if ta_ov ar (64 * b + 16) 3 = 0 then b + 1 else b + 2)) (fa, fb, nI L, fe, yc, yo, yb, upd ct 1 (nI (c + 1)), upd kd (8 + c) (ta_ki (ar (64 * b + 26))), upd pr (8 + c) nd, upd nm (8 + c) nv, upd my (8 + c) (if ta_ki (ar (64 * b + 26)) = 2 then 0 else nI (ta_ov ar (64 * b + 12) 3)), upd tg (8 + c) t, upd sz (8 + c) (nI (ta_ov ar (64 * b + 16) 3)), ta_wr dt (32 * (8 + c)) (ta_sg ar (64 * b + 64) (ta_ov ar (64 * b + 16) 3)), ar, sc', st')
section
variable {fa fb fl fe yc yo yb : Int32} {ct kd pr nm my tg sz dt ar sc st : Nat → Int32} {P : Nat → List Int32} {c : Nat}
theorem ya_1070 {post : Int32 → SY → Prop} {b o s q : Nat} {kk x15 x16 : Int32} (hk : 0 < s → kk = 1) (hs : s ≤ 32) (ho : s = 0 ∨ o + 128 ≤ 768) (hq : q < 16) (h : wY_step_1114 post (nI b) x15 x16 fa fb fl fe yc yo yb ct kd pr nm my tg sz (ta_wr dt (32 * q) (ta_sg ar (o + 64) s)) ar sc st) :
    ∀ n k, k ≤ s → s < k + n → wY_step_1070 post (nI b) (nI o) kk (nI s) x15 x16 (nI q) fa fb fl fe yc yo yb n (nI k) ct kd pr nm my tg sz (ta_wr dt (32 * q) (ta_sg ar (o + 64) k)) ar sc st := by
  intro n
  induction n with
  | zero => intro k _ g; omega
  | succ n ih =>
    intro k g1 g2
    have ei : nI o + 64 + nI k = nI (o + 64 + k) := by rw [show (64 : Int32) = nI 64 from rfl, nI_add, nI_add]
    have eq : nI q * 32 + nI k = nI (32 * q + k) := by rw [show (32 : Int32) = nI 32 from rfl, pk_mul, nI_add, Nat.mul_comm]
    refine pk_le s k (fun g => ?_) (fun g => br_t (hk (by omega)) ⟨by rw [ei]; exact vp_in_nI (by omega) (by omega), by rw [eq]; exact vp_in_nI (by omega) (by omega), nm_r (e' := ta_wr dt (32 * q) (ta_sg ar (o + 64) (k + 1))) ?_ (nm_r (nI_1 k) (ih (k + 1) (by omega) (by omega)))⟩)
    · rw [show k = s by omega]; exact h
    · rw [ei, eq, nI_clamp (by omega), nI_clamp (by omega), ta_sg_S, ← ta_wr_snoc, ta_sg_len]
theorem ya_957 {post : Int32 → SY → Prop} {x1 x2 x6 x7 x8 x12 x13 x14 x15 x16 x17 : Int32} {ls m : Nat} (h12 : x12 + 1 = nI ls) (hl : ls + m ≤ 30) {nv : Int32} (hnv : nv = ta_pk sc ls m)
    (h : vp_in x17 16 ∧ ∀ a_kind_456, a_kind_456 = upd kd x17.toNatClampNeg x6 → (vp_in x17 16 ∧ ∀ a_par_458, a_par_458 = upd pr x17.toNatClampNeg x13 → (vp_in x17 16 ∧ ∀ a_nm_460, a_nm_460 = upd nm x17.toNatClampNeg nv → (((x6 = 2 → (wY_step_1038 post x1 x2 x6 x8 x14 x15 x16 x17 0 x17 fa fb fl fe yc yo yb ct a_kind_456 a_par_458 a_nm_460 my tg sz dt ar sc st)) ∧ (¬ x6 = 2 → (wY_step_1038 post x1 x2 x6 x8 x14 x15 x16 x17 x7 x17 fa fb fl fe yc yo yb ct a_kind_456 a_par_458 a_nm_460 my tg sz dt ar sc st))))))) :
    ∀ n k, k ≤ m → m < k + n → wY_step_957 post x1 x2 x6 x7 x8 (nI (ls + m)) x12 x13 x14 x15 x16 x17 fa fb fl fe yc yo yb ct kd pr nm my tg sz dt ar sc st n (ta_pk sc ls k) (nI (ls + k)) := by
  intro n
  induction n with
  | zero => intro k _ g; omega
  | succ n ih =>
    intro k g1 g2
    refine pk_le (ls + m) (ls + k) (fun g => ?_) (fun g => ⟨vp_in_nI (by omega) (by omega), nm_r (e' := ta_pk sc ls (k + 1)) ?_ (nm_r (nI_1 (ls + k)) (ih (k + 1) (by omega) (by omega)))⟩)
    · rw [show k = m by omega, ← hnv]; exact h
    · have e : nI (ls + k) - x12 - 1 = nI k := by
        have : nI (ls + k) - x12 - 1 = nI (ls + k) - (x12 + 1) := by grind
        rw [this, h12, pk_sub (by omega), show ls + k - ls = k by omega]
      rw [e, nI_clamp (by omega)]; rfl
/-- from the target on: the data block, the node -/
theorem ya_858 (hct : ct 1 = nI c) {post : Int32 → SY → Prop} {mn mb L b : Nat} (hmn : mn ≤ 8) (hcm : c < mn) (hmb : mb ≤ 12) (hL : L ≤ 64 * mb) (hbb : b < mb) {s : Nat} {x12 nd nv t : Int32} (w : 64 * (b + 1) ≤ L) (z : ¬ ta_z ar (64 * b) 64) (hr : ta_HF ar (64 * b) 0) (hE : ta_EF ar (64 * b) mn c kd tg P 0 nd nv t)
    (hSt : ta_St (ta_g (ta_T ar (64 * b))) s (ta_T ar (64 * b)).length) (hnv : nv = ta_pk (ta_g (ta_T ar (64 * b))) s ((ta_T ar (64 * b)).length - s)) (h12 : x12 + 1 = nI s) (hsc : ∀ k, k < (ta_T ar (64 * b)).length → sc k = ta_g (ta_T ar (64 * b)) k)
    (hS : ta_YS post fa fb fe yc ct kd pr nm my tg sz dt ar P L mn c b) (hG : ta_YG post fa fb fe yc yo yb ct kd pr nm my tg sz dt ar P L mn c b) :
    wY_step_858 post (nI b) (nI (64 * b)) (ta_ki (ar (64 * b + 26))) (nI (ta_ov ar (64 * b + 12) 3)) (nI (ta_ov ar (64 * b + 16) 3)) (nI (ta_T ar (64 * b)).length) x12 nd t fa fb (nI L) fe yc yo yb ct kd pr nm my tg sz dt ar sc st := by
  obtain ⟨_, _, hTy, hFl, hSz, h32⟩ := ta_HF0 hr
  have h23 := ta_T_len ar (64 * b)
  have hs1 := hSt.1
  have hkk : 0 < ta_ov ar (64 * b + 16) 3 → ta_ki (ar (64 * b + 26)) = 1 := by
    intro y
    have : ar (64 * b + 26) = 48 := by
      by_cases q : ar (64 * b + 26) = 48
      · exact q
      · have := hSz q; omega
    rw [this]; decide
  have F : ∀ x15 : Int32, (x15 = 0 ↔ ta_ov ar (64 * b + 16) 3 = 0) → (ta_ov ar (64 * b + 16) 3 = 0 ∨ (64 * (b + 2) ≤ L ∧ ta_z ar (64 * (b + 1) + ta_ov ar (64 * b + 16) 3) (64 - ta_ov ar (64 * b + 16) 3))) →
      wY_step_933 post (nI b) (nI (64 * b)) (ta_ki (ar (64 * b + 26))) (nI (ta_ov ar (64 * b + 12) 3)) (nI (ta_ov ar (64 * b + 16) 3)) (nI (ta_T ar (64 * b)).length) x12 nd t x15 fa fb (nI L) fe yc yo yb ct kd pr nm my tg sz dt ar sc st := by
    intro x15 hx15 hgo
    refine nm_r hct (nm_r (nI_add 8 c) (nm_r h12 ⟨(ta_T ar (64 * b)).length - s + 1, ?_⟩))
    have i16 : vp_in (nI (8 + c)) 16 := vp_in_nI (by omega) (by omega)
    have en : (nI (8 + c)).toNatClampNeg = 8 + c := nI_clamp (by omega)
    have epk : nv = ta_pk sc s ((ta_T ar (64 * b)).length - s) := by
      rw [hnv]
      exact ta_pk_cg _ (fun k hk => (hsc _ (by omega)).symm)
    have hh := hG nd nv t ⟨w, z, hr, hE, hgo⟩ hcm sc st
    have M : ∀ x7' : Int32, x7' = (if ta_ki (ar (64 * b + 26)) = 2 then 0 else nI (ta_ov ar (64 * b + 12) 3)) → wY_step_1038 post (nI b) (nI (64 * b)) (ta_ki (ar (64 * b + 26))) (nI (ta_ov ar (64 * b + 16) 3)) t x15 (nI c) (nI (8 + c)) x7' (nI (8 + c)) fa fb (nI L) fe yc yo yb ct (upd kd (8 + c) (ta_ki (ar (64 * b + 26)))) (upd pr (8 + c) nd) (upd nm (8 + c) nv) my tg sz dt ar sc st := by
      intro x7' e7
      refine ⟨i16, nm_r (e' := upd my (8 + c) (if ta_ki (ar (64 * b + 26)) = 2 then 0 else nI (ta_ov ar (64 * b + 12) 3))) (by rw [en, e7]) ⟨i16, nm_r (e' := upd tg (8 + c) t) (by rw [en]) ?_⟩⟩
      have D : ∃ n, wY_step_1070 post (nI b) (nI (64 * b)) (ta_ki (ar (64 * b + 26))) (nI (ta_ov ar (64 * b + 16) 3)) x15 (nI c) (nI (8 + c)) fa fb (nI L) fe yc yo yb n 0 ct (upd kd (8 + c) (ta_ki (ar (64 * b + 26)))) (upd pr (8 + c) nd) (upd nm (8 + c) nv) (upd my (8 + c) (if ta_ki (ar (64 * b + 26)) = 2 then 0 else nI (ta_ov ar (64 * b + 12) 3))) (upd tg (8 + c) t) (upd sz (8 + c) (nI (ta_ov ar (64 * b + 16) 3))) dt ar sc st := by
        have := ya_1070 (fa := fa) (fb := fb) (fl := nI L) (fe := fe) (yc := yc) (yo := yo) (yb := yb) (post := post) (b := b) (o := 64 * b) (s := ta_ov ar (64 * b + 16) 3) (q := 8 + c) (kk := ta_ki (ar (64 * b + 26))) (x15 := x15) (x16 := nI c) (ct := ct) (kd := upd kd (8 + c) (ta_ki (ar (64 * b + 26)))) (pr := upd pr (8 + c) nd) (nm := upd nm (8 + c) nv) (my := upd my (8 + c) (if ta_ki (ar (64 * b + 26)) = 2 then 0 else nI (ta_ov ar (64 * b + 12) 3))) (tg := upd tg (8 + c) t) (sz := upd sz (8 + c) (nI (ta_ov ar (64 * b + 16) 3))) (dt := dt) (ar := ar) (sc := sc) (st := st) hkk h32 (by rcases hgo with q | q; exact Or.inl q; exact Or.inr (by omega)) (by omega) (by
            refine nm_r (e' := upd ct 1 (nI (c + 1))) (by rw [nI_1]) (br_c (fun q => ?_) (fun q => ?_))
            · rw [if_pos (hx15.mp q)] at hh
              rw [nI_1]; exact hh
            · rw [if_neg (fun y => q (hx15.mpr y))] at hh
              rw [show nI b + 2 = nI (b + 2) from nI_add b 2]; exact hh) (ta_ov ar (64 * b + 16) 3 + 1) 0 (Nat.zero_le _) (by omega)
        rw [ta_sg_0, ta_wr_nil] at this
        exact ⟨_, this⟩
      refine br_c (fun k1 => ⟨i16, nm_r (e' := upd sz (8 + c) (nI (ta_ov ar (64 * b + 16) 3))) (by rw [en]) D⟩) (fun k1 => ⟨i16, nm_r (e' := upd sz (8 + c) (nI (ta_ov ar (64 * b + 16) 3))) ?_ D⟩)
      have : ta_ov ar (64 * b + 16) 3 = 0 := by
        rcases Nat.eq_zero_or_pos (ta_ov ar (64 * b + 16) 3) with y | y
        · exact y
        · exact absurd (hkk y) k1
      rw [en, this]; rfl
    have := ya_957 (fa := fa) (fb := fb) (fl := nI L) (fe := fe) (yc := yc) (yo := yo) (yb := yb) (post := post) (ct := ct) (kd := kd) (pr := pr) (nm := nm) (my := my) (tg := tg) (sz := sz) (dt := dt) (ar := ar) (sc := sc) (st := st) (x1 := nI b) (x2 := nI (64 * b)) (x6 := ta_ki (ar (64 * b + 26))) (x7 := nI (ta_ov ar (64 * b + 12) 3)) (x8 := nI (ta_ov ar (64 * b + 16) 3)) (x13 := nd) (x14 := t) (x15 := x15) (x16 := nI c) (x17 := nI (8 + c)) (ls := s) (m := (ta_T ar (64 * b)).length - s) h12 (by omega) epk
      ⟨i16, nm_r (e' := upd kd (8 + c) (ta_ki (ar (64 * b + 26)))) (by rw [en]) ⟨i16, nm_r (e' := upd pr (8 + c) nd) (by rw [en]) ⟨i16, nm_r (e' := upd nm (8 + c) nv) (by rw [en]) (br_c (fun k2 => M 0 (by rw [if_pos k2])) (fun k2 => M _ (by rw [if_neg k2])))⟩⟩⟩ ((ta_T ar (64 * b)).length - s + 1) 0 (Nat.zero_le _) (by omega)
    rw [show s + ((ta_T ar (64 * b)).length - s) = (ta_T ar (64 * b)).length by omega] at this
    exact this
  have Z : ta_ov ar (64 * b + 16) 3 = 0 → wY_step_873 post (nI b) (nI (64 * b)) (ta_ki (ar (64 * b + 26))) (nI (ta_ov ar (64 * b + 12) 3)) (nI (ta_ov ar (64 * b + 16) 3)) (nI (ta_T ar (64 * b)).length) x12 nd t fa fb (nI L) fe yc yo yb ct kd pr nm my tg sz dt ar sc st :=
    fun y => br_t rfl (F 0 ⟨fun _ => y, fun _ => rfl⟩ (Or.inl y))
  refine br_c (fun k1 => pk_le (ta_ov ar (64 * b + 16) 3) 0 (fun y => Z (by omega)) (fun y => ?_)) (fun k1 => Z ?_)
  · have SD : ∀ r e, (L < 64 * (b + 2) ∧ r = -13 ∧ e = nI (b + 1)) ∨ (64 * (b + 2) ≤ L ∧ ¬ ta_z ar (64 * (b + 1) + ta_ov ar (64 * b + 16) 3) (64 - ta_ov ar (64 * b + 16) 3) ∧ r = -21 ∧ e = nI (b + 1)) → ta_Stop ar L mn c kd tg P b r e := fun r e q => Or.inr (Or.inr (Or.inr (Or.inr ⟨w, z, hr, ⟨nd, nv, t, hE⟩, y, q⟩)))
    have e2 : (64 : Int32) * (nI b + 2) = nI (64 * (b + 2)) := by rw [show nI b + 2 = nI (b + 2) from nI_add b 2, show (64 : Int32) = nI 64 from rfl, pk_mul]
    refine br_f (by decide) (pk_le (64 * (b + 2)) L (fun w2 => ?_) (fun w2 => ?_) (hx := e2))
    · refine ya_allZero (64 * (b + 1) + ta_ov ar (64 * b + 16) 3) (64 - ta_ov ar (64 * b + 16) 3) (by rw [show nI (64 * b) + 64 = nI (64 * b + 64) from nI_add _ 64, nI_add]; exact congrArg nI (by omega)) (by rw [show (64 : Int32) = nI 64 from rfl, pk_sub (by omega)]) (by omega) (fun z2 => br_f (by decide) ?_) (fun z2 => br_t rfl ?_)
      · exact F 1 ⟨fun q => absurd q (by decide), fun q => by omega⟩ (Or.inr ⟨w2, z2⟩)
      · have := hS (-21) (nI (b + 1)) (-21) (SD _ _ (Or.inr ⟨w2, z2, rfl, rfl⟩)) (Or.inl ⟨by decide, rfl⟩) sc st
        rw [← nI_1] at this
        exact this
    · have := hS (-13) (nI (b + 1)) (-13) (SD _ _ (Or.inl ⟨w2, rfl, rfl⟩)) (Or.inl ⟨by decide, rfl⟩) sc st
      rw [← nI_1] at this
      exact this
  · rcases Nat.eq_zero_or_pos (ta_ov ar (64 * b + 16) 3) with y | y
    · exact y
    · exact absurd (hkk y) k1
end
