/-! 13: the component's create, whole -/
section
variable {fa fb fl fe fp fn ft : Int32} {ct kd pr nm md sz tg dt ar pa : Nat → Int32} {P : Nat → List Int32} {c : Nat}
theorem ta_wr_take {a : Nat → Int32} {L : List Int32} {k : Nat} (h : k ≤ L.length) : ta_sg (ta_wr a 0 L) 0 k = L.take k := by
  rw [← ta_take_sg (ta_wr a 0 L) 0 h, ta_wr_sg]
theorem ta_wr_drop {a : Nat → Int32} {L : List Int32} {k : Nat} (h : k ≤ L.length) : ta_sg (ta_wr a 0 L) k (L.length - k) = L.drop k := by
  have := ta_drop_sg (ta_wr a 0 L) 0 h
  rw [ta_wr_sg, Nat.zero_add] at this
  exact this.symm
theorem xa_writePath0 {post : St2 → Prop} {m o : Nat} {p2 : Int32} (e : p2 = nI o) (hf : m ≤ 30) (ho : o + m ≤ 768) (h : post (fa, fb, fl, fe, fp, fn, ft, ct, kd, pr, nm, md, sz, tg, dt, ta_wr ar o (ta_sg pa 0 m), pa)) :
    wpX_writePath post (fa, fb, fl, fe, fp, fn, ft, ct, kd, pr, nm, md, sz, tg, dt, ar, pa) 0 (nI m) p2 := by
  have hw := xa_writePath (f := 0) (m := m) e (by omega) ho h
  rw [Nat.zero_add] at hw
  exact hw
theorem xa_writeHeader (T : ta_Tr 0 c kd pr nm P) (hc : c ≤ 8) (X : ∀ i, i < c → ta_Nx 0 kd sz tg i) {post : St2 → Prop} {i o : Nat} (hi : i < c) (hft : ta_ft kd tg P i) (ho : o + 64 ≤ 768)
    (h : ∀ pa', post (fa, fb, fl, fe, fp, fn, ft, ct, kd, pr, nm, md, sz, tg, dt, ta_h ar o (P i) (ta_lk kd tg P i) (md i) (sz i) (ta_ty (kd i)), pa')) :
    wpX_writeHeader post (fa, fb, fl, fe, fp, fn, ft, ct, kd, pr, nm, md, sz, tg, dt, ar, pa) (nI i) (nI o) := by
  have h29 := ta_P_29 T hi
  have K : ∀ pa', wpX_writePath (fun u => match u with
      | (fa, fb, fl, fe, fp, fn, ft, ct, kd, pr, nm, md, sz, tg, dt, ar, pa) => (vp_in (nI i) 16 ∧ ((((kd (nI i).toNatClampNeg) = 2 → (vp_in (nI i) 16 ∧ (wpX_loadSourcePath (fun r_159 u => match u with
        | (fa, fb, fl, fe, fp, fn, ft, ct, kd, pr, nm, md, sz, tg, dt, ar, pa) => (wpX_writePath (fun u => match u with
          | (fa, fb, fl, fe, fp, fn, ft, ct, kd, pr, nm, md, sz, tg, dt, ar, pa) => (wX_writeHeader_69 post (nI i) (nI o) fa fb fl fe fp fn ft ct kd pr nm md sz tg dt ar pa)) (fa, fb, fl, fe, fp, fn, ft, ct, kd, pr, nm, md, sz, tg, dt, ar, pa) 0 r_159 (nI o + 27))) (fa, fb, fl, fe, fp, fn, ft, ct, kd, pr, nm, md, sz, tg, dt, ar, pa) (tg (nI i).toNatClampNeg)))) ∧ (¬ (kd (nI i).toNatClampNeg) = 2 → (wX_writeHeader_69 post (nI i) (nI o) fa fb fl fe fp fn ft ct kd pr nm md sz tg dt ar pa)))))) (fa, fb, fl, fe, fp, fn, ft, ct, kd, pr, nm, md, sz, tg, dt, ta_wr ar (o + 47) ((P i).take (ta_nb (P i) - 1)), ta_wr pa' 0 (P i)) (nI (ta_nb (P i))) (nI (ta_nb (P i) + ((P i).length - ta_nb (P i)))) (nI o + 0) := by
    intro pa'
    have hnb : ta_nb (P i) ≤ (P i).length ∧ (P i).length - ta_nb (P i) ≤ 12 := by
      rcases ta_nb_spec hft.1 with ⟨a, _, b⟩ | ⟨s, _, _, a, b, _, _, d⟩
      · rw [b]; omega
      · rw [d]; omega
    refine xa_writePath (nI_add o 0) (by omega) (by omega) ?_
    rw [ta_wr_drop hnb.1]
    refine ⟨vp_in_nI (by omega) (by omega), ?_⟩
    rw [nI_clamp (by omega)]
    refine br_c (fun k2 => ⟨vp_in_nI (by omega) (by omega), ?_⟩) (fun k2 => xa_h69 (by omega) ho ?_)
    · obtain ⟨_, hx, _⟩ := X i hi
      simp only [Nat.zero_add] at hx
      obtain ⟨q, hq, e, _⟩ := hx k2
      have en : ta_n (tg i) = q := by unfold ta_n; rw [e, nI_clamp (by omega)]
      have hl := hft.2 k2
      rw [en] at hl
      rw [e]
      refine xa_loadSourcePath T hc (by omega) ?_
      refine xa_writePath0 (nI_add o 27) (by omega) (by omega) (xa_h69 (by omega) ho ?_)
      rw [ta_wr_sg]
      have hlk : ta_lk kd tg P i = P q := by unfold ta_lk; rw [if_pos k2, en]
      have := h (ta_wr (ta_wr pa' 0 (P i)) 0 (P q))
      rw [hlk] at this
      exact this
    · have hlk : ta_lk kd tg P i = [] := by unfold ta_lk; rw [if_neg k2]
      have := h (ta_wr pa' 0 (P i))
      rw [hlk] at this
      unfold ta_h ta_h0 at this
      rw [ta_wr_nil] at this
      exact this
  unfold wpX_writeHeader
  refine xa_loadSourcePath T hc hi ?_
  refine xa_splitPlace h29 (fun k hk => ta_g_wr hk) ?_
  have K := K pa
  rcases ta_nb_spec hft.1 with ⟨a, b, d⟩ | ⟨s, a1, a2, a3, a4, a5, b, d⟩
  · rw [b]
    refine xa_writePathE ?_
    rw [d] at K
    rw [Nat.sub_zero, Nat.zero_add, Nat.zero_sub, List.take_zero, ta_wr_nil] at K
    exact K
  · rw [b]
    refine xa_writePath0 (nI_add o 47) (by omega) (by omega) ?_
    rw [ta_wr_take (by omega)]
    rw [d, show s + 1 + ((P i).length - (s + 1)) = (P i).length by omega, show s + 1 - 1 = s by omega] at K
    rw [nI_1]
    exact K
theorem xa_wd {post : St2 → Prop} {i o s : Nat} (hi : i < 8) (hs : sz i = nI s) (hs2 : s ≤ 32) (ho : o + 32 ≤ 768) (h : post (fa, fb, fl, fe, fp, fn, ft, ct, kd, pr, nm, md, sz, tg, dt, ta_wr ar o (ta_sg dt (32 * i) s), pa)) :
    ∀ n k, k ≤ s → s < k + n → wX_writeData_2 post (nI i) (nI o) fa fb fl fe fp fn ft n (nI k) ct kd pr nm md sz tg dt (ta_wr ar o (ta_sg dt (32 * i) k)) pa := by
  intro n
  induction n with
  | zero => intro k _ g; omega
  | succ n ih =>
    intro k g1 g2
    have e : sz (nI i).toNatClampNeg = nI s := by rw [nI_clamp (by omega)]; exact hs
    have ei : nI i * 32 + nI k = nI (32 * i + k) := by rw [show (32 : Int32) = nI 32 from rfl, pk_mul, nI_add, Nat.mul_comm]
    have eo : nI o + nI k = nI (o + k) := nI_add _ _
    refine ⟨vp_in_nI (by omega) (by omega), pk_le s k (fun g => ?_) (fun g => ⟨by rw [ei]; exact vp_in_nI (by omega) (by omega), by rw [eo]; exact vp_in_nI (by omega) (by omega), nm_r (e' := ta_wr ar o (ta_sg dt (32 * i) (k + 1))) ?_ (nm_r (nI_1 k) (ih (k + 1) (by omega) (by omega)))⟩) (hx := e)⟩
    · rw [show k = s by omega]; exact h
    · rw [ei, eo, nI_clamp (by omega), nI_clamp (by omega), ta_sg_S, ← ta_wr_snoc, ta_sg_len]
theorem xa_writeData {post : St2 → Prop} {i o s : Nat} (hi : i < 8) (hs : sz i = nI s) (hs2 : s ≤ 32) (ho : o + 32 ≤ 768) (h : post (fa, fb, fl, fe, fp, fn, ft, ct, kd, pr, nm, md, sz, tg, dt, ta_wr ar o (ta_sg dt (32 * i) s), pa)) :
    wpX_writeData post (fa, fb, fl, fe, fp, fn, ft, ct, kd, pr, nm, md, sz, tg, dt, ar, pa) (nI i) (nI o) := by
  have := xa_wd (fa := fa) (fb := fb) (fl := fl) (fe := fe) (fp := fp) (fn := fn) (ft := ft) (ct := ct) (kd := kd) (pr := pr) (nm := nm) (md := md) (tg := tg) hi hs hs2 ho h (s + 1) 0 (Nat.zero_le _) (by omega)
  rw [ta_sg_0, ta_wr_nil] at this
  exact ⟨s + 1, this⟩
theorem xa_c64 (T : ta_Tr 0 c kd pr nm P) (hc : c ≤ 8) (X : ∀ i, i < c → ta_Nx 0 kd sz tg i) (hft : ∀ i, i < c → ta_ft kd tg P i) {post : Int32 → St2 → Prop} {z : Nat → Int32} {B : Int32} (hB : c + ta_fc sz c ≤ 10)
    (h : ∀ pa', post B (fa, fb, fl, fe, fp, fn, ft, ct, kd, pr, nm, md, sz, tg, dt, ta_cr kd md sz tg dt P z c, pa')) :
    ∀ n k pa, k ≤ c → c < k + n → wX_create_64 post (nI c) B n (nI (ta_of sz k)) (nI k) fa fb fl fe fp fn ft ct kd pr nm md sz tg dt (ta_cr kd md sz tg dt P z k) pa := by
  intro n
  induction n with
  | zero => intro k _ _ g; omega
  | succ n ih =>
    intro k pa g1 g2
    refine pk_le c k (fun g => ?_) (fun g => ?_)
    · rw [show k = c by omega]; exact h pa
    · have hm := ta_fc_mono sz (show k + 1 ≤ c by omega)
      have hm0 := ta_fc_mono sz (show k ≤ c by omega)
      have eo : ta_of sz k = 64 * (k + ta_fc sz k) := rfl
      obtain ⟨_, _, ⟨s, s1, s2⟩, _⟩ := X k g
      rw [Nat.zero_add] at s2
      have en : ta_n (sz k) = s := by unfold ta_n; rw [s2, nI_clamp (by omega)]
      refine xa_writeHeader T hc X g (hft k g) (by omega) (fun pa' => ?_)
      refine nm_r (nI_add (ta_of sz k) 64) ⟨vp_in_nI (by omega) (by omega), ?_⟩
      rw [nI_clamp (by omega)]
      refine pk_le s 0 (fun w => nm_r (nI_1 k) ?_) (fun w => ?_) (hx := s2)
      · have e1 : ta_of sz (k + 1) = ta_of sz k + 64 := by
          have : ta_of sz (k + 1) = 64 * (k + 1 + ta_fc sz (k + 1)) := rfl
          rw [this, ta_fc_z (by omega)]; omega
        have e2 : ta_cr kd md sz tg dt P z (k + 1) = ta_h (ta_cr kd md sz tg dt P z k) (ta_of sz k) (P k) (ta_lk kd tg P k) (md k) (sz k) (ta_ty (kd k)) := if_neg (by omega)
        have := ih (k + 1) pa' (by omega) (by omega)
        rw [e1, e2] at this
        exact this
      · have hp := ta_fc_p (sz := sz) (k := k) (by omega)
        have e1 : ta_of sz (k + 1) = ta_of sz k + 64 + 64 := by
          have : ta_of sz (k + 1) = 64 * (k + 1 + ta_fc sz (k + 1)) := rfl
          rw [this, hp]; omega
        have e2 : ta_cr kd md sz tg dt P z (k + 1) = ta_wr (ta_h (ta_cr kd md sz tg dt P z k) (ta_of sz k) (P k) (ta_lk kd tg P k) (md k) (sz k) (ta_ty (kd k))) (ta_of sz k + 64) (ta_sg dt (32 * k) (ta_n (sz k))) := if_pos (by omega)
        have := ih (k + 1) pa' (by omega) (by omega)
        rw [e1, e2, en] at this
        exact xa_writeData (by omega) s2 s1 (by omega) (nm_r (nI_add (ta_of sz k + 64) 64) (nm_r (nI_1 k) this))
theorem xa_c9 (T : ta_Tr 0 c kd pr nm P) (hc : c ≤ 8) (X : ∀ i, i < c → ta_Nx 0 kd sz tg i) (hct : ct 0 = nI c) {mb : Nat} (hmb : mb ≤ 12) {post : Int32 → St2 → Prop}
    (h1 : (∀ i, i < c → ta_ft kd tg P i) → c + 2 + ta_fc sz c ≤ mb → ∀ pa', post (nI (c + 2 + ta_fc sz c)) (fa, nI mb, nI (64 * (c + 2 + ta_fc sz c)), fe, fp, fn, ft, ct, kd, pr, nm, md, sz, tg, dt, ta_cr kd md sz tg dt P (ta_cz ar 768) c, pa'))
    (h2 : (∀ i, i < c → ta_ft kd tg P i) → mb < c + 2 + ta_fc sz c → ∀ pa', post (-12) (fa, nI mb, fl, fe, fp, fn, ft, ct, kd, pr, nm, md, sz, tg, dt, ar, pa'))
    (h3 : (¬ ∀ i, i < c → ta_ft kd tg P i) → ∀ pa', post (-11) (fa, nI mb, fl, fe, fp, fn, ft, ct, kd, pr, nm, md, sz, tg, dt, ar, pa')) :
    ∀ n k pa, k ≤ c → c < k + n → (∀ i, i < k → ta_ft kd tg P i) → wX_create_9 post (nI c) n (nI k) fa (nI mb) fl fe fp fn ft ct kd pr nm md sz tg dt ar pa := by
  have hfl := ta_fc_le sz c
  intro n
  induction n with
  | zero => intro k _ _ g; omega
  | succ n ih =>
    intro k pa g1 g2 g3
    refine pk_le c k (fun g => ?_) (fun g => ?_)
    · have hft : ∀ i, i < c → ta_ft kd tg P i := fun i hi => g3 i (by omega)
      refine xa_blocksNeeded hc hct (fun i hi => by obtain ⟨_, _, ⟨s, s1, s2⟩, _⟩ := X i hi; rw [Nat.zero_add] at s2; exact ⟨s, s1, s2⟩) ?_
      refine pk_le (c + 2 + ta_fc sz c) mb (fun w => ?_) (fun w => h2 hft w pa)
      refine nm_r (e' := nI (64 * (c + 2 + ta_fc sz c))) (by rw [show (64 : Int32) = nI 64 from rfl, pk_mul, Nat.mul_comm]) (xa_clearArchive ⟨c + 1, ?_⟩)
      exact xa_c64 T hc X hft (by omega) (h1 hft w) (c + 1) 0 pa (Nat.zero_le _) (by omega)
    · refine xa_pathsFit T hc X g (fun w => br_f (by decide) (nm_r (nI_1 k) (ih (k + 1) _ (by omega) (by omega) (fun i hi => ?_)))) (fun w => br_t rfl (h3 (fun y => w (y k g)) _))
      rcases Nat.lt_or_ge i k with y | y
      · exact g3 i y
      · rw [show i = k by omega]; exact w
theorem xa_create (T : ta_Tr 0 c kd pr nm P) (hc : c ≤ 8) (X : ∀ i, i < c → ta_Nx 0 kd sz tg i) (hct : ct 0 = nI c) {mb : Nat} (hmb : mb ≤ 12) {post : Int32 → St2 → Prop}
    (h1 : (∀ i, i < c → ta_ft kd tg P i) → c + 2 + ta_fc sz c ≤ mb → ∀ pa', post (nI (c + 2 + ta_fc sz c)) (fa, nI mb, nI (64 * (c + 2 + ta_fc sz c)), fe, fp, fn, ft, ct, kd, pr, nm, md, sz, tg, dt, ta_cr kd md sz tg dt P (ta_cz ar 768) c, pa'))
    (h2 : (∀ i, i < c → ta_ft kd tg P i) → mb < c + 2 + ta_fc sz c → ∀ pa', post (-12) (fa, nI mb, fl, fe, fp, fn, ft, ct, kd, pr, nm, md, sz, tg, dt, ar, pa'))
    (h3 : (¬ ∀ i, i < c → ta_ft kd tg P i) → ∀ pa', post (-11) (fa, nI mb, fl, fe, fp, fn, ft, ct, kd, pr, nm, md, sz, tg, dt, ar, pa')) :
    wpX_create post (fa, nI mb, fl, fe, fp, fn, ft, ct, kd, pr, nm, md, sz, tg, dt, ar, pa) :=
  nm_r hct ⟨c + 1, xa_c9 T hc X hct hmb h1 h2 h3 (c + 1) 0 pa (Nat.zero_le _) (by omega) (fun i hi => by omega)⟩
end
