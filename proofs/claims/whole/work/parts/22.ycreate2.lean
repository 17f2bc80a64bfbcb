/-! 22: the reference's create, whole -/
section
variable {fa fb fl fe yc yo yb : Int32} {ct kd pr nm md my tg sz dt ar sc st : Nat → Int32} {P : Nat → List Int32} {c : Nat}
theorem ya_c183 {post : Int32 → SY → Prop} {J : Int32 → Int32 → Int32 → Int32 → Int32 → Int32 → Int32 → Int32 → Int32 → (Nat → Int32) → (Nat → Int32) → (Nat → Int32) → (Nat → Int32) → (Nat → Int32) → (Nat → Int32) → (Nat → Int32) → (Nat → Int32) → (Nat → Int32) → (Nat → Int32) → (Nat → Int32) → Prop} {x1 x2 : Int32} {i b s : Nat} (hi : i < 8) (hb : b < 12) (hs : sz i = nI s) (hs2 : s ≤ 32)
    (h : J (nI (b + 1)) (nI (i + 1)) fa fb fl fe yc yo yb ct kd pr nm my tg sz dt (ta_wr ar (64 * b) (ta_sg dt (32 * i) s)) sc st) :
    ∀ n k, k ≤ s → s < k + n → wY_create_183 post J x1 x2 (nI b) (nI i) fa fb fl fe yc yo yb n (nI k) ct kd pr nm my tg sz dt (ta_wr ar (64 * b) (ta_sg dt (32 * i) k)) sc st := by
  intro n
  induction n with
  | zero => intro k _ g; omega
  | succ n ih =>
    intro k g1 g2
    have e : sz (nI i).toNatClampNeg = nI s := by rw [nI_clamp (by omega)]; exact hs
    have ei : nI i * 32 + nI k = nI (32 * i + k) := by rw [show (32 : Int32) = nI 32 from rfl, pk_mul, nI_add, Nat.mul_comm]
    have eo : nI b * 64 + nI k = nI (64 * b + k) := by rw [show (64 : Int32) = nI 64 from rfl, pk_mul, nI_add, Nat.mul_comm]
    refine ⟨vp_in_nI (by omega) (by omega), pk_le s k (fun g => nm_r (nI_1 b) (nm_r (nI_1 i) ?_)) (fun g => ⟨by rw [ei]; exact vp_in_nI (by omega) (by omega), by rw [eo]; exact vp_in_nI (by omega) (by omega), nm_r (e' := ta_wr ar (64 * b) (ta_sg dt (32 * i) (k + 1))) ?_ (nm_r (nI_1 k) (ih (k + 1) (by omega) (by omega)))⟩) (hx := e)⟩
    · rw [show k = s by omega]; exact h
    · rw [ei, eo, nI_clamp (by omega), nI_clamp (by omega), ta_sg_S, ← ta_wr_snoc, ta_sg_len]
theorem ya_c143 (T : ta_Tr 0 c kd pr nm P) (hc : c ≤ 8) (X : ∀ i, i < c → ta_Nx 0 kd sz tg i) (hft : ∀ i, i < c → ta_ft kd tg P i) (hm : ∀ i, i < c → (kd i = 2 → md i = 0) ∧ (kd i ≠ 2 → my i = md i)) {post : Int32 → SY → Prop} {z : Nat → Int32} {B : Nat} (hB : c + ta_fc sz c ≤ 10) (hz : ∀ j, j < 768 → z j = 0)
    (h : ∀ yc' sc' st', post (nI B) (fa, fb, nI (64 * B), fe, yc', yo, yb, ct, kd, pr, nm, my, tg, sz, dt, ta_cr kd md sz tg dt P z c, sc', st')) :
    ∀ n k yc sc st, k ≤ c → c < k + n → wY_create_143 post (nI c) (nI B) n (nI (k + ta_fc sz k)) (nI k) fa fb fl fe yc yo yb ct kd pr nm my tg sz dt (ta_cr kd md sz tg dt P z k) sc st := by
  intro n
  induction n with
  | zero => intro k _ _ _ _ g; omega
  | succ n ih =>
    intro k yc sc st g1 g2
    refine pk_le c k (fun g => nm_r (e' := nI (64 * B)) (by rw [show (64 : Int32) = nI 64 from rfl, pk_mul]) ?_) (fun g => ?_)
    · rw [show k = c by omega]; exact h _ _ _
    · have hm0 := ta_fc_mono sz (show k ≤ c by omega)
      have hm1 := ta_fc_mono sz (show k + 1 ≤ c by omega)
      have eo : ta_of sz k = 64 * (k + ta_fc sz k) := rfl
      obtain ⟨_, _, ⟨s, s1, s2⟩, s0⟩ := X k g
      rw [Nat.zero_add] at s2 s0
      have en : ta_n (sz k) = s := by unfold ta_n; rw [s2, nI_clamp (by omega)]
      have hz2 : ta_cr kd md sz tg dt P z k (64 * (k + ta_fc sz k) + 44) = 0 := by
        rw [ta_cr_out k (fun j hj => ⟨hft j (by omega), ?_⟩) _ (by omega), hz _ (by omega)]
        obtain ⟨_, _, ⟨s, s1, s2⟩, _⟩ := X j (by omega)
        rw [Nat.zero_add] at s2
        unfold ta_n
        rw [s2, nI_clamp (by omega)]; exact s1
      refine ya_writeHeader T hc X g (hft k g) (by omega) hz2 (hm k g).1 (hm k g).2 (fun yc' sc' st' => ?_)
      refine nm_r (nI_1 _) ⟨vp_in_nI (by omega) (by omega), ?_⟩
      rw [nI_clamp (by omega)]
      have E : s = 0 → wY_create_143 post (nI c) (nI B) n (nI (k + ta_fc sz k + 1)) (nI (k + 1)) fa fb fl fe yc' yo yb ct kd pr nm my tg sz dt (ta_h (ta_cr kd md sz tg dt P z k) (64 * (k + ta_fc sz k)) (P k) (ta_lk kd tg P k) (md k) (sz k) (ta_ty (kd k))) sc' st' := by
        intro w
        have e2 : ta_cr kd md sz tg dt P z (k + 1) = ta_h (ta_cr kd md sz tg dt P z k) (ta_of sz k) (P k) (ta_lk kd tg P k) (md k) (sz k) (ta_ty (kd k)) := if_neg (by omega)
        have := ih (k + 1) yc' sc' st' (by omega) (by omega)
        rw [e2, ta_fc_z (by omega), show k + 1 + ta_fc sz k = k + ta_fc sz k + 1 by omega] at this
        exact this
      refine br_c (fun k1 => ⟨vp_in_nI (by omega) (by omega), pk_le s 0 (fun w => nm_r (nI_1 k) (E (by omega))) (fun w => ?_) (hx := s2)⟩) (fun k1 => nm_r (nI_1 k) (E ?_))
      · have hp := ta_fc_p (sz := sz) (k := k) (by omega)
        have e2 : ta_cr kd md sz tg dt P z (k + 1) = ta_wr (ta_h (ta_cr kd md sz tg dt P z k) (ta_of sz k) (P k) (ta_lk kd tg P k) (md k) (sz k) (ta_ty (kd k))) (ta_of sz k + 64) (ta_sg dt (32 * k) (ta_n (sz k))) := if_pos (by omega)
        have J := ih (k + 1) yc' sc' st' (by omega) (by omega)
        rw [e2, en, hp, show k + 1 + (ta_fc sz k + 1) = k + ta_fc sz k + 1 + 1 by omega, eo, show 64 * (k + ta_fc sz k) + 64 = 64 * (k + ta_fc sz k + 1) by omega] at J
        have := ya_c183 (post := post) (x1 := nI c) (x2 := nI B) (by omega) (by omega) s2 s1 J (s + 1) 0 (Nat.zero_le _) (by omega)
        rw [ta_sg_0, ta_wr_nil] at this
        exact ⟨_, this⟩
      · have := s0 k1
        rw [s2] at this
        exact (nI_eq (b := 0) (by omega) (by omega)).mp this
theorem ya_c118 {post : Int32 → SY → Prop} {x1 x2 : Int32} (h : ∃ n, wY_create_143 post x1 x2 n 0 0 fa fb fl fe yc yo yb ct kd pr nm my tg sz dt (ta_cz ar 768) sc st) :
    ∀ n k, k ≤ 768 → 768 < k + n → wY_create_118 post x1 x2 fa fb fl fe yc yo yb n (nI k) ct kd pr nm my tg sz dt (ta_cz ar k) sc st := by
  intro n
  induction n with
  | zero => intro k _ g; omega
  | succ n ih =>
    intro k g1 g2
    refine pk_le 768 k (fun g => ?_) (fun g => ⟨vp_in_nI (by omega) (by omega), nm_r (e' := ta_cz ar (k + 1)) (by rw [nI_clamp (by omega), ta_cz_S]) (nm_r (nI_1 k) (ih (k + 1) (by omega) (by omega)))⟩)
    rw [show k = 768 by omega]; exact h
theorem ya_c72 (hc : c ≤ 8) (X : ∀ i, i < c → ta_Nx 0 kd sz tg i) {mb : Nat} (hmb : mb ≤ 12) {post : Int32 → SY → Prop}
    (h1 : c + 2 + ta_fc sz c ≤ mb → ∃ n, wY_create_118 post (nI c) (nI (c + 2 + ta_fc sz c)) fa (nI mb) fl fe yc yo yb n 0 ct kd pr nm my tg sz dt ar sc st)
    (h2 : mb < c + 2 + ta_fc sz c → post (-12) (fa, nI mb, fl, fe, yc, yo, yb, ct, kd, pr, nm, my, tg, sz, dt, ar, sc, st)) :
    ∀ n k, k ≤ c → c < k + n → wY_create_72 post (nI c) fa (nI mb) fl fe yc yo yb ct kd pr nm my tg sz dt ar sc st n (nI (c + 2 + ta_fc sz k)) (nI k) := by
  intro n
  induction n with
  | zero => intro k _ g; omega
  | succ n ih =>
    intro k g1 g2
    have hfl := ta_fc_le sz k
    refine pk_le c k (fun g => ?_) (fun g => ⟨vp_in_nI (by omega) (by omega), ?_⟩)
    · have e : k = c := by omega
      subst e
      exact pk_le (k + 2 + ta_fc sz k) mb (fun w => h1 w) (fun w => h2 w)
    · obtain ⟨_, _, ⟨s, s1, s2⟩, s0⟩ := X k g
      rw [Nat.zero_add] at s2 s0
      have en : ta_n (sz k) = s := by unfold ta_n; rw [s2, nI_clamp (by omega)]
      have nx := ih (k + 1) (by omega) (by omega)
      rw [nI_clamp (by omega)]
      refine br_c (fun k1 => ⟨vp_in_nI (by omega) (by omega), pk_le s 0 (fun w => nm_r (nI_1 k) ?_) (fun w => nm_r (nI_1 _) (nm_r (nI_1 k) ?_)) (hx := s2)⟩) (fun k1 => nm_r (nI_1 k) ?_)
      · rw [ta_fc_z (by omega)] at nx; exact nx
      · rw [ta_fc_p (by omega)] at nx; exact nx
      · have := s0 k1
        rw [s2] at this
        have := (nI_eq (b := 0) (by omega) (by omega)).mp this
        rw [ta_fc_z (by omega)] at nx; exact nx
theorem ya_c9 (T : ta_Tr 0 c kd pr nm P) (hc : c ≤ 8) (X : ∀ i, i < c → ta_Nx 0 kd sz tg i) (hm : ∀ i, i < c → (kd i = 2 → md i = 0) ∧ (kd i ≠ 2 → my i = md i)) {mb : Nat} (hmb : mb ≤ 12) {post : Int32 → SY → Prop}
    (h1 : (∀ i, i < c → ta_ft kd tg P i) → c + 2 + ta_fc sz c ≤ mb → ∀ yc' sc' st', post (nI (c + 2 + ta_fc sz c)) (fa, nI mb, nI (64 * (c + 2 + ta_fc sz c)), fe, yc', yo, yb, ct, kd, pr, nm, my, tg, sz, dt, ta_cr kd md sz tg dt P (ta_cz ar 768) c, sc', st'))
    (h2 : (∀ i, i < c → ta_ft kd tg P i) → mb < c + 2 + ta_fc sz c → ∀ yc' sc' st', post (-12) (fa, nI mb, fl, fe, yc', yo, yb, ct, kd, pr, nm, my, tg, sz, dt, ar, sc', st'))
    (h3 : (¬ ∀ i, i < c → ta_ft kd tg P i) → ∀ yc' sc' st', post (-11) (fa, nI mb, fl, fe, yc', yo, yb, ct, kd, pr, nm, my, tg, sz, dt, ar, sc', st')) :
    ∀ n k yc sc st, k ≤ c → c < k + n → (∀ i, i < k → ta_ft kd tg P i) → wY_create_9 post (nI c) n (nI k) fa (nI mb) fl fe yc yo yb ct kd pr nm my tg sz dt ar sc st := by
  have hfl := ta_fc_le sz c
  intro n
  induction n with
  | zero => intro k _ _ _ _ g; omega
  | succ n ih =>
    intro k yc sc st g1 g2 g3
    refine pk_le c k (fun g => ?_) (fun g => ?_)
    · have hft : ∀ i, i < c → ta_ft kd tg P i := fun i hi => g3 i (by omega)
      refine nm_r (e' := nI (c + 2 + ta_fc sz 0)) (nI_add c 2) ⟨c + 1, ya_c72 hc X hmb (fun w => ?_) (fun w => h2 hft w _ _ _) (c + 1) 0 (Nat.zero_le _) (by omega)⟩
      have := ya_c118 (fa := fa) (fb := nI mb) (fl := fl) (fe := fe) (yc := yc) (yo := yo) (yb := yb) (ct := ct) (kd := kd) (pr := pr) (nm := nm) (my := my) (tg := tg) (sz := sz) (dt := dt) (ar := ar) (sc := sc) (st := st) ⟨c + 1, ya_c143 T hc X hft hm (B := c + 2 + ta_fc sz c) (z := ta_cz ar 768) (by omega) (fun j hj => if_pos hj) (h1 hft w) (c + 1) 0 yc sc st (Nat.zero_le _) (by omega)⟩ 769 0 (by omega) (by omega)
      rw [ta_cz_0] at this
      exact ⟨_, this⟩
    · have nx : ta_ft kd tg P k → ∀ yc sc st, wY_create_9 post (nI c) n (nI (k + 1)) fa (nI mb) fl fe yc yo yb ct kd pr nm my tg sz dt ar sc st := fun q yc sc st =>
        ih (k + 1) yc sc st (by omega) (by omega) (fun i hi => by
          rcases Nat.lt_or_ge i k with y | y
          · exact g3 i y
          · rw [show i = k by omega]; exact q)
      refine ya_splitPoint T hc g (fun st' => br_c (fun z => h3 (fun y => (y k g).1 z) _ _ _) (fun z => ⟨vp_in_nI (by omega) (by omega), ?_⟩))
      rw [nI_clamp (by omega)]
      refine br_c (fun k2 => ⟨vp_in_nI (by omega) (by omega), ?_⟩) (fun k2 => nm_r (nI_1 k) (nx ⟨z, fun w => absurd w k2⟩ _ _ _))
      obtain ⟨_, hx, _⟩ := X k g
      simp only [Nat.zero_add] at hx
      obtain ⟨q, hq, e, _⟩ := hx k2
      have en : ta_n (tg k) = q := by unfold ta_n; rw [e, nI_clamp (by omega)]
      have h29 := ta_P_29 T (show q < c by omega)
      rw [e]
      refine ya_writePath (t := 0) (off := 32) T hc (by omega) (by omega) (by omega) (fun st2 => ?_)
      refine pk_le (P q).length 12 (fun w => nm_r (nI_1 k) (nx ⟨z, fun _ => by rw [en]; exact w⟩ _ _ _)) (fun w => h3 (fun y => ?_) _ _ _)
      have := (y k g).2 k2
      rw [en] at this
      omega
theorem ya_create (T : ta_Tr 0 c kd pr nm P) (hc : c ≤ 8) (X : ∀ i, i < c → ta_Nx 0 kd sz tg i) (hct : ct 0 = nI c) (hm : ∀ i, i < c → (kd i = 2 → md i = 0) ∧ (kd i ≠ 2 → my i = md i)) {mb : Nat} (hmb : mb ≤ 12) {post : Int32 → SY → Prop}
    (h1 : (∀ i, i < c → ta_ft kd tg P i) → c + 2 + ta_fc sz c ≤ mb → ∀ yc' sc' st', post (nI (c + 2 + ta_fc sz c)) (fa, nI mb, nI (64 * (c + 2 + ta_fc sz c)), fe, yc', yo, yb, ct, kd, pr, nm, my, tg, sz, dt, ta_cr kd md sz tg dt P (ta_cz ar 768) c, sc', st'))
    (h2 : (∀ i, i < c → ta_ft kd tg P i) → mb < c + 2 + ta_fc sz c → ∀ yc' sc' st', post (-12) (fa, nI mb, fl, fe, yc', yo, yb, ct, kd, pr, nm, my, tg, sz, dt, ar, sc', st'))
    (h3 : (¬ ∀ i, i < c → ta_ft kd tg P i) → ∀ yc' sc' st', post (-11) (fa, nI mb, fl, fe, yc', yo, yb, ct, kd, pr, nm, my, tg, sz, dt, ar, sc', st')) :
    wpY_create post (fa, nI mb, fl, fe, yc, yo, yb, ct, kd, pr, nm, my, tg, sz, dt, ar, sc, st) :=
  nm_r hct ⟨c + 1, ya_c9 T hc X hm hmb h1 h2 h3 (c + 1) 0 yc sc st (Nat.zero_le _) (by omega) (fun i hi => by omega)⟩
end
