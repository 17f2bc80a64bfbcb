/-! 20: the reference's names and paths -/
section
variable {fa fb fl fe yc yo yb : Int32} {ct kd pr nm my tg sz dt ar sc st : Nat → Int32} {P : Nat → List Int32} {c : Nat}
theorem ya_nameChar {post : Int32 → Prop} {x : Int32} (h1 : ta_nc x → post 1) (h0 : ¬ ta_nc x → post 0) : wpY_nameChar post (fa, fb, fl, fe, yc, yo, yb, ct, kd, pr, nm, my, tg, sz, dt, ar, sc, st) x := by
  have B : ¬ (97 ≤ x ∧ x ≤ 122) → ¬ (48 ≤ x ∧ x ≤ 57) → wY_nameChar_24 post x fa fb fl fe yc yo yb ct kd pr nm my tg sz dt ar sc st := fun a b =>
    br_c (fun z => h1 (Or.inr (Or.inr z))) (fun z => h0 (fun w => w.elim a (fun w => w.elim b z)))
  have A : ¬ (97 ≤ x ∧ x ≤ 122) → wY_nameChar_12 post x fa fb fl fe yc yo yb ct kd pr nm my tg sz dt ar sc st := fun a =>
    br_c (fun z => B a (fun w => Int32.not_lt.mpr w.1 z)) (fun z => br_c (fun w => h1 (Or.inr (Or.inl ⟨Int32.not_lt.mp z, w⟩))) (fun w => B a (fun y => w y.2)))
  exact br_c (fun z => A (fun w => Int32.not_lt.mpr w.1 z)) (fun z => br_c (fun w => h1 (Or.inl ⟨Int32.not_lt.mp z, w⟩)) (fun w => A (fun y => w y.2)))
theorem ya_v43 {post : Int32 → Prop} {v : Int32} (hl : 1 ≤ ta_l v) (h1 : ta_V v → post 1) (h0 : ¬ ta_V v → post 0) : ∀ n k, k ≤ 4 → 4 < k + n → (∀ j, j < k → (j < ta_l v → ta_nc (ta_b v j)) ∧ (ta_l v ≤ j → ta_b v j = 0)) → wY_validName_43 post v (nI (ta_l v)) fa fb fl fe yc yo yb ct kd pr nm my tg sz dt ar sc st n (nI k) := by
  have s1 := (ta_l_spec v).1
  intro n
  induction n with
  | zero => intro k _ g; omega
  | succ n ih =>
    intro k g1 g2 g3
    refine pk_le 4 k (fun g => h1 ⟨hl, fun j hj => (g3 j (by omega)).1 hj, fun j a b => (g3 j (by omega)).2 a⟩) (fun g => ?_)
    have nx : ((k < ta_l v → ta_nc (ta_b v k)) ∧ (ta_l v ≤ k → ta_b v k = 0)) → wY_validName_43 post v (nI (ta_l v)) fa fb fl fe yc yo yb ct kd pr nm my tg sz dt ar sc st n (nI (k + 1)) := fun q =>
      ih (k + 1) (by omega) (by omega) (fun j hj => by
        rcases Nat.lt_or_ge j k with y | y
        · exact g3 j y
        · rw [show j = k by omega]; exact q)
    refine nm_e (pk_le (ta_l v) k (fun w => ?_) (fun w => ?_))
    · refine br_f (nI_nlt w (by omega)) (br_c (fun z => nm_r (nI_1 k) (nx ⟨fun y => by omega, fun _ => z⟩)) (fun z => h0 (fun y => z (y.2.2 k w (by omega)))))
    · refine ya_nameChar (fun z => br_f (by decide) ?_) (fun z => br_t rfl (h0 (fun y => z (y.2.1 k w))))
      exact br_t (nI_lt w (by omega)) (nm_r (nI_1 k) (nx ⟨fun _ => z, fun y => by omega⟩))
theorem ya_v4 {post : Int32 → Prop} {v : Int32} (h1 : ta_V v → post 1) (h0 : ¬ ta_V v → post 0) : ∀ n k, k ≤ ta_l v → ta_l v < k + n → wY_validName_4 post v fa fb fl fe yc yo yb ct kd pr nm my tg sz dt ar sc st n (nI k) (nI k) := by
  obtain ⟨s1, s2, s3⟩ := ta_l_spec v
  have E : wY_validName_34 post v (nI (ta_l v)) fa fb fl fe yc yo yb ct kd pr nm my tg sz dt ar sc st :=
    pk_le 1 (ta_l v) (fun g => ⟨5, ya_v43 g h1 h0 5 0 (by omega) (by omega) (fun j hj => by omega)⟩) (fun g => h0 (fun w => by have := w.1; omega))
  intro n
  induction n with
  | zero => intro k _ g; omega
  | succ n ih =>
    intro k g1 g2
    refine pk_le 4 k (fun g => ?_) (fun g => br_c (fun z => ?_) (fun z => ?_))
    · rw [show k = ta_l v by omega]; exact E
    · have : k = ta_l v := by
        rcases Nat.lt_or_ge k (ta_l v) with y | y
        · exact absurd z (s2 k y)
        · omega
      rw [this]; exact E
    · have : k < ta_l v := by
        rcases Nat.lt_or_ge k (ta_l v) with y | y
        · exact y
        · have e : k = ta_l v := by omega
          have f := s3 (by omega)
          rw [← e] at f
          exact absurd f z
      exact nm_r (nI_1 k) (nm_r (nI_1 k) (ih (k + 1) (by omega) (by omega)))
theorem ya_validName {post : Int32 → Prop} {v : Int32} (h1 : ta_V v → post 1) (h0 : ¬ ta_V v → post 0) : wpY_validName post (fa, fb, fl, fe, yc, yo, yb, ct, kd, pr, nm, my, tg, sz, dt, ar, sc, st) v :=
  ⟨5, ya_v4 h1 h0 5 0 (Nat.zero_le _) (by have := (ta_l_spec v).1; omega)⟩
theorem ya_w107 {post : Int32 → SY → Prop} {J : Int32 → Int32 → (Nat → Int32) → (Nat → Int32) → (Nat → Int32) → (Nat → Int32) → (Nat → Int32) → (Nat → Int32) → (Nat → Int32) → (Nat → Int32) → (Nat → Int32) → (Nat → Int32) → (Nat → Int32) → Prop} {x1 x3 x7 v : Int32} {p : Nat} (hv : ta_V v) (hp : p + 4 ≤ 96)
    (h : J (nI (p + ta_l v)) (x7 + (-1)) ct kd pr nm my tg sz dt ar (ta_wr sc p (ta_t v)) st) :
    ∀ n k, k ≤ 4 → 4 < k + n → wY_writePath_107 post J x1 x3 x7 v fa fb fl fe yc yo yb n (nI (p + min k (ta_l v))) (nI k) ct kd pr nm my tg sz dt ar (ta_wr sc p (ta_sg (ta_b v) 0 (min k (ta_l v)))) st := by
  obtain ⟨s1, s2, s3⟩ := ta_l_spec v
  intro n
  induction n with
  | zero => intro k _ g; omega
  | succ n ih =>
    intro k g1 g2
    refine pk_le 4 k (fun g => ?_) (fun g => nm_e (br_c (fun z => ?_) (fun z => ?_)))
    · rw [show min k (ta_l v) = ta_l v by omega]; exact nm_e h
    · have hk : ta_l v ≤ k := by
        rcases Nat.lt_or_ge k (ta_l v) with y | y
        · exact absurd z (s2 k y)
        · exact y
      have := ih (k + 1) (by omega) (by omega)
      rw [show min (k + 1) (ta_l v) = min k (ta_l v) by omega] at this
      exact nm_r (nI_1 k) this
    · have hk : k < ta_l v := by
        rcases Nat.lt_or_ge k (ta_l v) with y | y
        · exact y
        · exact absurd (hv.2.2 k y (by omega)) z
      have := ih (k + 1) (by omega) (by omega)
      rw [show min (k + 1) (ta_l v) = k + 1 by omega] at this
      rw [show min k (ta_l v) = k by omega]
      refine ⟨vp_in_nI (by omega) (by omega), nm_r (e' := ta_wr sc p (ta_sg (ta_b v) 0 (k + 1))) ?_ (nm_r (nI_1 (p + k)) (nm_r (nI_1 k) this))⟩
      rw [nI_clamp (by omega), ta_sg_S, ← ta_wr_snoc, ta_sg_len, Nat.zero_add]
      rfl
theorem ya_w107z {post : Int32 → SY → Prop} {J : Int32 → Int32 → (Nat → Int32) → (Nat → Int32) → (Nat → Int32) → (Nat → Int32) → (Nat → Int32) → (Nat → Int32) → (Nat → Int32) → (Nat → Int32) → (Nat → Int32) → (Nat → Int32) → (Nat → Int32) → Prop} {x1 x3 x7 v : Int32} {p : Nat} (hv : ta_V v) (hp : p + 4 ≤ 96)
    (h : J (nI (p + ta_l v)) (x7 + (-1)) ct kd pr nm my tg sz dt ar (ta_wr sc p (ta_t v)) st) :
    ∃ n, wY_writePath_107 post J x1 x3 x7 v fa fb fl fe yc yo yb n (nI p) 0 ct kd pr nm my tg sz dt ar sc st := by
  have := ya_w107 (fa := fa) (fb := fb) (fl := fl) (fe := fe) (yc := yc) (yo := yo) (yb := yb) (post := post) (x1 := x1) (x3 := x3) hv hp h 5 0 (by omega) (by omega)
  rw [Nat.zero_min, ta_sg_0, ta_wr_nil, Nat.add_zero] at this
  exact ⟨_, this⟩
/-- the walk up and the writing down, node by node -/
theorem ya_w9 {t off : Nat} (T : ta_Tr (8 * t) c kd pr nm P) (hc : c ≤ 8) (ht : t < 2) (ho : off + 30 ≤ 96) {post : Int32 → SY → Prop} : ∀ i g n st, i < c → g + (P i).count 47 ≤ 5 → (P i).count 47 + 1 < n →
    (∀ st', (∀ s, s < g → st' s = st s) → wY_writePath_62 post (nI t) (nI off) fa fb fl fe yc yo yb (g + 1) (nI (off + (P i).length)) (nI g - 1) ct kd pr nm my tg sz dt ar (ta_wr sc off (P i)) st') →
    wY_writePath_9 post (nI t) (nI off) fa fb fl fe yc yo yb n (nI g) (nI i) (nI g) ct kd pr nm my tg sz dt ar sc st := by
  intro i
  induction i using Nat.strongRecOn with
  | ind i ih =>
    intro g n st hi h1 h2 h
    obtain ⟨n, rfl⟩ : ∃ k, n = k + 1 := ⟨n - 1, by omega⟩
    obtain ⟨hv, _, hx⟩ := T.1 i hi
    have h29 := ta_P_29 T hi
    have h4 := (ta_l_spec (nm (8 * t + i))).1
    have e8 : (nI t * 8 + nI i) = nI (8 * t + i) := ta_ix t i
    refine br_f (nI_ge (b := 8) (by omega) (by decide)) (br_f (nI_pos (by omega)) ⟨vp_in_nI (by omega) (by omega), nm_r (by rw [nI_clamp (by omega)]) (nm_r (nI_1 g) ⟨by rw [e8]; exact vp_in_nI (by omega) (by omega), nm_r (by rw [e8, nI_clamp (by omega)]) (nm_r (nI_1 g) ?_)⟩)⟩)
    have W : ∀ (x6 : Nat) (sc' st' : Nat → Int32), off ≤ x6 → x6 + 4 ≤ 96 → st' g = nI i → wY_writePath_62 post (nI t) (nI off) fa fb fl fe yc yo yb (g + 1) (nI (x6 + ta_l (nm (8 * t + i)))) (nI g - 1) ct kd pr nm my tg sz dt ar (ta_wr sc' x6 (ta_t (nm (8 * t + i)))) st' →
        wY_writePath_85 post (wY_writePath_62 post (nI t) (nI off) fa fb fl fe yc yo yb (g + 1)) (nI t) (nI off) (nI x6) (nI g) fa fb fl fe yc yo yb ct kd pr nm my tg sz dt ar sc' st' := by
      intro x6 sc' st' a1 a2 a3 a4
      have e9 : nI t * 8 + st' (nI g).toNatClampNeg = nI (8 * t + i) := by rw [nI_clamp (by omega), a3, ta_ix]
      refine ⟨vp_in_nI (by omega) (by omega), by rw [e9]; exact vp_in_nI (by omega) (by omega), nm_r (by rw [e9, nI_clamp (by omega)]) (ya_w107z hv a2 ?_)⟩
      rw [ta_pm]; exact a4
    rcases hx with ⟨e, f⟩ | ⟨q, hq, e, _, f⟩
    · rw [e]
      obtain ⟨n, rfl⟩ : ∃ k, n = k + 1 := ⟨n - 1, by omega⟩
      refine br_f (nI_ge (b := 8) (by omega) (by decide)) (br_t (by decide) (nm_r (nI_pred g) ⟨g + 2, ?_⟩))
      refine br_f (nI_pos (by omega)) (br_t (Int32.le_refl _) ?_)
      refine W off _ _ (Nat.le_refl _) (by omega) (by rw [pk_us]) ?_
      have hh := h (upd st g (nI i)) (fun s hs => by rw [pk_un (by omega)])
      rw [f, ta_t_len] at hh
      exact hh
    · have zc := ta_cntq hv (P q)
      have zl := ta_lenq (nm (8 * t + i)) (P q)
      rw [← f] at zc zl
      have hpos := ta_P_pos T (show q < c by omega)
      have hq24 := ta_P_len T q (by omega)
      rw [e]
      refine ih q hq (g + 1) n (upd st g (nI i)) (by omega) (by omega) (by omega) (fun st' hst => ?_)
      rw [nI_pred]
      refine br_f (nI_pos (by omega)) (br_f (nI_ge (by omega) (by omega)) ⟨vp_in_nI (by omega) (by omega), nm_r (e' := ta_wr sc off (P q ++ [47])) (by rw [nI_clamp (by omega), ta_wr_snoc]) (nm_r (nI_1 _) ?_)⟩)
      refine W (off + (P q).length + 1) _ _ (by omega) (by omega) (by rw [hst g (by omega), pk_us]) ?_
      have hh := h st' (fun s hs => by rw [hst s (by omega), pk_un (by omega)])
      have hw := ta_wr_app sc off (P q ++ [47]) (ta_t (nm (8 * t + i)))
      rw [List.length_append, List.append_assoc] at hw
      have hw : ta_wr (ta_wr sc off (P q ++ [47])) (off + ((P q).length + 1)) (ta_t (nm (8 * t + i))) = ta_wr sc off (P q ++ 47 :: ta_t (nm (8 * t + i))) := hw
      rw [show off + (P i).length = off + (P q).length + 1 + ta_l (nm (8 * t + i)) by omega, f, ← hw] at hh
      exact hh
theorem ya_writePath {t off i : Nat} (T : ta_Tr (8 * t) c kd pr nm P) (hc : c ≤ 8) (ht : t < 2) (ho : off + 30 ≤ 96) {post : Int32 → SY → Prop} (hi : i < c)
    (h : ∀ st', post (nI (P i).length) (fa, fb, fl, fe, yc, yo, yb, ct, kd, pr, nm, my, tg, sz, dt, ar, ta_wr sc off (P i), st')) : wpY_writePath post (fa, fb, fl, fe, yc, yo, yb, ct, kd, pr, nm, my, tg, sz, dt, ar, sc, st) (nI t) (nI i) (nI off) := by
  have h5 := (T.1 i hi).2.1
  refine ⟨7, ya_w9 T hc ht ho i 0 7 st hi (by omega) (by omega) (fun st' _ => br_t (by decide) ?_)⟩
  rw [pk_sub (by omega), show off + (P i).length - off = (P i).length by omega]
  exact h st'
theorem ya_s23 {post : Int32 → SY → Prop} {g : Nat → Int32} {p : Nat} (hp : 12 < p) (hp2 : p ≤ 29) (hg : ∀ s, s < p → sc s = g s) : ∀ n s, s ≤ p → p < s + n → post (if s < p - 13 then ta_fs g (p - 13) (24 - p) else ta_fs g s (11 - s)) (fa, fb, fl, fe, yc, yo, yb, ct, kd, pr, nm, my, tg, sz, dt, ar, sc, st) → wY_splitPoint_23 post (nI p) fa fb fl fe yc yo yb ct kd pr nm my tg sz dt ar sc st n (nI s) := by
  intro n
  induction n with
  | zero => intro s _ g; omega
  | succ n ih =>
    intro s g1 g2 h
    have nx : (s < p - 13 ∨ g s ≠ 47) → s < p → wY_splitPoint_23 post (nI p) fa fb fl fe yc yo yb ct kd pr nm my tg sz dt ar sc st n (nI (s + 1)) := by
      intro a b
      refine ih (s + 1) (by omega) (by omega) ?_
      by_cases h3 : s + 1 < p - 13
      · rw [if_pos (by omega)] at h; rw [if_pos h3]; exact h
      · rw [if_neg h3]
        by_cases h4 : s < p - 13
        · rw [if_pos h4, show p - 13 = s + 1 by omega, show 24 - p = 11 - (s + 1) by omega] at h
          exact h
        · rw [if_neg h4] at h
          have hne : g s ≠ 47 := a.elim (fun y => absurd y h4) id
          by_cases h5 : s ≤ 10
          · rw [show 11 - s = (11 - (s + 1)) + 1 by omega] at h
            have h : post (if g s = 47 then nI s else ta_fs g (s + 1) (11 - (s + 1))) (fa, fb, fl, fe, yc, yo, yb, ct, kd, pr, nm, my, tg, sz, dt, ar, sc, st) := h
            rw [if_neg hne] at h
            exact h
          · rw [show 11 - s = 0 by omega] at h
            rw [show 11 - (s + 1) = 0 by omega]
            exact h
    refine pk_le p s (fun w => ?_) (fun w => ⟨vp_in_nI (by omega) (by omega), ?_⟩)
    · rw [if_neg (by omega), show 11 - s = 0 by omega] at h
      exact h
    · rw [nI_clamp (by omega), hg s w]
      have ei : nI p - nI s - 1 = nI (p - s - 1) := by rw [pk_sub (by omega), show (1 : Int32) = nI 1 from rfl, pk_sub (by omega)]
      refine br_c (fun z => pk_lt 12 (p - s - 1) (fun y => nm_r (nI_1 s) (nx (Or.inl (by omega)) w)) (fun y => ?_) (hy := ei)) (fun z => nm_r (nI_1 s) (nx (Or.inr z) w))
      rw [if_neg (by omega)] at h
      refine pk_le s 10 (fun q => ?_) (fun q => ?_)
      · rw [show 11 - s = (11 - (s + 1)) + 1 by omega] at h
        have h : post (if g s = 47 then nI s else ta_fs g (s + 1) (11 - (s + 1))) (fa, fb, fl, fe, yc, yo, yb, ct, kd, pr, nm, my, tg, sz, dt, ar, sc, st) := h
        rw [if_pos z] at h
        exact h
      · rw [show 11 - s = 0 by omega] at h
        exact h
theorem ya_splitPoint {i : Nat} (T : ta_Tr 0 c kd pr nm P) (hc : c ≤ 8) {post : Int32 → SY → Prop} (hi : i < c)
    (h : ∀ st', post (ta_sp (P i)) (fa, fb, fl, fe, nI (P i).length, yo, yb, ct, kd, pr, nm, my, tg, sz, dt, ar, ta_wr sc 0 (P i), st')) : wpY_splitPoint post (fa, fb, fl, fe, yc, yo, yb, ct, kd, pr, nm, my, tg, sz, dt, ar, sc, st) (nI i) := by
  have h29 := ta_P_29 T hi
  unfold wpY_splitPoint
  refine ya_writePath (t := 0) (off := 0) T hc (by omega) (by omega) hi (fun st' => ?_)
  have h := h st'
  unfold ta_sp at h
  refine pk_lt 12 (P i).length (fun g => ⟨30, ?_⟩) (fun g => ?_)
  · rw [if_neg (by omega)] at h
    refine ya_s23 (g := fun k => (P i).getD k 0) g h29 (fun s hs => ta_g_wr hs) 30 0 (Nat.zero_le _) (by omega) ?_
    by_cases h3 : 0 < (P i).length - 13
    · rw [if_pos h3]; exact h
    · rw [if_neg h3, show 11 - 0 = 24 - (P i).length by omega]
      rw [show (P i).length - 13 = 0 by omega] at h
      exact h
  · rw [if_pos g] at h
    exact h
end
