/-! 23: what the reference looks at in a header -/
section
variable {fa fb fl fe yc yo yb : Int32} {ct kd pr nm my tg sz dt ar sc st : Nat → Int32} {P : Nat → List Int32} {c : Nat}
theorem ya_az {post : Int32 → Prop} {f m : Nat} (hf : f + m ≤ 768) (h1 : ta_z ar f m → post 1) (h0 : ¬ ta_z ar f m → post 0) : ∀ n k, k ≤ m → m < k + n → (∀ j, j < k → ar (f + j) = 0) → wY_allZero_2 post (nI f) (nI m) fa fb fl fe yc yo yb ct kd pr nm my tg sz dt ar sc st n (nI k) := by
  intro n
  induction n with
  | zero => intro k _ g; omega
  | succ n ih =>
    intro k g1 g2 g3
    have ei : nI f + nI k = nI (f + k) := nI_add _ _
    refine pk_le m k (fun g => h1 (fun j hj => g3 j (by omega))) (fun g => ⟨by rw [ei]; exact vp_in_nI (by omega) (by omega), ?_⟩)
    rw [ei, nI_clamp (by omega)]
    refine br_c (fun z => nm_r (nI_1 k) (ih (k + 1) (by omega) (by omega) (fun j hj => ?_))) (fun z => h0 (fun w => z (w k (by omega))))
    rcases Nat.lt_or_ge j k with y | y
    · exact g3 j y
    · rw [show j = k by omega]; exact z
theorem ya_allZero {post : Int32 → Prop} {p0 p1 : Int32} (f m : Nat) (e0 : p0 = nI f) (e1 : p1 = nI m) (hf : f + m ≤ 768) (h1 : ta_z ar f m → post 1) (h0 : ¬ ta_z ar f m → post 0) : wpY_allZero post (fa, fb, fl, fe, yc, yo, yb, ct, kd, pr, nm, my, tg, sz, dt, ar, sc, st) p0 p1 := by
  subst e0 e1
  exact ⟨m + 1, ya_az hf h1 h0 (m + 1) 0 (Nat.zero_le _) (by omega) (fun j hj => by omega)⟩
theorem ya_of {post : Int32 → Prop} {o d : Nat} (ho : o + d < 768) (h1 : ta_ok ar o d → post 1) (h0 : ¬ ta_ok ar o d → post 0) : ∀ n k, k ≤ d → d < k + n → ta_od ar o k → wY_octalField_2 post (nI o) (nI d) fa fb fl fe yc yo yb ct kd pr nm my tg sz dt ar sc st n (nI k) := by
  intro n
  induction n with
  | zero => intro k _ g; omega
  | succ n ih =>
    intro k g1 g2 g3
    have ed : nI o + nI d = nI (o + d) := nI_add _ _
    have ek : nI o + nI k = nI (o + k) := nI_add _ _
    have ik : k < d → vp_in (nI o + nI k) 768 := fun h => by rw [ek]; exact vp_in_nI (by omega) (by omega)
    have ck : k < d → (nI o + nI k).toNatClampNeg = o + k := fun h => by rw [ek, nI_clamp (by omega)]
    refine pk_le d k (fun g => ⟨by rw [ed]; exact vp_in_nI (by omega) (by omega), ?_⟩) (fun g => ⟨ik g, ?_⟩)
    · have e : k = d := by omega
      rw [ed, nI_clamp (by omega)]
      subst e
      exact br_c (fun z => h1 ⟨g3, z⟩) (fun z => h0 (fun w => z w.2))
    · rw [ck g]
      refine br_c (fun z => h0 (fun w => Int32.not_lt.mpr (w.1 k g).1 z)) (fun z => ⟨ik g, br_c (fun w => nm_r (nI_1 k) (ih (k + 1) (by omega) (by omega) (fun j hj => ?_))) (fun w => h0 (fun y => w (y.1 k g).2))⟩)
      rcases Nat.lt_or_ge j k with y | y
      · exact g3 j y
      · rw [show j = k by omega]; exact ⟨Int32.not_lt.mp z, w⟩
theorem ya_octalField {post : Int32 → Prop} {p0 : Int32} {o : Nat} (d : Nat) (e : p0 = nI o) (ho : o + d < 768) (h1 : ta_ok ar o d → post 1) (h0 : ¬ ta_ok ar o d → post 0) : wpY_octalField post (fa, fb, fl, fe, yc, yo, yb, ct, kd, pr, nm, my, tg, sz, dt, ar, sc, st) p0 (nI d) := by
  subst e
  exact ⟨d + 1, ya_of ho h1 h0 (d + 1) 0 (Nat.zero_le _) (by omega) (fun j hj => by omega)⟩
theorem ya_ov {post : Int32 → Prop} {o d : Nat} (ho : o + d < 768) (hd : ta_od ar o d) (h : post (nI (ta_ov ar o d))) : ∀ n k, k ≤ d → d < k + n → wY_octalValue_5 post (nI o) (nI d) fa fb fl fe yc yo yb ct kd pr nm my tg sz dt ar sc st n (nI (ta_ov ar o k)) (nI k) := by
  intro n
  induction n with
  | zero => intro k _ g; omega
  | succ n ih =>
    intro k g1 g2
    have ek : nI o + nI k = nI (o + k) := nI_add _ _
    refine pk_le d k (fun g => ?_) (fun g => ⟨by rw [ek]; exact vp_in_nI (by omega) (by omega), nm_r (e' := nI (ta_ov ar o (k + 1))) ?_ (nm_r (nI_1 k) (ih (k + 1) (by omega) (by omega)))⟩)
    · rw [show k = d by omega]; exact h
    · obtain ⟨m, m1, m2, m3⟩ := ta_dg (hd k g)
      show _ = nI (ta_ov ar o k * 8 + (ta_n (ar (o + k)) - 48))
      rw [ek, nI_clamp (by omega), m3, m2, show (8 : Int32) = nI 8 from rfl, pk_mul, show (48 : Int32) = nI 48 from rfl, pk_sub (by omega), nI_add]
theorem ya_octalValue {post : Int32 → Prop} {p0 : Int32} {o : Nat} (d : Nat) (e : p0 = nI o) (ho : o + d < 768) (hd : ta_od ar o d) (h : post (nI (ta_ov ar o d))) : wpY_octalValue post (fa, fb, fl, fe, yc, yo, yb, ct, kd, pr, nm, my, tg, sz, dt, ar, sc, st) p0 (nI d) := by
  subst e
  exact ⟨d + 1, ya_ov ho hd h (d + 1) 0 (Nat.zero_le _) (by omega)⟩
theorem ya_tl {post : Int32 → Prop} {o m : Nat} (ho : o + m ≤ 768) (h : post (nI (ta_tl ar o m))) : ∀ n k, k ≤ m → m < k + n → (∀ j, j < k → ar (o + j) ≠ 0) → wY_textLen_2 post (nI o) (nI m) fa fb fl fe yc yo yb ct kd pr nm my tg sz dt ar sc st n (nI k) := by
  intro n
  induction n with
  | zero => intro k _ g; omega
  | succ n ih =>
    intro k g1 g2 g3
    have ek : nI o + nI k = nI (o + k) := nI_add _ _
    refine pk_le m k (fun g => ?_) (fun g => ⟨by rw [ek]; exact vp_in_nI (by omega) (by omega), ?_⟩)
    · rw [← ta_tl_uniq g1 g3 (fun y => by omega), show k = m by omega] at h; exact h
    · rw [ek, nI_clamp (by omega)]
      refine br_c (fun z => ?_) (fun z => nm_r (nI_1 k) (ih (k + 1) (by omega) (by omega) (fun j hj => ?_)))
      · rw [← ta_tl_uniq g1 g3 (fun _ => z)] at h; exact h
      · rcases Nat.lt_or_ge j k with y | y
        · exact g3 j y
        · rw [show j = k by omega]; exact z
theorem ya_textLen {post : Int32 → Prop} {p0 : Int32} {o : Nat} (m : Nat) (e : p0 = nI o) (ho : o + m ≤ 768) (h : post (nI (ta_tl ar o m))) : wpY_textLen post (fa, fb, fl, fe, yc, yo, yb, ct, kd, pr, nm, my, tg, sz, dt, ar, sc, st) p0 (nI m) := by
  subst e
  exact ⟨m + 1, ya_tl ho h (m + 1) 0 (Nat.zero_le _) (by omega) (fun j hj => by omega)⟩
theorem ya_wf {post : Int32 → Prop} {o m : Nat} (ho : o + m ≤ 768) (h1 : ta_wf ar o m → post 1) (h0 : ¬ ta_wf ar o m → post 0) : ∀ n k x, k ≤ m → m < k + n → (∀ i j, i < j → j < k → ar (o + i) = 0 → ar (o + j) = 0) → ((x = 0 ∧ ∀ j, j < k → ar (o + j) ≠ 0) ∨ (x = 1 ∧ ∃ j, j < k ∧ ar (o + j) = 0)) → wY_wellFormed_5 post (nI o) (nI m) fa fb fl fe yc yo yb ct kd pr nm my tg sz dt ar sc st n x (nI k) := by
  intro n
  induction n with
  | zero => intro k x _ g; omega
  | succ n ih =>
    intro k x g1 g2 g3 g4
    have ek : nI o + nI k = nI (o + k) := nI_add _ _
    refine pk_le m k (fun g => h1 (ta_wf_iff.mpr (fun i j a b => g3 i j a (by omega)))) (fun g => ⟨by rw [ek]; exact vp_in_nI (by omega) (by omega), ?_⟩)
    rw [ek, nI_clamp (by omega)]
    refine br_c (fun z => nm_r (nI_1 k) (ih (k + 1) 1 (by omega) (by omega) (fun i j a b c => ?_) (Or.inr ⟨rfl, k, by omega, z⟩))) (fun z => ?_)
    · rcases Nat.lt_or_ge j k with y | y
      · exact g3 i j a y c
      · rw [show j = k by omega]; exact z
    · rcases g4 with ⟨x0, a0⟩ | ⟨x1, q, q1, q2⟩
      · refine br_t x0 (nm_r (nI_1 k) (ih (k + 1) x (by omega) (by omega) (fun i j a b c => ?_) (Or.inl ⟨x0, fun j hj => ?_⟩)))
        · exact absurd c (a0 i (by omega))
        · rcases Nat.lt_or_ge j k with y | y
          · exact a0 j y
          · rw [show j = k by omega]; exact z
      · exact br_f (by rw [x1]; decide) (h0 (fun w => z (ta_wf_iff.mp w q k q1 g q2)))
theorem ya_wellFormed {post : Int32 → Prop} {p0 : Int32} {o : Nat} (m : Nat) (e : p0 = nI o) (ho : o + m ≤ 768) (h1 : ta_wf ar o m → post 1) (h0 : ¬ ta_wf ar o m → post 0) : wpY_wellFormed post (fa, fb, fl, fe, yc, yo, yb, ct, kd, pr, nm, my, tg, sz, dt, ar, sc, st) p0 (nI m) := by
  subst e
  exact ⟨m + 1, ya_wf ho h1 h0 (m + 1) 0 0 (Nat.zero_le _) (by omega) (fun i j a b => by omega) (Or.inl ⟨rfl, fun j hj => by omega⟩)⟩
theorem ya_vp8 {post : Int32 → Prop} {m : Nat} (hm : m < 60) (h1 : ta_VP sc m → (ta_sg sc 0 m).count 47 ≤ 5 → ∀ k, k < 100 → post (nI k)) (h0 : ¬ (ta_VP sc m ∧ (ta_sg sc 0 m).count 47 ≤ 5) → post (-1)) :
    ∀ n k s, k ≤ m → m + 1 < k + n → s ≤ k → (s = 0 ∨ sc (s - 1) = 47) → (∀ j, s ≤ j → j < k → ta_nc (sc j)) → (∀ e, e < k → sc e = 47 → ta_Gd sc e) → wY_validPath_8 post 0 (nI m) fa fb fl fe yc yo yb ct kd pr nm my tg sz dt ar sc st n (nI ((ta_sg sc 0 k).count 47)) (nI (k - s)) (nI k) := by
  intro n
  induction n with
  | zero => intro k s _ g; omega
  | succ n ih =>
    intro k s g1 g2 gs gb g3 g4
    have hck : (ta_sg sc 0 k).count 47 ≤ k := Nat.le_trans List.count_le_length (by rw [ta_sg_len]; exact Nat.le_refl _)
    have hSt : ta_St sc s k := ⟨gs, gb, fun j a b => ta_nc_ne (g3 j a b)⟩
    have K : (k = m ∨ (k < m ∧ sc k = 47)) → wY_validPath_34 post (wY_validPath_8 post 0 (nI m) fa fb fl fe yc yo yb ct kd pr nm my tg sz dt ar sc st n) 0 (nI m) (nI ((ta_sg sc 0 k).count 47)) (nI (k - s)) (nI k) fa fb fl fe yc yo yb ct kd pr nm my tg sz dt ar sc st := by
      intro hk
      have no : ¬ (1 ≤ k - s ∧ k - s ≤ 4) → post (-1) := fun nv => h0 (fun w => by
        have hGd : ta_Gd sc k := w.1 k g1 (hk.elim Or.inl (fun x => Or.inr x.2))
        have := (ta_St_Gd hSt).mp hGd
        exact nv ⟨this.1, this.2.1⟩)
      refine pk_lt (k - s) 1 (fun w => no (by omega)) (fun w => pk_le (k - s) 4 (fun w4 => nm_r (nI_1 _) (nm_r (nI_1 k) ?_)) (fun w4 => no (by omega)))
      have hGd : ta_Gd sc k := (ta_St_Gd hSt).mpr ⟨w, w4, fun j hj => g3 (s + j) (by omega) (by omega)⟩
      rcases hk with hk | ⟨hk, h47⟩
      · subst hk
        obtain ⟨n, rfl⟩ : ∃ q, n = q + 1 := ⟨n - 1, by omega⟩
        refine br_t (nI_lt (by omega) (by omega)) ?_
        have hall : ta_VP sc k := by
          intro e he he2
          rcases Nat.lt_or_ge e k with y | y
          · rcases he2 with z | z
            · omega
            · exact g4 e y z
          · rw [show e = k by omega]; exact hGd
        exact pk_le ((ta_sg sc 0 k).count 47 + 1) 6 (fun g => h1 hall (by omega) _ (by omega)) (fun g => h0 (fun w => by have := w.2; omega))
      · have e : (ta_sg sc 0 (k + 1)).count 47 = (ta_sg sc 0 k).count 47 + 1 := by
          rw [ta_sg_S, Nat.zero_add, h47, List.count_append, List.count_singleton_self]
        rw [← e]
        have := ih (k + 1) (k + 1) (by omega) (by omega) (Nat.le_refl _) (Or.inr (by rw [Nat.add_sub_cancel]; exact h47)) (fun j x y => by omega) (fun e he h => by
          rcases Nat.lt_or_ge e k with y | y
          · exact g4 e y h
          · rw [show e = k by omega]; exact hGd)
        rw [Nat.sub_self] at this
        exact this
    have e0 : (0 : Int32) + nI k = nI k := by rw [show (0 : Int32) = nI 0 from rfl, nI_add, Nat.zero_add]
    refine br_f (nI_nlt g1 (by omega)) (pk_eq k m (fun g => K (Or.inl g)) (fun g => ⟨by rw [e0]; exact vp_in_nI (by omega) (by omega), ?_⟩))
    rw [e0, nI_clamp (by omega)]
    refine br_c (fun z => K (Or.inr ⟨by omega, z⟩)) (fun z => ⟨vp_in_nI (by omega) (by omega), ?_⟩)
    refine ya_nameChar (fun y => br_f (by decide) (nm_r (nI_1 _) (nm_r (nI_1 k) ?_))) (fun y => br_t rfl (h0 (fun w => y (ta_VP_ch w.1 (by omega) z))))
    have e : (ta_sg sc 0 (k + 1)).count 47 = (ta_sg sc 0 k).count 47 := by
      rw [ta_sg_S, Nat.zero_add, List.count_append, (List.count_eq_zero (l := [sc k])).mpr (fun h => z (List.mem_singleton.mp h).symm), Nat.add_zero]
    rw [← e, show k - s + 1 = k + 1 - s by omega]
    refine ih (k + 1) s (by omega) (by omega) (by omega) gb (fun j a b => ?_) (fun e he h => ?_)
    · rcases Nat.lt_or_ge j k with q | q
      · exact g3 j a q
      · rw [show j = k by omega]; exact y
    · rcases Nat.lt_or_ge e k with q | q
      · exact g4 e q h
      · rw [show e = k by omega] at h; exact absurd h z
theorem ya_validPath {post : Int32 → Prop} {T : List Int32} (hT : T.length < 60) (hsc : ∀ k, k < T.length → sc k = ta_g T k) (h1 : ta_vp T → ∀ k, k < 100 → post (nI k)) (h0 : ¬ ta_vp T → post (-1)) : wpY_validPath post (fa, fb, fl, fe, yc, yo, yb, ct, kd, pr, nm, my, tg, sz, dt, ar, sc, st) 0 (nI T.length) := by
  have e : ta_sg sc 0 T.length = T := by
    rw [← ta_g_sg T]
    conv => lhs; rw [ta_g_sg T]
    exact ta_sg_congr (fun k hk => by rw [Nat.zero_add]; exact hsc k hk)
  have eV : ta_VP sc T.length ↔ ta_VP (ta_g T) T.length := ta_VP_cgI hsc
  refine ⟨T.length + 2, ?_⟩
  exact ya_vp8 hT (fun a b => h1 ⟨eV.mp a, by rw [e] at b; exact b⟩) (fun w => h0 (fun y => w ⟨eV.mpr y.1, by rw [e]; exact y.2⟩)) (T.length + 2) 0 0 (Nat.zero_le _) (by omega) (Nat.le_refl _) (Or.inl rfl) (fun j x y => by omega) (fun e he => by omega)
theorem ya_f84 {post : Int32 → SY → Prop} {J : Int32 → Int32 → Int32 → Int32 → Int32 → Int32 → Int32 → Int32 → (Nat → Int32) → (Nat → Int32) → (Nat → Int32) → (Nat → Int32) → (Nat → Int32) → (Nat → Int32) → (Nat → Int32) → (Nat → Int32) → (Nat → Int32) → (Nat → Int32) → (Nat → Int32) → Prop} {x1 x4 : Int32} {off m j : Nat} (hm : off + m ≤ 64) (hm2 : m ≤ 32)
    (h1 : (∀ i, i < m → sc (off + i) = sc (64 + i)) → post (nI j) (fa, fb, fl, fe, yc, yo, yb, ct, kd, pr, nm, my, tg, sz, dt, ar, sc, st))
    (h0 : (¬ ∀ i, i < m → sc (off + i) = sc (64 + i)) → J (nI (j + 1)) fa fb fl fe yc yo yb ct kd pr nm my tg sz dt ar sc st) :
    ∀ n k x, k ≤ m → m < k + n → ((x = 1 ∧ ∀ i, i < k → sc (off + i) = sc (64 + i)) ∨ (x = 0 ∧ ¬ ∀ i, i < k → sc (off + i) = sc (64 + i))) → wY_findPath_84 post J x1 (nI off) (nI m) x4 (nI j) fa fb fl fe yc yo yb ct kd pr nm my tg sz dt ar sc st n x (nI k) := by
  intro n
  induction n with
  | zero => intro k x _ g; omega
  | succ n ih =>
    intro k x g1 g2 g3
    have e1 : nI off + nI k = nI (off + k) := nI_add _ _
    have e2 : (64 : Int32) + nI k = nI (64 + k) := nI_add 64 k
    refine pk_le m k (fun g => ?_) (fun g => ⟨by rw [e1]; exact vp_in_nI (by omega) (by omega), by rw [e2]; exact vp_in_nI (by omega) (by omega), ?_⟩)
    · have e : k = m := by omega
      subst e
      rcases g3 with ⟨x1, a⟩ | ⟨x0, a⟩
      · exact br_f (by rw [x1]; decide) (h1 a)
      · exact br_t x0 (nm_r (nI_1 j) (h0 a))
    · rw [e1, e2, nI_clamp (n := off + k) (by omega), nI_clamp (n := 64 + k) (by omega)]
      refine br_c (fun z => nm_r (nI_1 k) (ih (k + 1) x (by omega) (by omega) ?_)) (fun z => nm_r (nI_1 k) (ih (k + 1) 0 (by omega) (by omega) (Or.inr ⟨rfl, fun w => z (w k (by omega))⟩)))
      rcases g3 with ⟨x1, a⟩ | ⟨x0, a⟩
      · refine Or.inl ⟨x1, fun i hi => ?_⟩
        rcases Nat.lt_or_ge i k with y | y
        · exact a i y
        · rw [show i = k by omega]; exact z
      · exact Or.inr ⟨x0, fun w => a (fun i hi => w i (by omega))⟩
def ta_fl (f : Nat) (k : Int32) : Prop := (f = 1 → k = 3) ∧ (f = 2 → k ≠ 3)
theorem ya_f11 (H : ta_Tr 8 c kd pr nm P) (hc : c ≤ 8) {post : Int32 → SY → Prop} {f off m : Nat} (hf : f < 3) (hm : off + m ≤ 64) (hm2 : m ≤ 32)
    (h1 : ∀ j, j < c → ta_fl f (kd (8 + j)) → P j = ta_sg sc off m → ∀ sc' st', (∀ k, k < 64 → sc' k = sc k) → post (nI j) (fa, fb, fl, fe, yc, yo, yb, ct, kd, pr, nm, my, tg, sz, dt, ar, sc', st'))
    (h0 : (∀ j, j < c → ta_fl f (kd (8 + j)) → P j ≠ ta_sg sc off m) → ∀ sc' st', (∀ k, k < 64 → sc' k = sc k) → post (-1) (fa, fb, fl, fe, yc, yo, yb, ct, kd, pr, nm, my, tg, sz, dt, ar, sc', st')) :
    ∀ n j sc' st, j ≤ c → c < j + n → (∀ i, i < j → ta_fl f (kd (8 + i)) → P i ≠ ta_sg sc off m) → (∀ k, k < 64 → sc' k = sc k) → wY_findPath_11 post (nI f) (nI off) (nI m) (nI c) n (nI j) fa fb fl fe yc yo yb ct kd pr nm my tg sz dt ar sc' st := by
  intro n
  induction n with
  | zero => intro j _ _ _ g; omega
  | succ n ih =>
    intro j sc' st g1 g2 g3 g4
    have e8 : (8 : Int32) + nI j = nI (8 + j) := nI_add 8 j
    have nx : ∀ sc'' st'', (∀ k, k < 64 → sc'' k = sc k) → j < c → (ta_fl f (kd (8 + j)) → P j ≠ ta_sg sc off m) → wY_findPath_11 post (nI f) (nI off) (nI m) (nI c) n (nI (j + 1)) fa fb fl fe yc yo yb ct kd pr nm my tg sz dt ar sc'' st'' := fun sc'' st'' a hj b =>
      ih (j + 1) sc'' st'' (by omega) (by omega) (fun i hi => by
        rcases Nat.lt_or_ge i j with y | y
        · exact g3 i y
        · rw [show i = j by omega]; exact b) a
    have K : j < c → ta_fl f (kd (8 + j)) → wY_findPath_58 post (wY_findPath_11 post (nI f) (nI off) (nI m) (nI c) n) (nI f) (nI off) (nI m) (nI c) (nI j) fa fb fl fe yc yo yb ct kd pr nm my tg sz dt ar sc' st := by
      intro hj hfl
      have h29 := ta_P_29 H hj
      unfold wY_findPath_58
      refine ya_writePath (t := 1) (off := 64) H hc (by omega) (by omega) hj (fun st'' => ?_)
      have ag : ∀ k, k < 64 → ta_wr sc' 64 (P j) k = sc k := fun k hk => by rw [ta_wr_out (by omega)]; exact g4 k hk
      refine pk_eq (P j).length m (fun e => ⟨m + 1, ?_⟩) (fun e => nm_r (nI_1 j) (nx _ _ ag hj (fun _ w => e (by rw [w, ta_sg_len]))))
      have eqv : (∀ i, i < m → ta_wr sc' 64 (P j) (off + i) = ta_wr sc' 64 (P j) (64 + i)) ↔ P j = ta_sg sc off m := by
        have es : ta_sg (ta_wr sc' 64 (P j)) 64 m = P j := by rw [← e, ta_wr_sg]
        have eo : ta_sg (ta_wr sc' 64 (P j)) off m = ta_sg sc off m := ta_sg_congr (fun k hk => ag _ (by omega))
        constructor
        · intro w
          rw [← es, ← eo]
          exact (ta_sg_congr w).symm
        · intro w
          have := ta_sg_inj (eo.trans (w.symm.trans es.symm))
          exact this.2
      exact ya_f84 hm hm2 (fun w => h1 j hj hfl (eqv.mp w) _ _ ag) (fun w => nx _ _ ag hj (fun _ y => w (eqv.mpr y))) (m + 1) 0 1 (Nat.zero_le _) (by omega) (Or.inl ⟨rfl, fun i hi => by omega⟩)
    have K44 : j < c → (f = 1 → kd (8 + j) = 3) → wY_findPath_44 post (wY_findPath_11 post (nI f) (nI off) (nI m) (nI c) n) (nI f) (nI off) (nI m) (nI c) (nI j) (kd (8 + j)) fa fb fl fe yc yo yb ct kd pr nm my tg sz dt ar sc' st := by
      intro hj h3
      refine pk_eq f 2 (fun w => br_c (fun z => nm_r (nI_1 j) (nx _ _ g4 hj (fun y => absurd z (y.2 w)))) (fun z => K hj ⟨h3, fun _ => z⟩)) (fun w => K hj ⟨h3, fun y => absurd y w⟩)
    refine pk_le c j (fun g => h0 (fun i hi => g3 i (by omega)) _ _ g4) (fun g => ⟨by rw [e8]; exact vp_in_nI (by omega) (by omega), nm_r (e' := kd (8 + j)) (by rw [e8, nI_clamp (by omega)]) ?_⟩)
    exact pk_eq f 1 (fun w => br_c (fun z => K44 g (fun _ => z)) (fun z => nm_r (nI_1 j) (nx _ _ g4 g (fun y => absurd (y.1 w) z)))) (fun w => K44 g (fun y => absurd y w))
theorem ya_findPath (H : ta_Tr 8 c kd pr nm P) (hc : c ≤ 8) (hct : ct 1 = nI c) {post : Int32 → SY → Prop} (f off m : Nat) (hf : f < 3) (hm : off + m ≤ 64) (hm2 : m ≤ 32)
    (h1 : ∀ j, j < c → ta_fl f (kd (8 + j)) → P j = ta_sg sc off m → ∀ sc' st', (∀ k, k < 64 → sc' k = sc k) → post (nI j) (fa, fb, fl, fe, yc, yo, yb, ct, kd, pr, nm, my, tg, sz, dt, ar, sc', st'))
    (h0 : (∀ j, j < c → ta_fl f (kd (8 + j)) → P j ≠ ta_sg sc off m) → ∀ sc' st', (∀ k, k < 64 → sc' k = sc k) → post (-1) (fa, fb, fl, fe, yc, yo, yb, ct, kd, pr, nm, my, tg, sz, dt, ar, sc', st')) :
    wpY_findPath post (fa, fb, fl, fe, yc, yo, yb, ct, kd, pr, nm, my, tg, sz, dt, ar, sc, st) (nI f) (nI off) (nI m) :=
  nm_r hct ⟨c + 1, ya_f11 H hc hf hm hm2 h1 h0 (c + 1) 0 sc st (Nat.zero_le _) (by omega) (fun i hi => by omega) (fun _ _ => rfl)⟩
end
