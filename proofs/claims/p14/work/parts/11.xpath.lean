/-! 11: the component's paths -/
theorem ta_Nd0 {c : Nat} {kd par nm : Nat → Int32} {P : Nat → List Int32} (T : ta_Tr 0 c kd par nm P) {i : Nat} (hi : i < c) : ta_V (nm i) ∧ (P i).count 47 ≤ 5 ∧ ((par i = -1 ∧ P i = ta_t (nm i)) ∨ (∃ q, q < i ∧ par i = nI q ∧ kd q = 3 ∧ P i = P q ++ 47 :: ta_t (nm i))) := by
  have h := T.1 i hi
  unfold ta_Nd at h
  simpa only [Nat.zero_add] using h
theorem ta_cntq {v : Int32} (hv : ta_V v) (L : List Int32) : (L ++ 47 :: ta_t v).count 47 = L.count 47 + 1 := by
  rw [List.count_append, List.count_cons_self, ta_cnt hv]
theorem ta_lenq (v : Int32) (L : List Int32) : (L ++ 47 :: ta_t v).length = L.length + 1 + ta_l v := by
  rw [List.length_append, List.length_cons, ta_t_len]; omega
theorem ta_wr_pre (a : Nat → Int32) (o : Nat) (L M : List Int32) : ta_wr (ta_wr a (o + L.length) M) o L = ta_wr a o (L ++ M) := by
  rw [ta_wr_comm _ (Or.inr (Nat.le_refl _)), ta_wr_app]
theorem ta_m1 {q : Nat} (h : q < 2 ^ 31) : ¬ nI q = -1 := by
  intro e
  have := nI_pos h
  rw [e] at this
  exact this (by decide)
theorem ta_pm (m : Nat) : nI m + (-1) = nI m - 1 := by
  cases m with
  | zero => decide
  | succ m => rw [pk_m1, nI_pred]
section
variable {fa fb fl fe fp fn ft : Int32} {ct kd pr nm md sz tg dt ar pa : Nat → Int32} {P : Nat → List Int32} {c : Nat}
theorem xa_sd (T : ta_Tr 0 c kd pr nm P) (hc : c ≤ 8) {post : Int32 → Prop} : ∀ n d i, i < c → d + (P i).count 47 + 1 ≤ 6 → (P i).count 47 + 1 < n → post (nI (d + (P i).count 47 + 1)) → wX_sourceDepth_4 post fa fb fl fe fp fn ft ct kd pr nm md sz tg dt ar pa n (nI d) (nI i) := by
  intro n
  induction n with
  | zero => intro d i _ _ g; omega
  | succ n ih =>
    intro d i hi h1 h2 hp
    obtain ⟨hv, _, h⟩ := ta_Nd0 T hi
    refine br_f (nI_ge (b := 6) (by omega) (by decide)) (br_f (ta_m1 (by omega)) ⟨vp_in_nI (by omega) (by omega), nm_r (by rw [nI_clamp (by omega)]) (nm_r (nI_1 d) ?_)⟩)
    rcases h with ⟨e, f⟩ | ⟨q, hq, e, _, f⟩
    · rw [e]
      rw [f, ta_cnt hv] at hp
      obtain ⟨n, rfl⟩ : ∃ m, n = m + 1 := ⟨n - 1, by omega⟩
      exact br_c (fun _ => hp) (fun _ => br_t rfl hp)
    · have z := ta_cntq hv (P q)
      rw [← f] at z
      rw [e]
      refine ih (d + 1) q (by omega) (by omega) (by omega) ?_
      rw [show d + 1 + (P q).count 47 + 1 = d + (P i).count 47 + 1 by omega]
      exact hp
theorem xa_sourceDepth (T : ta_Tr 0 c kd pr nm P) (hc : c ≤ 8) {post : Int32 → Prop} {i : Nat} (hi : i < c) (h : post (nI ((P i).count 47 + 1))) : wpX_sourceDepth post (fa, fb, fl, fe, fp, fn, ft, ct, kd, pr, nm, md, sz, tg, dt, ar, pa) (nI i) := by
  have h5 := (T.1 i hi).2.1
  refine ⟨7, xa_sd T hc 7 0 i hi (by omega) (by omega) ?_⟩
  rw [Nat.zero_add]; exact h
theorem xa_sourceDepth0 {post : Int32 → Prop} (h : post 0) : wpX_sourceDepth post (fa, fb, fl, fe, fp, fn, ft, ct, kd, pr, nm, md, sz, tg, dt, ar, pa) (-1) :=
  ⟨1, br_f (by decide) (br_t rfl h)⟩
theorem xa_spl (T : ta_Tr 0 c kd pr nm P) (hc : c ≤ 8) {post : Int32 → Prop} : ∀ n tot i d, i < c → d + (P i).count 47 + 1 ≤ 6 → (P i).count 47 + 1 < n → post (nI (tot + (P i).length + if d = 0 then 0 else 1)) → wX_sourcePathLength_7 post fa fb fl fe fp fn ft ct kd pr nm md sz tg dt ar pa n (nI tot) (nI i) (nI d) := by
  intro n
  induction n with
  | zero => intro tot d i _ _ g; omega
  | succ n ih =>
    intro tot i d hi h1 h2 hp
    obtain ⟨hv, _, h⟩ := ta_Nd0 T hi
    have key : ∀ z : Nat, post (nI (tot + (P i).length + z)) → wX_sourcePathLength_29 post (wX_sourcePathLength_7 post fa fb fl fe fp fn ft ct kd pr nm md sz tg dt ar pa n) (nI tot) (nI i) (nI d) (nI z) fa fb fl fe fp fn ft ct kd pr nm md sz tg dt ar pa := by
      intro z hz
      refine ⟨vp_in_nI (by omega) (by omega), ?_⟩
      rw [nI_clamp (by omega)]
      refine xa_nameLength (nm_r (e' := nI (tot + (ta_l (nm i) + z))) (by rw [nI_add, nI_add]) ⟨vp_in_nI (by omega) (by omega), nm_e (nm_r (nI_1 d) ?_)⟩)
      rcases h with ⟨e, f⟩ | ⟨q, hq, e, _, f⟩
      · rw [e]
        have hl : (P i).length = ta_l (nm i) := by rw [f, ta_t_len]
        rw [hl, Nat.add_assoc] at hz
        obtain ⟨n, rfl⟩ : ∃ m, n = m + 1 := ⟨n - 1, by omega⟩
        exact br_c (fun _ => hz) (fun _ => br_t rfl hz)
      · have zc := ta_cntq hv (P q)
        have zl := ta_lenq (nm i) (P q)
        rw [← f] at zc zl
        rw [e]
        refine ih _ q (d + 1) (by omega) (by omega) (by omega) ?_
        rw [if_neg (by omega), show tot + (ta_l (nm i) + z) + (P q).length + 1 = tot + (P i).length + z by omega]
        exact hz
    refine br_f (nI_ge (b := 6) (by omega) (by decide)) (br_f (ta_m1 (by omega)) ?_)
    refine pk_le d 0 (fun g => ?_) (fun g => ?_)
    · rw [if_pos (by omega)] at hp
      exact key 0 hp
    · rw [if_neg (by omega)] at hp
      exact key 1 hp
theorem xa_sourcePathLength (T : ta_Tr 0 c kd pr nm P) (hc : c ≤ 8) {post : Int32 → Prop} {i : Nat} (hi : i < c) (h : post (nI (P i).length)) : wpX_sourcePathLength post (fa, fb, fl, fe, fp, fn, ft, ct, kd, pr, nm, md, sz, tg, dt, ar, pa) (nI i) := by
  have h5 := (T.1 i hi).2.1
  refine ⟨7, xa_spl T hc 7 0 i 0 hi (by omega) (by omega) ?_⟩
  rw [if_pos rfl, Nat.zero_add, Nat.add_zero]; exact h
theorem xa_l48 {post : Int32 → St2 → Prop} {J : Int32 → Int32 → Int32 → (Nat → Int32) → (Nat → Int32) → (Nat → Int32) → (Nat → Int32) → (Nat → Int32) → (Nat → Int32) → (Nat → Int32) → (Nat → Int32) → (Nat → Int32) → (Nat → Int32) → Prop} {x2 x5 : Int32} {i s : Nat} (hi : i < 8) (hs : s + ta_l (nm i) ≤ 30)
    (h : J (nI s - 1) (pr i) (x5 + 1) ct kd pr nm md sz tg dt ar (if s = 0 then ta_wr pa s (ta_t (nm i)) else upd (ta_wr pa s (ta_t (nm i))) (s - 1) 47)) :
    ∀ n k, k ≤ ta_l (nm i) → ta_l (nm i) < k + n → wX_loadSourcePath_48 post J x2 (nI i) x5 (nI (ta_l (nm i))) (nI s) fa fb fl fe fp fn ft n (nI k) ct kd pr nm md sz tg dt ar (ta_wr pa s (ta_sg (ta_b (nm i)) 0 k)) := by
  have h4 := (ta_l_spec (nm i)).1
  intro n
  induction n with
  | zero => intro k _ g; omega
  | succ n ih =>
    intro k g1 g2
    refine pk_le (ta_l (nm i)) k (fun g => ?_) (fun g => ?_)
    · have e : k = ta_l (nm i) := by omega
      have et : ta_wr pa s (ta_sg (ta_b (nm i)) 0 k) = ta_wr pa s (ta_t (nm i)) := by rw [e]; rfl
      rw [et]
      refine pk_le s 0 (fun w => ?_) (fun w => ?_)
      · rw [if_pos (by omega)] at h
        exact nm_e ⟨vp_in_nI (by omega) (by omega), nm_r (by rw [nI_clamp (by omega)]) (nm_e h)⟩
      · rw [if_neg (by omega)] at h
        have es : nI s - 1 = nI (s - 1) := by
          obtain ⟨m, rfl⟩ : ∃ m, s = m + 1 := ⟨s - 1, by omega⟩
          rw [nI_pred]; rfl
        refine ⟨by rw [es]; exact vp_in_nI (by omega) (by omega), nm_r (e' := upd (ta_wr pa s (ta_t (nm i))) (s - 1) 47) (by rw [es, nI_clamp (by omega)]) ?_⟩
        exact nm_e ⟨vp_in_nI (by omega) (by omega), nm_r (by rw [nI_clamp (by omega)]) (nm_e h)⟩
    · refine ⟨vp_in_nI (by omega) (by omega), ?_⟩
      rw [nI_clamp (by omega)]
      have ei : nI s + nI k = nI (s + k) := nI_add _ _
      refine ⟨by rw [ei]; exact vp_in_nI (by omega) (by omega), nm_r (e' := ta_wr pa s (ta_sg (ta_b (nm i)) 0 (k + 1))) ?_ (nm_r (nI_1 k) (ih (k + 1) (by omega) (by omega)))⟩
      rw [ei, nI_clamp (by omega), ta_sg_S, ← ta_wr_snoc, ta_sg_len, Nat.zero_add]
      rfl
theorem xa_l48z {post : Int32 → St2 → Prop} {J : Int32 → Int32 → Int32 → (Nat → Int32) → (Nat → Int32) → (Nat → Int32) → (Nat → Int32) → (Nat → Int32) → (Nat → Int32) → (Nat → Int32) → (Nat → Int32) → (Nat → Int32) → (Nat → Int32) → Prop} {x2 x5 : Int32} {i s : Nat} (hi : i < 8) (hs : s + ta_l (nm i) ≤ 30)
    (h : J (nI s - 1) (pr i) (x5 + 1) ct kd pr nm md sz tg dt ar (if s = 0 then ta_wr pa s (ta_t (nm i)) else upd (ta_wr pa s (ta_t (nm i))) (s - 1) 47)) :
    wX_loadSourcePath_48 post J x2 (nI i) x5 (nI (ta_l (nm i))) (nI s) fa fb fl fe fp fn ft 5 0 ct kd pr nm md sz tg dt ar pa := by
  have h4 := (ta_l_spec (nm i)).1
  have K := xa_l48 (fa := fa) (fb := fb) (fl := fl) (fe := fe) (fp := fp) (fn := fn) (ft := ft) (post := post) (x2 := x2) hi hs h 5 0 (Nat.zero_le _) (by omega)
  rw [ta_sg_0, ta_wr_nil] at K
  exact K
theorem xa_l14 (T : ta_Tr 0 c kd pr nm P) (hc : c ≤ 8) {post : Int32 → St2 → Prop} {nd : Nat} (hn : nd < c) (h : post (nI (P nd).length) (fa, fb, fl, fe, fp, fn, ft, ct, kd, pr, nm, md, sz, tg, dt, ar, ta_wr pa 0 (P nd))) :
    ∀ n i d R, i < c → d + (P i).count 47 + 1 ≤ 6 → (P i).count 47 + 1 < n → P nd = P i ++ R → wX_loadSourcePath_14 post (nI (P nd).length) fa fb fl fe fp fn ft n (nI (P i).length) (nI i) (nI d) ct kd pr nm md sz tg dt ar (ta_wr pa (P i).length R) := by
  have h29 := ta_P_29 T hn
  intro n
  induction n with
  | zero => intro d i _ _ _ g; omega
  | succ n ih =>
    intro i d R hi h1 h2 hR
    obtain ⟨hv, _, hx⟩ := ta_Nd0 T hi
    have hRl : (P i).length ≤ 29 := by have := congrArg List.length hR; rw [List.length_append] at this; omega
    refine br_f (nI_ge (b := 6) (by omega) (by decide)) (br_f (ta_m1 (by omega)) ⟨vp_in_nI (by omega) (by omega), ?_⟩)
    rw [nI_clamp (by omega)]
    have hl : ta_l (nm i) ≤ (P i).length := by
      rcases hx with ⟨_, f⟩ | ⟨q, _, _, _, f⟩
      · rw [f, ta_t_len]; exact Nat.le_refl _
      · rw [f, ta_lenq]; omega
    have h4 := (ta_l_spec (nm i)).1
    refine xa_nameLength (nm_r (pk_sub hl) ⟨5, ?_⟩)
    refine xa_l48z (nm := nm) (i := i) (s := (P i).length - ta_l (nm i)) (by omega) (by omega) ?_
    rcases hx with ⟨e, f⟩ | ⟨q, hq, e, _, f⟩
    · have hl0 : (P i).length - ta_l (nm i) = 0 := by rw [f, ta_t_len]; omega
      rw [hl0, if_pos rfl, e]
      have hw : ta_wr (ta_wr pa (P i).length R) 0 (ta_t (nm i)) = ta_wr pa 0 (P nd) := by
        rw [hR, ← ta_wr_pre, Nat.zero_add, f]
      rw [hw]
      obtain ⟨n, rfl⟩ : ∃ m, n = m + 1 := ⟨n - 1, by omega⟩
      exact br_c (fun _ => h) (fun _ => br_t rfl h)
    · have zc := ta_cntq hv (P q)
      have zl := ta_lenq (nm i) (P q)
      rw [← f] at zc zl
      have hs : (P i).length - ta_l (nm i) = (P q).length + 1 := by omega
      rw [hs, if_neg (by omega), nI_pred, e, nI_1]
      have hw : upd (ta_wr (ta_wr pa (P i).length R) ((P q).length + 1) (ta_t (nm i))) ((P q).length + 1 - 1) 47 = ta_wr pa (P q).length (47 :: ta_t (nm i) ++ R) := by
        have e1 : (P i).length = (P q).length + 1 + (ta_t (nm i)).length := by rw [ta_t_len]; omega
        rw [e1, ta_wr_pre, show (P q).length + 1 - 1 = (P q).length by omega, ta_wr_1]
        exact ta_wr_pre pa (P q).length [47] (ta_t (nm i) ++ R)
      rw [hw]
      refine ih q (d + 1) _ (by omega) (by omega) (by omega) ?_
      rw [hR, f, List.append_assoc]
theorem xa_loadSourcePath (T : ta_Tr 0 c kd pr nm P) (hc : c ≤ 8) {post : Int32 → St2 → Prop} {i : Nat} (hi : i < c) (h : post (nI (P i).length) (fa, fb, fl, fe, fp, fn, ft, ct, kd, pr, nm, md, sz, tg, dt, ar, ta_wr pa 0 (P i))) : wpX_loadSourcePath post (fa, fb, fl, fe, fp, fn, ft, ct, kd, pr, nm, md, sz, tg, dt, ar, pa) (nI i) := by
  unfold wpX_loadSourcePath
  have h5 := (T.1 i hi).2.1
  refine xa_sourcePathLength T hc hi ⟨7, ?_⟩
  have := xa_l14 T hc hi h 7 i 0 [] hi (by omega) (by omega) (by simp)
  rw [ta_wr_nil] at this
  exact this
theorem xa_s15 {post : Int32 → Prop} {g : Nat → Int32} (hg : ∀ s, s ≤ 10 → pa s = g s) : ∀ m s n, (s + m = 11 ∨ (m = 0 ∧ 11 ≤ s)) → s < 100 → m < n → post (ta_fs g s m) → wX_splitPlace_15 post fa fb fl fe fp fn ft ct kd pr nm md sz tg dt ar pa n (nI s) := by
  intro m
  induction m with
  | zero =>
    intro s n h1 h3 h2 hp
    obtain ⟨n, rfl⟩ : ∃ k, n = k + 1 := ⟨n - 1, by omega⟩
    exact br_t (nI_lt (a := 10) (by omega) (by omega)) hp
  | succ m ih =>
    intro s n h1 h3 h2 hp
    obtain ⟨n, rfl⟩ : ∃ k, n = k + 1 := ⟨n - 1, by omega⟩
    have hs : s ≤ 10 := by omega
    refine br_f (nI_nlt (a := 10) (by omega) (by decide)) ⟨vp_in_nI (by omega) (by omega), ?_⟩
    rw [nI_clamp (by omega), hg s hs]
    have hp : post (if g s = 47 then nI s else ta_fs g (s + 1) m) := hp
    refine br_c (fun z => ?_) (fun z => ?_)
    · rw [if_pos z] at hp; exact hp
    · rw [if_neg z] at hp
      exact nm_r (nI_1 s) (ih (s + 1) n (by omega) (by omega) (by omega) hp)
theorem xa_splitPlace {post : Int32 → Prop} {L : List Int32} (hL : L.length ≤ 29) (hpa : ∀ k, k < L.length → pa k = L.getD k 0) (h : post (ta_sp L)) : wpX_splitPlace post (fa, fb, fl, fe, fp, fn, ft, ct, kd, pr, nm, md, sz, tg, dt, ar, pa) (nI L.length) := by
  unfold ta_sp at h
  refine pk_lt 12 L.length (fun g => ?_) (fun g => ?_)
  · rw [if_neg (by omega)] at h
    refine nm_r (e' := nI (L.length - 13)) ?_ ⟨30, ?_⟩
    · rw [show (12 : Int32) = nI 12 from rfl, pk_sub (by omega), show (1 : Int32) = nI 1 from rfl, pk_sub (by omega)]; rfl
    · exact xa_s15 (g := fun k => L.getD k 0) (fun s hs => hpa s (by omega)) (24 - L.length) (L.length - 13) 30 (by omega) (by omega) (by omega) h
  · rw [if_pos g] at h
    exact h
theorem xa_pathsFit (T : ta_Tr 0 c kd pr nm P) (hc : c ≤ 8) (X : ∀ i, i < c → ta_Nx 0 kd sz tg i) {post : Int32 → St2 → Prop} {i : Nat} (hi : i < c)
    (h1 : ta_ft kd tg P i → post 1 (fa, fb, fl, fe, fp, fn, ft, ct, kd, pr, nm, md, sz, tg, dt, ar, ta_wr pa 0 (P i)))
    (h0 : ¬ ta_ft kd tg P i → post 0 (fa, fb, fl, fe, fp, fn, ft, ct, kd, pr, nm, md, sz, tg, dt, ar, ta_wr pa 0 (P i))) : wpX_pathsFit post (fa, fb, fl, fe, fp, fn, ft, ct, kd, pr, nm, md, sz, tg, dt, ar, pa) (nI i) := by
  unfold wpX_pathsFit
  refine xa_loadSourcePath T hc hi ?_
  refine xa_splitPlace (ta_P_29 T hi) (fun k hk => ta_g_wr hk) (br_c (fun z => h0 (fun w => w.1 z)) (fun z => ⟨vp_in_nI (by omega) (by omega), ?_⟩))
  rw [nI_clamp (by omega)]
  refine br_c (fun k2 => ⟨vp_in_nI (by omega) (by omega), ?_⟩) (fun k2 => h1 ⟨z, fun w => absurd w k2⟩)
  obtain ⟨_, hx, _⟩ := X i hi
  simp only [Nat.zero_add] at hx
  obtain ⟨q, hq, e, _⟩ := hx k2
  have en : ta_n (tg i) = q := by unfold ta_n; rw [e, nI_clamp (by omega)]
  rw [e]
  have h29 := ta_P_29 T (show q < c by omega)
  refine xa_sourcePathLength T hc (by omega) (pk_lt 12 (P q).length (fun g => h0 (fun w => ?_)) (fun g => h1 ⟨z, fun _ => ?_⟩))
  · have := w.2 k2
    rw [en] at this
    omega
  · rw [en]; exact g
end
