/-! 15: the component's entries -/
section
variable {fa fb fl fe fp fn ft : Int32} {ct kd pr nm md sz tg dt ar pa : Nat → Int32} {P : Nat → List Int32} {c : Nat}
/-- the component that ends at k is a name -/
def ta_Gd (a : Nat → Int32) (k : Nat) : Prop := ∃ s, s < k ∧ k ≤ s + 4 ∧ (s = 0 ∨ a (s - 1) = 47) ∧ ∀ j, s ≤ j → j < k → ta_nc (a j)
theorem ta_St_Gd {a : Nat → Int32} {s k : Nat} (hs : ta_St a s k) : ta_Gd a k ↔ (1 ≤ k - s ∧ k - s ≤ 4 ∧ ∀ j, j < k - s → ta_nc (a (s + j))) := by
  constructor
  · rintro ⟨s', h1, h2, h3, h4⟩
    have V : s' = s := by
      obtain ⟨g1, g2, g3⟩ := hs
      rcases Nat.lt_trichotomy s' s with x | x | x
      · rcases g2 with y | y
        · omega
        · exact absurd y (ta_nc_ne (h4 (s - 1) (by omega) (by omega)))
      · exact x
      · rcases h3 with y | y
        · omega
        · exact absurd y (g3 (s' - 1) (by omega) (by omega))
    subst V
    exact ⟨by omega, by omega, fun j hj => h4 (s' + j) (by omega) (by omega)⟩
  · rintro ⟨h1, h2, h3⟩
    refine ⟨s, by omega, by omega, hs.2.1, fun j x y => ?_⟩
    have := h3 (j - s) (by omega)
    rwa [show s + (j - s) = j by omega] at this
theorem xa_vp7 {post : Int32 → Prop} {m : Nat} (hm : m < 30) (h1 : ta_VP pa m → (ta_sg pa 0 m).count 47 ≤ 5 → post 1) (h0 : ¬ (ta_VP pa m ∧ (ta_sg pa 0 m).count 47 ≤ 5) → post 0) :
    ∀ n k s, k ≤ m → m + 1 < k + n → ta_St pa s k → (∀ e, e < k → pa e = 47 → ta_Gd pa e) → wX_isValidPath_7 post (nI m) fa fb fl fe fp fn ft ct kd pr nm md sz tg dt ar pa n (nI ((ta_sg pa 0 k).count 47)) (nI s) (nI k) := by
  intro n
  induction n with
  | zero => intro k s _ g; omega
  | succ n ih =>
    intro k s g1 g2 g3 g4
    have hcl : ∀ j, (ta_sg pa 0 j).count 47 ≤ j := fun j => Nat.le_trans List.count_le_length (by rw [ta_sg_len]; exact Nat.le_refl _)
    have hck := hcl k
    have hs := g3.1
    have K : (k = m ∨ (k < m ∧ pa k = 47)) → wX_isValidPath_31 post (wX_isValidPath_7 post (nI m) fa fb fl fe fp fn ft ct kd pr nm md sz tg dt ar pa n) (nI m) (nI ((ta_sg pa 0 k).count 47)) (nI s) (nI k) fa fb fl fe fp fn ft ct kd pr nm md sz tg dt ar pa := by
      intro hk
      unfold wX_isValidPath_31
      refine xa_packName_path s (k - s) rfl (by rw [show s + (k - s) = k by omega]) (by omega) (fun a1 a4 ac => ?_) (fun nv => br_t rfl (h0 (fun w => ?_)))
      · have hGd : ta_Gd pa k := (ta_St_Gd g3).mpr ⟨a1, a4, ac⟩
        have hV := (ta_pk_V a1 a4 ac).1
        refine br_f (ta_V_ne hV) (nm_r (nI_1 _) (nm_r (nI_1 k) (nm_r (nI_1 k) ?_)))
        rcases hk with hk | ⟨hk, h47⟩
        · subst hk
          obtain ⟨n, rfl⟩ : ∃ q, n = q + 1 := ⟨n - 1, by omega⟩
          refine br_t (nI_lt (by omega) (by omega)) ?_
          have hall : ta_VP pa k := by
            intro e he he2
            rcases Nat.lt_or_ge e k with y | y
            · rcases he2 with z | z
              · omega
              · exact g4 e y z
            · rw [show e = k by omega]; exact hGd
          exact pk_lt 6 ((ta_sg pa 0 k).count 47 + 1) (fun g => h0 (fun w => by have := w.2; omega)) (fun g => h1 hall (by omega))
        · have e : (ta_sg pa 0 (k + 1)).count 47 = (ta_sg pa 0 k).count 47 + 1 := by
            rw [ta_sg_S, Nat.zero_add, h47, List.count_append, List.count_singleton_self]
          rw [← e]
          refine ih (k + 1) (k + 1) (by omega) (by omega) ⟨Nat.le_refl _, Or.inr (by rw [Nat.add_sub_cancel]; exact h47), fun j x y => by omega⟩ (fun e he h => ?_)
          rcases Nat.lt_or_ge e k with y | y
          · exact g4 e y h
          · rw [show e = k by omega]; exact hGd
      · have hGd : ta_Gd pa k := w.1 k g1 (by
          rcases hk with x | x
          · exact Or.inl x
          · exact Or.inr x.2)
        exact nv ((ta_St_Gd g3).mp hGd)
    refine br_f (nI_nlt g1 (by omega)) (pk_eq k m (fun g => K (Or.inl g)) (fun g => ⟨vp_in_nI (by omega) (by omega), ?_⟩))
    rw [nI_clamp (by omega)]
    refine br_c (fun z => K (Or.inr ⟨by omega, z⟩)) (fun z => nm_r (nI_1 k) ?_)
    have e : (ta_sg pa 0 (k + 1)).count 47 = (ta_sg pa 0 k).count 47 := by
      rw [ta_sg_S, Nat.zero_add, List.count_append, (List.count_eq_zero (l := [pa k])).mpr (fun h => z (List.mem_singleton.mp h).symm), Nat.add_zero]
    rw [← e]
    refine ih (k + 1) s (by omega) (by omega) ⟨by omega, g3.2.1, fun j x y => ?_⟩ (fun e he h => ?_)
    · rcases Nat.lt_or_ge j k with q | q
      · exact g3.2.2 j x q
      · rw [show j = k by omega]; exact z
    · rcases Nat.lt_or_ge e k with y | y
      · exact g4 e y h
      · rw [show e = k by omega] at h; exact absurd h z
theorem xa_isValidPath {post : Int32 → Prop} {T : List Int32} (hT : T.length < 30) (hpa : ∀ k, k < T.length → pa k = ta_g T k) (h1 : ta_vp T → post 1) (h0 : ¬ ta_vp T → post 0) : wpX_isValidPath post (fa, fb, fl, fe, fp, fn, ft, ct, kd, pr, nm, md, sz, tg, dt, ar, pa) (nI T.length) := by
  have e : ta_sg pa 0 T.length = T := by
    rw [← ta_g_sg T]
    conv => lhs; rw [ta_g_sg T]
    exact ta_sg_congr (fun k hk => by rw [Nat.zero_add]; exact hpa k hk)
  have eV : ta_VP pa T.length ↔ ta_VP (ta_g T) T.length := ta_VP_cgI hpa
  refine ⟨T.length + 2, ?_⟩
  refine xa_vp7 hT (fun a b => h1 ⟨eV.mp a, by rw [e] at b; exact b⟩) (fun w => h0 (fun y => w ⟨eV.mpr y.1, by rw [e]; exact y.2⟩)) (T.length + 2) 0 0 (Nat.zero_le _) (by omega) ⟨Nat.le_refl _, Or.inl rfl, fun j x y => by omega⟩ (fun e he => by omega)
theorem xa_lns {post : Int32 → Prop} {m : Nat} (hm : m < 30) (h : ∀ s, ta_St pa s m → post (nI s)) : ∀ s n, s ≤ m → s < n → (∀ j, s ≤ j → j < m → pa j ≠ 47) → wX_lastNameStart_2 post fa fb fl fe fp fn ft ct kd pr nm md sz tg dt ar pa n (nI s) := by
  intro s
  induction s with
  | zero =>
    intro n _ hn g
    obtain ⟨n, rfl⟩ : ∃ q, n = q + 1 := ⟨n - 1, by omega⟩
    exact br_t (by decide) (h 0 ⟨Nat.zero_le _, Or.inl rfl, g⟩)
  | succ s ih =>
    intro n hs hn g
    obtain ⟨n, rfl⟩ : ∃ q, n = q + 1 := ⟨n - 1, by omega⟩
    refine br_f (nI_nle (by omega) (by omega)) ?_
    rw [nI_pred]
    refine ⟨vp_in_nI (by omega) (by omega), ?_⟩
    rw [nI_clamp (by omega)]
    refine br_c (fun z => h (s + 1) ⟨hs, Or.inr (by rw [Nat.add_sub_cancel]; exact z), g⟩) (fun z => nm_r (pk_m1 s) (ih n (by omega) (by omega) (fun j x y => ?_)))
    rcases Nat.lt_or_ge s j with q | q
    · exact g j q y
    · rw [show j = s by omega]; exact z
theorem xa_lastNameStart {post : Int32 → Prop} {T : List Int32} (hT : T.length < 30) (hpa : ∀ k, k < T.length → pa k = ta_g T k) (h : ∀ s, ta_St (ta_g T) s T.length → post (nI s)) : wpX_lastNameStart post (fa, fb, fl, fe, fp, fn, ft, ct, kd, pr, nm, md, sz, tg, dt, ar, pa) (nI T.length) :=
  ⟨T.length + 1, xa_lns hT (fun s hs => h s (ta_St_cg hpa hs)) T.length (T.length + 1) (Nat.le_refl _) (by omega) (fun j x y => by omega)⟩
theorem xa_fp_path (H : ta_Tr 8 c kd pr nm P) (hc : c ≤ 8) (hct : ct 1 = nI c) {post : Int32 → Prop} {o m : Nat} (hm : o + m ≤ 30) (h : ∀ r, ta_Fd c P (ta_sg pa o m) r → post r) :
    ∀ n k s nd, k ≤ m → m + 1 < k + n → s ≤ k → (∀ j, s ≤ j → j < k → pa (o + j) ≠ 47) → ta_At pr nm P c pa o s nd → wX_findPath_9 post (nI (o + m)) fa fb fl fe fp fn ft ct kd pr nm md sz tg dt ar pa n nd (nI (o + s)) (nI (o + k)) := by
  intro n
  induction n with
  | zero => intro k s nd _ g; omega
  | succ n ih =>
    intro k s nd g1 g2 g3 g4 g5
    have K : (k = m ∨ (k < m ∧ pa (o + k) = 47)) → wX_findPath_30 post (wX_findPath_9 post (nI (o + m)) fa fb fl fe fp fn ft ct kd pr nm md sz tg dt ar pa n) (nI (o + m)) nd (nI (o + s)) (nI (o + k)) fa fb fl fe fp fn ft ct kd pr nm md sz tg dt ar pa := by
      intro hk
      have hk' : k = m ∨ pa (o + k) = 47 := hk.elim Or.inl (fun x => Or.inr x.2)
      unfold wX_findPath_30
      refine xa_packName_path (o + s) (k - s) rfl (by rw [show o + s + (k - s) = o + k by omega]) (by omega) (fun a1 a4 ac => ?_) (fun nv => ?_)
      · obtain ⟨hV, hT⟩ := ta_pk_V a1 a4 ac
        refine xa_findChild (t := 1) (by omega) hct hc (fun j hj e1 e2 => ?_) (fun no => br_t rfl (h _ (Or.inr ⟨?_, rfl⟩)))
        · have hP : P j = ta_sg pa o k := ta_At_to H (by omega) g5 g3 hj e1 (by rw [show nm (8 + j) = _ from e2]; exact hT)
          refine br_f (fun z => nI_pos (n := j) (by omega) (by rw [z]; decide)) (nm_r (nI_1 (o + k)) (nm_r (nI_1 (o + k)) ?_))
          rcases hk with hk | ⟨hk, h47⟩
          · subst hk
            obtain ⟨n, rfl⟩ : ∃ q, n = q + 1 := ⟨n - 1, by omega⟩
            exact br_t (nI_lt (by omega) (by omega)) (h _ (Or.inl ⟨j, hj, hP, rfl⟩))
          · exact ih (k + 1) (k + 1) (nI j) (by omega) (by omega) (Nat.le_refl _) (fun q x y => by omega) (Or.inr ⟨by omega, by rw [Nat.add_sub_cancel]; exact h47, j, hj, rfl, by rw [Nat.add_sub_cancel]; exact hP⟩)
        · refine ta_Fd_no H (by omega) g5 g3 g1 g4 hk' (fun j hj e1 e2 => no j hj e1 ?_)
          exact ta_t_inj (H.1 j hj).1 hV (e2.trans hT.symm)
      · refine xa_findChild (t := 1) (by omega) hct hc (fun j hj e1 e2 => absurd e2 (ta_V_ne (H.1 j hj).1)) (fun no => br_t rfl (h _ (Or.inr ⟨?_, rfl⟩)))
        refine ta_Fd_no H (by omega) g5 g3 g1 g4 hk' (fun j hj e1 e2 => nv ?_)
        have hv := (H.1 j hj).1
        have hl : ta_l (nm (8 + j)) = k - s := by have := congrArg List.length e2; rwa [ta_t_len, ta_sg_len] at this
        have h4 := (ta_l_spec (nm (8 + j))).1
        have h1 := hv.1
        refine ⟨by omega, by omega, fun q hq => ?_⟩
        exact ta_t_mem hv (by rw [e2]; exact ta_sg_mem.mpr ⟨q, hq, rfl⟩)
    refine br_f (nI_nlt (by omega) (by omega)) (pk_eq (o + k) (o + m) (fun g => K (Or.inl (by omega))) (fun g => ⟨vp_in_nI (by omega) (by omega), ?_⟩))
    rw [nI_clamp (by omega)]
    refine br_c (fun z => K (Or.inr ⟨by omega, z⟩)) (fun z => nm_r (nI_1 (o + k)) (ih (k + 1) s nd (by omega) (by omega) (by omega) (fun j x y => ?_) g5))
    rcases Nat.lt_or_ge j k with q | q
    · exact g4 j x q
    · rw [show j = k by omega]; exact z
theorem xa_findPath_path (H : ta_Tr 8 c kd pr nm P) (hc : c ≤ 8) (hct : ct 1 = nI c) {post : Int32 → Prop} {p1 p2 : Int32} (o m : Nat) (e1 : p1 = nI o) (e2 : p2 = nI (o + m)) (hm : o + m ≤ 30) (h : ∀ r, ta_Fd c P (ta_sg pa o m) r → post r) :
    wpX_findPath post (fa, fb, fl, fe, fp, fn, ft, ct, kd, pr, nm, md, sz, tg, dt, ar, pa) p1 p2 := by
  subst e1 e2
  exact ⟨m + 2, xa_fp_path H hc hct hm h (m + 2) 0 0 (-1) (Nat.zero_le _) (by omega) (Nat.le_refl _) (fun j x y => by omega) (Or.inl ⟨rfl, rfl⟩)⟩
theorem xa_fp_archive (H : ta_Tr 8 c kd pr nm P) (hc : c ≤ 8) (hct : ct 1 = nI c) {post : Int32 → Prop} {o m : Nat} (hm : o + m ≤ 768) (h : ∀ r, ta_Fd c P (ta_sg ar o m) r → post r) :
    ∀ n k s nd, k ≤ m → m + 1 < k + n → s ≤ k → (∀ j, s ≤ j → j < k → ar (o + j) ≠ 47) → ta_At pr nm P c ar o s nd → wX_findPath_2_9 post (nI (o + m)) fa fb fl fe fp fn ft ct kd pr nm md sz tg dt ar pa n nd (nI (o + s)) (nI (o + k)) := by
  intro n
  induction n with
  | zero => intro k s nd _ g; omega
  | succ n ih =>
    intro k s nd g1 g2 g3 g4 g5
    have K : (k = m ∨ (k < m ∧ ar (o + k) = 47)) → wX_findPath_2_30 post (wX_findPath_2_9 post (nI (o + m)) fa fb fl fe fp fn ft ct kd pr nm md sz tg dt ar pa n) (nI (o + m)) nd (nI (o + s)) (nI (o + k)) fa fb fl fe fp fn ft ct kd pr nm md sz tg dt ar pa := by
      intro hk
      have hk' : k = m ∨ ar (o + k) = 47 := hk.elim Or.inl (fun x => Or.inr x.2)
      unfold wX_findPath_2_30
      refine xa_packName_archive (o + s) (k - s) rfl (by rw [show o + s + (k - s) = o + k by omega]) (by omega) (fun a1 a4 ac => ?_) (fun nv => ?_)
      · obtain ⟨hV, hT⟩ := ta_pk_V a1 a4 ac
        refine xa_findChild (t := 1) (by omega) hct hc (fun j hj e1 e2 => ?_) (fun no => br_t rfl (h _ (Or.inr ⟨?_, rfl⟩)))
        · have hP : P j = ta_sg ar o k := ta_At_to H (by omega) g5 g3 hj e1 (by rw [show nm (8 + j) = _ from e2]; exact hT)
          refine br_f (fun z => nI_pos (n := j) (by omega) (by rw [z]; decide)) (nm_r (nI_1 (o + k)) (nm_r (nI_1 (o + k)) ?_))
          rcases hk with hk | ⟨hk, h47⟩
          · subst hk
            obtain ⟨n, rfl⟩ : ∃ q, n = q + 1 := ⟨n - 1, by omega⟩
            exact br_t (nI_lt (by omega) (by omega)) (h _ (Or.inl ⟨j, hj, hP, rfl⟩))
          · exact ih (k + 1) (k + 1) (nI j) (by omega) (by omega) (Nat.le_refl _) (fun q x y => by omega) (Or.inr ⟨by omega, by rw [Nat.add_sub_cancel]; exact h47, j, hj, rfl, by rw [Nat.add_sub_cancel]; exact hP⟩)
        · refine ta_Fd_no H (by omega) g5 g3 g1 g4 hk' (fun j hj e1 e2 => no j hj e1 ?_)
          exact ta_t_inj (H.1 j hj).1 hV (e2.trans hT.symm)
      · refine xa_findChild (t := 1) (by omega) hct hc (fun j hj e1 e2 => absurd e2 (ta_V_ne (H.1 j hj).1)) (fun no => br_t rfl (h _ (Or.inr ⟨?_, rfl⟩)))
        refine ta_Fd_no H (by omega) g5 g3 g1 g4 hk' (fun j hj e1 e2 => nv ?_)
        have hv := (H.1 j hj).1
        have hl : ta_l (nm (8 + j)) = k - s := by have := congrArg List.length e2; rwa [ta_t_len, ta_sg_len] at this
        have h4 := (ta_l_spec (nm (8 + j))).1
        have h1 := hv.1
        refine ⟨by omega, by omega, fun q hq => ?_⟩
        exact ta_t_mem hv (by rw [e2]; exact ta_sg_mem.mpr ⟨q, hq, rfl⟩)
    refine br_f (nI_nlt (by omega) (by omega)) (pk_eq (o + k) (o + m) (fun g => K (Or.inl (by omega))) (fun g => ⟨vp_in_nI (by omega) (by omega), ?_⟩))
    rw [nI_clamp (by omega)]
    refine br_c (fun z => K (Or.inr ⟨by omega, z⟩)) (fun z => nm_r (nI_1 (o + k)) (ih (k + 1) s nd (by omega) (by omega) (by omega) (fun j x y => ?_) g5))
    rcases Nat.lt_or_ge j k with q | q
    · exact g4 j x q
    · rw [show j = k by omega]; exact z
theorem xa_findPath_archive (H : ta_Tr 8 c kd pr nm P) (hc : c ≤ 8) (hct : ct 1 = nI c) {post : Int32 → Prop} {p1 p2 : Int32} (o m : Nat) (e1 : p1 = nI o) (e2 : p2 = nI (o + m)) (hm : o + m ≤ 768) (h : ∀ r, ta_Fd c P (ta_sg ar o m) r → post r) :
    wpX_findPath_2 post (fa, fb, fl, fe, fp, fn, ft, ct, kd, pr, nm, md, sz, tg, dt, ar, pa) p1 p2 := by
  subst e1 e2
  exact ⟨m + 2, xa_fp_archive H hc hct hm h (m + 2) 0 0 (-1) (Nat.zero_le _) (by omega) (Nat.le_refl _) (fun j x y => by omega) (Or.inl ⟨rfl, rfl⟩)⟩
/-- the target of a header, or none -/
theorem xa_linkFault (H : ta_Tr 8 c kd pr nm P) (hc : c ≤ 8) (hct : ct 1 = nI c) (X : ∀ i, i < c → ta_Nx 8 kd sz tg i) {post : Int32 → St2 → Prop} {o : Nat} (ho : o + 64 ≤ 768)
    (h1 : ∀ t, ta_Lk ar o c kd tg P t → post 0 (fa, fb, fl, fe, fp, fn, t, ct, kd, pr, nm, md, sz, tg, dt, ar, pa))
    (h0 : (∀ t, ¬ ta_Lk ar o c kd tg P t) → ∀ ft', post (-10) (fa, fb, fl, fe, fp, fn, ft', ct, kd, pr, nm, md, sz, tg, dt, ar, pa)) :
    wpX_linkFault post (fa, fb, fl, fe, fp, fn, ft, ct, kd, pr, nm, md, sz, tg, dt, ar, pa) (nI o) := by
  have e26 : nI o + 26 = nI (o + 26) := nI_add o 26
  have b := (ta_tl_spec ar 12 (o + 27)).1
  refine nm_r (nI_add o 27) ⟨by rw [e26]; exact vp_in_nI (by omega) (by omega), ?_⟩
  rw [e26, nI_clamp (by omega)]
  refine br_c (fun t1 => ?_) (fun t1 => ?_)
  · refine xa_textLength 12 rfl (by omega) ?_
    refine xa_isZero (o + 27 + ta_tl ar (o + 27) 12) (12 - ta_tl ar (o + 27) 12) (nI_add _ _) (by rw [show o + 27 + ta_tl ar (o + 27) 12 + (12 - ta_tl ar (o + 27) 12) = o + 27 + 12 by omega]; exact nI_add (o + 27) 12) (by omega) (fun wf => br_f (by decide) ?_) (fun wf => br_t rfl (h0 (fun t q => ?_) _))
    · refine xa_findPath_archive H hc hct (o + 27) (ta_tl ar (o + 27) 12) rfl (nI_add _ _) (by omega) (fun r hr => ?_)
      rcases hr with ⟨j, hj, hP, rfl⟩ | ⟨no, rfl⟩
      · refine xa_fileBehind (t := 1) (by omega) hct hc (fun q hq e k3 k2 => ?_) (fun q hq e k3 k2 => ?_) (fun w => br_t rfl (h0 (fun t q => ?_) _))
        · have : j = q := (nI_eq (by omega) (by omega)).mp e
          subst this
          have k3 : kd (8 + j) ≠ 3 := k3
          have k2 : kd (8 + j) = 2 := k2
          obtain ⟨g, g1, g2, _⟩ := (X j hj).2.1 k2
          refine br_f (fun z => nI_pos (n := g) (by omega) (by rw [← g2, show tg (8 + j) = -2 from z]; decide)) (h1 _ (Or.inr ⟨t1, wf, j, hj, hP, k3, ?_⟩))
          rw [if_pos k2]
        · have : j = q := (nI_eq (by omega) (by omega)).mp e
          subst this
          have k3 : kd (8 + j) ≠ 3 := k3
          have k2 : kd (8 + j) ≠ 2 := k2
          refine br_f (fun z => nI_pos (n := j) (by omega) (by rw [z]; decide)) (h1 _ (Or.inr ⟨t1, wf, j, hj, hP, k3, ?_⟩))
          rw [if_neg k2]
        · rcases q with ⟨q, _⟩ | ⟨_, _, i, hi, hPi, k3, _⟩
          · exact q t1
          · have : i = j := ta_P_inj H i j hi hj (hPi.trans hP.symm)
            subst this
            exact k3 (w i hi rfl)
      · refine xa_fileBehind (t := 1) (by omega) hct hc (fun q hq e _ _ => ?_) (fun q hq e _ _ => ?_) (fun w => br_t rfl (h0 (fun t q => ?_) _))
        · exact absurd (show nI q < 0 by rw [← e]; decide) (nI_pos (by omega))
        · exact absurd (show nI q < 0 by rw [← e]; decide) (nI_pos (by omega))
        · rcases q with ⟨q, _⟩ | ⟨_, _, i, hi, hPi, _⟩
          · exact q t1
          · exact no i hi hPi
    · rcases q with ⟨q, _⟩ | ⟨_, q, _⟩
      · exact q t1
      · exact wf q
  · refine xa_isZero (o + 27) 12 rfl (nI_add (o + 27) 12) (by omega) (fun z => br_f (by decide) (h1 _ (Or.inl ⟨t1, z, rfl⟩))) (fun z => br_t rfl (h0 (fun t q => ?_) _))
    rcases q with ⟨_, q, _⟩ | ⟨q, _⟩
    · exact z q
    · exact t1 q
end
