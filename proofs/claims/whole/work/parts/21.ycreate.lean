/-! 21: the reference's create -/
theorem ta_upd_same {a : Nat → Int32} {k : Nat} {x : Int32} (h : a k = x) : upd a k x = a := by
  funext j
  unfold upd
  by_cases z : j = k
  · rw [if_pos z, z, h]
  · rw [if_neg z]
theorem ta_mg_upd {a : Nat → Int32} {o : Nat} (h : a (o + 44) = 0) : upd (upd (upd (upd (upd (upd (upd a (o + 39) 117) (o + 40) 115) (o + 41) 116) (o + 42) 97) (o + 43) 114) (o + 45) 48) (o + 46) 48 = ta_wr a (o + 39) ta_mg := by
  have e : ∀ (L : List Int32) (x : Int32) (k : Nat), L.length = k → ta_wr a (o + 39) (L ++ [x]) = upd (ta_wr a (o + 39) L) (o + 39 + k) x := fun L x k hk => by rw [← ta_wr_snoc, hk]
  have m : ta_mg = [117, 115, 116, 97, 114, 0, 48] ++ [48] := rfl
  rw [m, e _ _ 7 rfl, show ([117, 115, 116, 97, 114, 0, 48] : List Int32) = [117, 115, 116, 97, 114, 0] ++ [48] from rfl, e _ _ 6 rfl,
    show ([117, 115, 116, 97, 114, 0] : List Int32) = [117, 115, 116, 97, 114] ++ [0] from rfl, e _ _ 5 rfl,
    show ([117, 115, 116, 97, 114] : List Int32) = [117, 115, 116, 97] ++ [114] from rfl, e _ _ 4 rfl,
    show ([117, 115, 116, 97] : List Int32) = [117, 115, 116] ++ [97] from rfl, e _ _ 3 rfl,
    show ([117, 115, 116] : List Int32) = [117, 115] ++ [116] from rfl, e _ _ 2 rfl,
    show ([117, 115] : List Int32) = [117] ++ [115] from rfl, e _ _ 1 rfl, ← ta_wr_1]
  have z : upd (upd (upd (upd (upd a (o + 39) 117) (o + 39 + 1) 115) (o + 39 + 2) 116) (o + 39 + 3) 97) (o + 39 + 4) 114 (o + 39 + 5) = 0 := by
    rw [pk_un (by omega), pk_un (by omega), pk_un (by omega), pk_un (by omega), pk_un (by omega)]
    exact h
  rw [ta_upd_same z]
section
variable {fa fb fl fe yc yo yb : Int32} {ct kd pr nm my tg sz dt ar sc st : Nat → Int32} {P : Nat → List Int32} {c : Nat}
theorem ya_po {post : SY → Prop} {p2 : Int32} {o : Nat} (e : p2 = nI o) : ∀ m v ar n, m < n → o + m ≤ 768 → post (fa, fb, fl, fe, yc, yo, yb, ct, kd, pr, nm, my, tg, sz, dt, ta_wr ar o (ta_ol m v), sc, st) → wY_putOctal_8 post p2 fa fb fl fe yc yo yb n v (nI m - 1) ct kd pr nm my tg sz dt ar sc st := by
  intro m
  induction m with
  | zero =>
    intro v ar n hn _ h
    obtain ⟨n, rfl⟩ : ∃ k, n = k + 1 := ⟨n - 1, by omega⟩
    have h : post (fa, fb, fl, fe, yc, yo, yb, ct, kd, pr, nm, my, tg, sz, dt, ta_wr ar o [], sc, st) := h
    rw [ta_wr_nil] at h
    exact br_t (by decide) h
  | succ m ih =>
    intro v ar n hn ho h
    obtain ⟨n, rfl⟩ : ∃ k, n = k + 1 := ⟨n - 1, by omega⟩
    rw [nI_pred]
    have ei : p2 + nI m = nI (o + m) := by rw [e, nI_add]
    refine br_f (nI_pos (by omega)) ⟨by rw [ei]; exact vp_in_nI (by omega) (by omega), nm_r (by rw [ei, nI_clamp (by omega)]) (nm_e (nm_r (ta_pm m) (ih _ _ n (by omega) (by omega) ?_)))⟩
    rw [← ta_ol_wr] at h
    exact h
theorem ya_putOctal {post : SY → Prop} {p2 v : Int32} {o : Nat} (m : Nat) (e : p2 = nI o) (ho : o + m ≤ 768) (h : post (fa, fb, fl, fe, yc, yo, yb, ct, kd, pr, nm, my, tg, sz, dt, ta_wr ar o (ta_ol m v), sc, st)) :
    wpY_putOctal post (fa, fb, fl, fe, yc, yo, yb, ct, kd, pr, nm, my, tg, sz, dt, ar, sc, st) p2 (nI m) v :=
  nm_e ⟨m + 1, ya_po e m v ar (m + 1) (by omega) ho h⟩
theorem ya_ck {post : Int32 → Prop} {o : Nat} (ho : o + 64 ≤ 768) (h : post (ta_cs ar o 64)) : ∀ n k, k ≤ 64 → 64 < k + n → wY_checksum_4 post (nI o) fa fb fl fe yc yo yb ct kd pr nm my tg sz dt ar sc st n (ta_cs ar o k) (nI k) := by
  intro n
  induction n with
  | zero => intro k _ g; omega
  | succ n ih =>
    intro k g1 g2
    have ei : nI o + nI k = nI (o + k) := nI_add _ _
    have A : k < 64 → ¬ (20 ≤ k ∧ k < 26) → wY_checksum_28 post (wY_checksum_4 post (nI o) fa fb fl fe yc yo yb ct kd pr nm my tg sz dt ar sc st n) (nI o) (nI k) (ta_cs ar o k) fa fb fl fe yc yo yb ct kd pr nm my tg sz dt ar sc st := by
      intro hk hr
      refine ⟨by rw [ei]; exact vp_in_nI (by omega) (by omega), nm_r (e' := ta_cs ar o (k + 1)) ?_ (nm_r (nI_1 k) (ih (k + 1) (by omega) (by omega)))⟩
      show _ = ta_cs ar o k + (if 20 ≤ k ∧ k < 26 then 32 else ar (o + k))
      rw [if_neg hr, ei, nI_clamp (by omega)]
    refine pk_le 64 k (fun g => ?_) (fun g => pk_lt k 20 (fun w => A g (by omega)) (fun w => pk_lt 25 k (fun y => A g (by omega)) (fun y => nm_r (e' := ta_cs ar o (k + 1)) ?_ (nm_r (nI_1 k) (ih (k + 1) (by omega) (by omega))))))
    · rw [show k = 64 by omega]; exact h
    · show _ = ta_cs ar o k + (if 20 ≤ k ∧ k < 26 then 32 else ar (o + k))
      rw [if_pos ⟨w, by omega⟩]
theorem ya_checksum {post : Int32 → Prop} {o : Nat} (ho : o + 64 ≤ 768) (h : post (ta_cs ar o 64)) : wpY_checksum post (fa, fb, fl, fe, yc, yo, yb, ct, kd, pr, nm, my, tg, sz, dt, ar, sc, st) (nI o) :=
  ⟨65, ya_ck ho h 65 0 (by omega) (by omega)⟩
theorem ya_h243 {post : SY → Prop} {o : Nat} (ho : o + 64 ≤ 768) (hz : ar (o + 44) = 0) (h : post (fa, fb, fl, fe, yc, yo, yb, ct, kd, pr, nm, my, tg, sz, dt, ta_wr (ta_wr ar (o + 39) ta_mg) (o + 20) (ta_ol 5 (ta_cs (ta_wr ar (o + 39) ta_mg) o 64)), sc, st)) :
    wY_writeHeader_243 post (nI o) fa fb fl fe yc yo yb ct kd pr nm my tg sz dt ar sc st := by
  have e39 : nI o + 39 = nI (o + 39) := nI_add o 39
  have e40 : nI o + 40 = nI (o + 40) := nI_add o 40
  have e41 : nI o + 41 = nI (o + 41) := nI_add o 41
  have e42 : nI o + 42 = nI (o + 42) := nI_add o 42
  have e43 : nI o + 43 = nI (o + 43) := nI_add o 43
  have e45 : nI o + 45 = nI (o + 45) := nI_add o 45
  have e46 : nI o + 46 = nI (o + 46) := nI_add o 46
  refine ⟨by rw [e39]; exact vp_in_nI (by omega) (by omega), nm_r (e' := upd ar (o + 39) 117) (by rw [e39, nI_clamp (by omega)]) ?_⟩
  refine ⟨by rw [e40]; exact vp_in_nI (by omega) (by omega), nm_r (e' := upd (upd ar (o + 39) 117) (o + 40) 115) (by rw [e40, nI_clamp (by omega)]) ?_⟩
  refine ⟨by rw [e41]; exact vp_in_nI (by omega) (by omega), nm_r (e' := upd (upd (upd ar (o + 39) 117) (o + 40) 115) (o + 41) 116) (by rw [e41, nI_clamp (by omega)]) ?_⟩
  refine ⟨by rw [e42]; exact vp_in_nI (by omega) (by omega), nm_r (e' := upd (upd (upd (upd ar (o + 39) 117) (o + 40) 115) (o + 41) 116) (o + 42) 97) (by rw [e42, nI_clamp (by omega)]) ?_⟩
  refine ⟨by rw [e43]; exact vp_in_nI (by omega) (by omega), nm_r (e' := upd (upd (upd (upd (upd ar (o + 39) 117) (o + 40) 115) (o + 41) 116) (o + 42) 97) (o + 43) 114) (by rw [e43, nI_clamp (by omega)]) ?_⟩
  refine ⟨by rw [e45]; exact vp_in_nI (by omega) (by omega), nm_r (e' := upd (upd (upd (upd (upd (upd ar (o + 39) 117) (o + 40) 115) (o + 41) 116) (o + 42) 97) (o + 43) 114) (o + 45) 48) (by rw [e45, nI_clamp (by omega)]) ?_⟩
  refine ⟨by rw [e46]; exact vp_in_nI (by omega) (by omega), nm_r (e' := ta_wr ar (o + 39) ta_mg) (by rw [e46, nI_clamp (by omega), ta_mg_upd hz]) ?_⟩
  exact ya_checksum ho (ya_putOctal 5 (nI_add o 20) (by omega) h)
theorem ya_h208 {post : SY → Prop} {o m : Nat} (ho : o + 64 ≤ 768) (hm : m ≤ 12) (h : wY_writeHeader_243 post (nI o) fa fb fl fe yc yo yb ct kd pr nm my tg sz dt (ta_wr ar (o + 27) (ta_sg sc 32 m)) sc st) :
    ∀ n k, k ≤ m → m < k + n → wY_writeHeader_208 post (nI o) (nI m) fa fb fl fe yc yo yb n (nI k) ct kd pr nm my tg sz dt (ta_wr ar (o + 27) (ta_sg sc 32 k)) sc st := by
  intro n
  induction n with
  | zero => intro k _ g; omega
  | succ n ih =>
    intro k g1 g2
    have ei : (32 : Int32) + nI k = nI (32 + k) := nI_add 32 k
    have eo : nI o + 27 + nI k = nI (o + 27 + k) := by rw [show (27 : Int32) = nI 27 from rfl, nI_add, nI_add]
    refine pk_le m k (fun g => ?_) (fun g => ⟨by rw [ei]; exact vp_in_nI (by omega) (by omega), by rw [eo]; exact vp_in_nI (by omega) (by omega), nm_r (e' := ta_wr ar (o + 27) (ta_sg sc 32 (k + 1))) ?_ (nm_r (nI_1 k) (ih (k + 1) (by omega) (by omega)))⟩)
    · rw [show k = m by omega]; exact h
    · rw [ei, eo, nI_clamp (by omega), nI_clamp (by omega), ta_sg_S, ← ta_wr_snoc, ta_sg_len]
theorem ya_h183 (T : ta_Tr 0 c kd pr nm P) (hc : c ≤ 8) (X : ∀ i, i < c → ta_Nx 0 kd sz tg i) {post : SY → Prop} {i o : Nat} {ty : Int32} (hi : i < c) (hft : ta_ft kd tg P i) (ho : o + 64 ≤ 768) (hz : ar (o + 44) = 0)
    (h : ∀ sc' st', post (fa, fb, fl, fe, yc, yo, yb, ct, kd, pr, nm, my, tg, sz, dt, ta_wr (ta_wr (ta_wr (ta_wr ar (o + 26) [ty]) (o + 27) (ta_lk kd tg P i)) (o + 39) ta_mg) (o + 20) (ta_ol 5 (ta_cs (ta_wr (ta_wr (ta_wr ar (o + 26) [ty]) (o + 27) (ta_lk kd tg P i)) (o + 39) ta_mg) o 64)), sc', st')) :
    wY_writeHeader_183 post (nI i) (nI o) (kd i) ty (nI o + 26) fa fb fl fe yc yo yb ct kd pr nm my tg sz dt ar sc st := by
  have e26 : nI o + 26 = nI (o + 26) := nI_add o 26
  refine ⟨by rw [e26]; exact vp_in_nI (by omega) (by omega), nm_r (e' := ta_wr ar (o + 26) [ty]) (by rw [e26, nI_clamp (by omega), ta_wr_1]) ?_⟩
  have hlk := ta_ft_lk hft
  have z1 : ∀ K : List Int32, K.length ≤ 12 → ta_wr (ta_wr ar (o + 26) [ty]) (o + 27) K (o + 44) = 0 := fun K hK => by
    rw [ta_wr_out (by omega), ta_wr_out (by simp only [List.length_cons, List.length_nil]; omega), hz]
  refine br_c (fun k2 => ⟨vp_in_nI (by omega) (by omega), ?_⟩) (fun k2 => ?_)
  · rw [nI_clamp (by omega)]
    obtain ⟨_, hx, _⟩ := X i hi
    simp only [Nat.zero_add] at hx
    obtain ⟨q, hq, e, _⟩ := hx k2
    have en : ta_n (tg i) = q := by unfold ta_n; rw [e, nI_clamp (by omega)]
    have ek : ta_lk kd tg P i = P q := by unfold ta_lk; rw [if_pos k2, en]
    rw [ek] at h hlk
    rw [e]
    refine ya_writePath (t := 0) (off := 32) T hc (by omega) (by omega) (by omega) (fun st' => ?_)
    have := ya_h208 (fa := fa) (fb := fb) (fl := fl) (fe := fe) (yc := yc) (yo := yo) (yb := yb) (ct := ct) (kd := kd) (pr := pr) (nm := nm) (my := my) (tg := tg) (sz := sz) (dt := dt) (ar := ta_wr ar (o + 26) [ty]) (sc := ta_wr sc 32 (P q)) (st := st') (post := post) ho hlk (by rw [ta_wr_sg]; exact ya_h243 ho (z1 _ hlk) (h _ _)) ((P q).length + 1) 0 (Nat.zero_le _) (by omega)
    rw [ta_sg_0, ta_wr_nil] at this
    exact ⟨_, this⟩
  · have ek : ta_lk kd tg P i = [] := by unfold ta_lk; rw [if_neg k2]
    rw [ek] at h
    have h := h sc st
    have z := z1 [] (Nat.zero_le _)
    rw [ta_wr_nil] at h z
    exact ya_h243 ho z h
theorem ya_h123 (T : ta_Tr 0 c kd pr nm P) (hc : c ≤ 8) (X : ∀ i, i < c → ta_Nx 0 kd sz tg i) {post : SY → Prop} {i o : Nat} {mv : Int32} (hi : i < c) (hft : ta_ft kd tg P i) (ho : o + 64 ≤ 768) (hz : ar (o + 44) = 0)
    (h : ∀ sc' st', post (fa, fb, fl, fe, yc, yo, yb, ct, kd, pr, nm, my, tg, sz, dt, ta_wr (ta_wr (ta_wr (ta_wr (ta_wr (ta_wr ar (o + 12) (ta_ol 3 mv)) (o + 16) (ta_ol 3 (sz i))) (o + 26) [ta_ty (kd i)]) (o + 27) (ta_lk kd tg P i)) (o + 39) ta_mg) (o + 20) (ta_ol 5 (ta_cs (ta_wr (ta_wr (ta_wr (ta_wr (ta_wr ar (o + 12) (ta_ol 3 mv)) (o + 16) (ta_ol 3 (sz i))) (o + 26) [ta_ty (kd i)]) (o + 27) (ta_lk kd tg P i)) (o + 39) ta_mg) o 64)), sc', st')) :
    wY_writeHeader_123 post (nI i) (nI o) (kd i) mv 3 (nI o + 12) fa fb fl fe yc yo yb ct kd pr nm my tg sz dt ar sc st := by
  obtain ⟨k123, _, _, s0⟩ := X i hi
  simp only [Nat.zero_add] at k123 s0
  unfold wY_writeHeader_123
  refine ya_putOctal 3 (nI_add o 12) (by omega) ?_
  have zz : ta_wr (ta_wr ar (o + 12) (ta_ol 3 mv)) (o + 16) (ta_ol 3 (sz i)) (o + 44) = 0 := by
    rw [ta_wr_out (by rw [ta_ol_len]; omega), ta_wr_out (by rw [ta_ol_len]; omega), hz]
  have K : ∀ s, s = sz i → wY_writeHeader_148 post (nI i) (nI o) (kd i) s 3 (nI o + 16) fa fb fl fe yc yo yb ct kd pr nm my tg sz dt (ta_wr ar (o + 12) (ta_ol 3 mv)) sc st := by
    intro s es
    subst es
    unfold wY_writeHeader_148
    refine ya_putOctal 3 (nI_add o 16) (by omega) ?_
    have H := fun ty (e : ta_ty (kd i) = ty) => ya_h183 (fa := fa) (fb := fb) (fl := fl) (fe := fe) (yc := yc) (yo := yo) (yb := yb) (ct := ct) (my := my) (dt := dt) (sc := sc) (st := st) (post := post) T hc X (ty := ty) hi hft ho zz (by rw [← e]; exact h)
    refine br_c (fun k1 => H 48 (by rw [k1]; decide)) (fun k1 => br_c (fun k2 => H 49 (by rw [k2]; decide)) (fun k2 => H 53 ?_))
    rcases k123 with q | q | q
    · exact absurd q k1
    · exact absurd q k2
    · rw [q]; decide
  refine br_c (fun k1 => ⟨vp_in_nI (by omega) (by omega), ?_⟩) (fun k1 => K 0 (s0 k1).symm)
  rw [nI_clamp (by omega)]
  exact K _ rfl
theorem ya_h61 (T : ta_Tr 0 c kd pr nm P) (hc : c ≤ 8) (X : ∀ i, i < c → ta_Nx 0 kd sz tg i) {post : SY → Prop} {i o m : Nat} {mv r : Int32} (hi : i < c) (hft : ta_ft kd tg P i) (ho : o + 64 ≤ 768) (hz : ar (o + 44) = 0) (hm : m ≤ 10) (hr : ∀ k, k ≤ m → (r ≤ nI k ↔ m ≤ k)) (hm1 : kd i = 2 → mv = 0) (hm2 : kd i ≠ 2 → my i = mv)
    (h : ∀ sc' st', post (fa, fb, fl, fe, yc, yo, yb, ct, kd, pr, nm, my, tg, sz, dt, ta_wr (ta_wr (ta_wr (ta_wr (ta_wr (ta_wr (ta_wr ar (o + 47) (ta_sg sc 0 m)) (o + 12) (ta_ol 3 mv)) (o + 16) (ta_ol 3 (sz i))) (o + 26) [ta_ty (kd i)]) (o + 27) (ta_lk kd tg P i)) (o + 39) ta_mg) (o + 20) (ta_ol 5 (ta_cs (ta_wr (ta_wr (ta_wr (ta_wr (ta_wr (ta_wr ar (o + 47) (ta_sg sc 0 m)) (o + 12) (ta_ol 3 mv)) (o + 16) (ta_ol 3 (sz i))) (o + 26) [ta_ty (kd i)]) (o + 27) (ta_lk kd tg P i)) (o + 39) ta_mg) o 64)), sc', st')) :
    ∀ n k, k ≤ m → m < k + n → wY_writeHeader_61 post (nI i) (nI o) r fa fb fl fe yc yo yb n (nI k) ct kd pr nm my tg sz dt (ta_wr ar (o + 47) (ta_sg sc 0 k)) sc st := by
  intro n
  induction n with
  | zero => intro k _ g; omega
  | succ n ih =>
    intro k g1 g2
    have eo : nI o + 47 + nI k = nI (o + 47 + k) := by rw [show (47 : Int32) = nI 47 from rfl, nI_add, nI_add]
    refine br_c (fun w => ⟨vp_in_nI (by omega) (by omega), ?_⟩) (fun w => ?_)
    · have e : k = m := by have := (hr k g1).mp w; omega
      subst e
      rw [nI_clamp (by omega)]
      have zz : ta_wr ar (o + 47) (ta_sg sc 0 k) (o + 44) = 0 := by rw [ta_wr_out (by omega), hz]
      have K := ya_h123 (fa := fa) (fb := fb) (fl := fl) (fe := fe) (yc := yc) (yo := yo) (yb := yb) (ct := ct) (my := my) (dt := dt) (sc := sc) (st := st) (post := post) T hc X hi hft ho zz h
      refine nm_e (br_c (fun k2 => ?_) (fun k2 => ⟨vp_in_nI (by omega) (by omega), ?_⟩))
      · rw [hm1 k2] at K; exact K
      · rw [hm2 k2]; exact K
    · have g : k < m := by
        rcases Nat.lt_or_ge k m with y | y
        · exact y
        · exact absurd ((hr k g1).mpr y) w
      refine ⟨vp_in_nI (by omega) (by omega), by rw [eo]; exact vp_in_nI (by omega) (by omega), nm_r (e' := ta_wr ar (o + 47) (ta_sg sc 0 (k + 1))) ?_ (nm_r (nI_1 k) (ih (k + 1) (by omega) (by omega)))⟩
      rw [eo, nI_clamp (by omega), nI_clamp (by omega), ta_sg_S, ← ta_wr_snoc, ta_sg_len, Nat.zero_add]
theorem ya_h24 {post : SY → Prop} {i o nb m : Nat} {r : Int32} (hr : r + 1 = nI nb) (ho : o + 64 ≤ 768) (hm : m ≤ 12) (hb : nb + m ≤ 30)
    (h : ∃ n, wY_writeHeader_61 post (nI i) (nI o) r fa fb fl fe yc yo yb n 0 ct kd pr nm my tg sz dt (ta_wr ar o (ta_sg sc nb m)) sc st) :
    ∀ n k, k ≤ m → m < k + n → wY_writeHeader_24 post (nI i) (nI o) r (nI (nb + m)) fa fb fl fe yc yo yb n (nI (nb + k)) ct kd pr nm my tg sz dt (ta_wr ar o (ta_sg sc nb k)) sc st := by
  intro n
  induction n with
  | zero => intro k _ g; omega
  | succ n ih =>
    intro k g1 g2
    have eo : nI o + nI (nb + k) - r - 1 = nI (o + k) := by
      have : nI o + nI (nb + k) - r - 1 = nI o + nI (nb + k) - (r + 1) := by grind
      rw [this, hr, nI_add, pk_sub (by omega), show o + (nb + k) - nb = o + k by omega]
    refine pk_le (nb + m) (nb + k) (fun g => ?_) (fun g => ⟨vp_in_nI (by omega) (by omega), by rw [eo]; exact vp_in_nI (by omega) (by omega), nm_r (e' := ta_wr ar o (ta_sg sc nb (k + 1))) ?_ (nm_r (nI_1 (nb + k)) (ih (k + 1) (by omega) (by omega)))⟩)
    · rw [show k = m by omega]; exact h
    · rw [eo, nI_clamp (by omega), nI_clamp (by omega), ta_sg_S, ← ta_wr_snoc, ta_sg_len]
/-- the two orders of writing a header -/
theorem ta_h0_y {a : Nat → Int32} {o : Nat} {L K : List Int32} {mv sv ty : Int32} (hL : ta_sp L ≠ -2) (hK : K.length ≤ 12) : ta_wr (ta_wr (ta_wr (ta_wr (ta_wr (ta_wr (ta_wr a o (L.drop (ta_nb L))) (o + 47) (L.take (ta_nb L - 1))) (o + 12) (ta_ol 3 mv)) (o + 16) (ta_ol 3 sv)) (o + 26) [ty]) (o + 27) K) (o + 39) ta_mg = ta_h0 a o L K mv sv ty := by
  have h2 : (L.drop (ta_nb L)).length ≤ 12 := by
    rw [List.length_drop]
    rcases ta_nb_spec hL with ⟨_, _, h⟩ | ⟨s, h0, _, _, _, _, _, h⟩ <;> rw [h] <;> omega
  unfold ta_h0
  rw [ta_wr_comm a (o := o) (p := o + 47) (Or.inl (by omega))]
  rw [ta_wr_comm _ (o := o + 26) (p := o + 27) (Or.inl (by simp only [List.length_cons, List.length_nil]; omega))]
  rw [ta_wr_comm _ (o := o + 16) (p := o + 27) (Or.inl (by rw [ta_ol_len]; omega))]
  rw [ta_wr_comm _ (o := o + 12) (p := o + 27) (Or.inl (by rw [ta_ol_len]; omega))]
theorem ya_writeHeader (T : ta_Tr 0 c kd pr nm P) (hc : c ≤ 8) (X : ∀ i, i < c → ta_Nx 0 kd sz tg i) {post : SY → Prop} {i b : Nat} {mv : Int32} (hi : i < c) (hft : ta_ft kd tg P i) (hb : b < 12) (hz : ar (64 * b + 44) = 0) (hm1 : kd i = 2 → mv = 0) (hm2 : kd i ≠ 2 → my i = mv)
    (h : ∀ yc' sc' st', post (fa, fb, fl, fe, yc', yo, yb, ct, kd, pr, nm, my, tg, sz, dt, ta_h ar (64 * b) (P i) (ta_lk kd tg P i) mv (sz i) (ta_ty (kd i)), sc', st')) :
    wpY_writeHeader post (fa, fb, fl, fe, yc, yo, yb, ct, kd, pr, nm, my, tg, sz, dt, ar, sc, st) (nI i) (nI b) := by
  have h29 := ta_P_29 T hi
  refine nm_r (e' := nI (64 * b)) (by rw [show (64 : Int32) = nI 64 from rfl, pk_mul, Nat.mul_comm]) ?_
  refine ya_splitPoint T hc hi (fun st1 => ?_)
  have hnb : ta_nb (P i) ≤ (P i).length ∧ (P i).length - ta_nb (P i) ≤ 12 ∧ ta_nb (P i) - 1 ≤ 10 ∧ ta_sp (P i) + 1 = nI (ta_nb (P i)) ∧ (∀ k, k ≤ ta_nb (P i) - 1 → (ta_sp (P i) ≤ nI k ↔ ta_nb (P i) - 1 ≤ k)) := by
    rcases ta_nb_spec hft.1 with ⟨a, b, d⟩ | ⟨s, a1, a2, a3, a4, a5, b, d⟩
    · rw [d, b]
      refine ⟨by omega, by omega, by omega, by decide, fun k hk => ⟨fun _ => by omega, fun _ => ?_⟩⟩
      exact Int32.le_trans (show (-1 : Int32) ≤ 0 by decide) (nI_pos' (by omega))
    · rw [d, b]
      refine ⟨by omega, by omega, by omega, nI_1 s, fun k hk => ?_⟩
      rw [nI_leI (by omega) (by omega)]
      omega
  obtain ⟨n1, n2, n3, n4, n5⟩ := hnb
  rw [n4]
  have zz : ta_wr ar (64 * b) ((P i).drop (ta_nb (P i))) (64 * b + 44) = 0 := by rw [ta_wr_out (by rw [List.length_drop]; omega), hz]
  have K61 : ∃ n, wY_writeHeader_61 post (nI i) (nI (64 * b)) (ta_sp (P i)) fa fb fl fe (nI (P i).length) yo yb n 0 ct kd pr nm my tg sz dt (ta_wr ar (64 * b) (ta_sg (ta_wr sc 0 (P i)) (ta_nb (P i)) ((P i).length - ta_nb (P i)))) (ta_wr sc 0 (P i)) st1 := by
    rw [ta_wr_drop n1]
    have := ya_h61 (fa := fa) (fb := fb) (fl := fl) (fe := fe) (yc := nI (P i).length) (yo := yo) (yb := yb) (ct := ct) (my := my) (dt := dt) (sc := ta_wr sc 0 (P i)) (st := st1) (post := post) (o := 64 * b) T hc X hi hft (by omega) zz n3 n5 hm1 hm2 (fun sc' st' => by
      rw [ta_wr_take (by omega), ta_h0_y hft.1 (ta_ft_lk hft)]
      exact h _ sc' st') (ta_nb (P i) - 1 + 1) 0 (Nat.zero_le _) (by omega)
    rw [ta_sg_0, ta_wr_nil] at this
    exact ⟨_, this⟩
  have := ya_h24 (fa := fa) (fb := fb) (fl := fl) (fe := fe) (yc := nI (P i).length) (yo := yo) (yb := yb) (ct := ct) (kd := kd) (pr := pr) (nm := nm) (my := my) (tg := tg) (sz := sz) (dt := dt) (ar := ar) (sc := ta_wr sc 0 (P i)) (st := st1) (i := i) (o := 64 * b) n4 (by omega) n2 (by omega) K61 ((P i).length - ta_nb (P i) + 1) 0 (Nat.zero_le _) (by omega)
  rw [ta_sg_0, ta_wr_nil, show ta_nb (P i) + ((P i).length - ta_nb (P i)) = (P i).length by omega] at this
  exact nm_e ⟨_, this⟩
end
