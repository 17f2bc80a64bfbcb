/-! 12: the component's create -/
def ta_cz (a : Nat → Int32) (k : Nat) : Nat → Int32 := fun j => if j < k then 0 else a j
theorem ta_cz_0 (a : Nat → Int32) : ta_cz a 0 = a := by
  funext j
  exact if_neg (Nat.not_lt_zero j)
theorem ta_cz_S (a : Nat → Int32) (k : Nat) : upd (ta_cz a k) k 0 = ta_cz a (k + 1) := by
  funext j
  unfold upd ta_cz
  by_cases h : j = k
  · rw [if_pos h, if_pos (by omega)]
  · rw [if_neg h]
    by_cases h2 : j < k
    · rw [if_pos h2, if_pos (by omega)]
    · rw [if_neg h2, if_neg (by omega)]
theorem ta_fc_z {sz : Nat → Int32} {k : Nat} (h : ta_n (sz k) = 0) : ta_fc sz (k + 1) = ta_fc sz k := by
  show ta_fc sz k + (if 0 < ta_n (sz k) then 1 else 0) = _
  rw [if_neg (by omega), Nat.add_zero]
theorem ta_fc_p {sz : Nat → Int32} {k : Nat} (h : 0 < ta_n (sz k)) : ta_fc sz (k + 1) = ta_fc sz k + 1 := by
  show ta_fc sz k + (if 0 < ta_n (sz k) then 1 else 0) = _
  rw [if_pos h]
theorem ta_mgb : ∀ k : Nat, k < 8 → (((((3472275803963945845 : Int64).toUInt64 >>> ((8 * nI k).toInt64.toUInt64 &&& Int64.toUInt64 63)).toInt64).toInt32) &&& 255) = ta_mg.getD k 0 := by decide +kernel
theorem ta_mgt : ∀ k : Nat, k < 8 → ta_mg.take (k + 1) = ta_mg.take k ++ [ta_mg.getD k 0] := by decide +kernel
theorem ta_mgl : ∀ k : Nat, k ≤ 8 → (ta_mg.take k).length = k := by decide +kernel
theorem xa_typeflag {post : Int32 → Prop} {k : Int32} (h : post (ta_ty k)) : wpX_typeflag post () k := by
  unfold ta_ty at h
  refine br_c (fun z => ?_) (fun z => br_c (fun w => ?_) (fun w => ?_))
  · rw [if_pos z] at h; exact h
  · rw [if_neg z, if_pos w] at h; exact h
  · rw [if_neg z, if_neg w] at h; exact h
theorem xa_magicByte {post : Int32 → Prop} {k : Nat} (hk : k < 8) (h : post (ta_mg.getD k 0)) : wpX_magicByte post () (nI k) := by
  rw [← ta_mgb k hk] at h
  exact h
section
variable {fa fb fl fe fp fn ft : Int32} {ct kd pr nm md sz tg dt ar pa : Nat → Int32} {P : Nat → List Int32} {c : Nat}
theorem xa_bn (hc : c ≤ 8) (hct : ct 0 = nI c) (hs : ∀ i, i < c → ∃ s, s ≤ 32 ∧ sz i = nI s) {post : Int32 → Prop} (h : post (nI (c + 2 + ta_fc sz c))) :
    ∀ n k, k ≤ c → c < k + n → wX_blocksNeeded_11 post fa fb fl fe fp fn ft ct kd pr nm md sz tg dt ar pa n (nI (c + 2 + ta_fc sz k)) (nI k) := by
  intro n
  induction n with
  | zero => intro k _ g; omega
  | succ n ih =>
    intro k g1 g2
    refine pk_le c k (fun g => ?_) (fun g => ⟨vp_in_nI (by omega) (by omega), ?_⟩) (hx := hct)
    · rw [show k = c by omega]; exact h
    · obtain ⟨s, s1, s2⟩ := hs k g
      rw [nI_clamp (by omega)]
      have en : ta_n (sz k) = s := by unfold ta_n; rw [s2, nI_clamp (by omega)]
      refine pk_le s 0 (fun w => nm_r (nI_1 k) ?_) (fun w => nm_r (nI_1 _) (nm_r (nI_1 k) ?_)) (hx := s2)
      · have := ih (k + 1) (by omega) (by omega)
        rw [ta_fc_z (by omega)] at this
        exact this
      · have := ih (k + 1) (by omega) (by omega)
        rw [ta_fc_p (by omega)] at this
        exact this
theorem xa_blocksNeeded (hc : c ≤ 8) (hct : ct 0 = nI c) (hs : ∀ i, i < c → ∃ s, s ≤ 32 ∧ sz i = nI s) {post : Int32 → Prop} (h : post (nI (c + 2 + ta_fc sz c))) : wpX_blocksNeeded post (fa, fb, fl, fe, fp, fn, ft, ct, kd, pr, nm, md, sz, tg, dt, ar, pa) := by
  refine nm_r (e' := nI (c + 2 + ta_fc sz 0)) (by rw [hct]; exact nI_add c 2) ⟨c + 1, xa_bn hc hct hs h (c + 1) 0 (Nat.zero_le _) (by omega)⟩
theorem xa_ca {post : St2 → Prop} (h : post (fa, fb, fl, fe, fp, fn, ft, ct, kd, pr, nm, md, sz, tg, dt, ta_cz ar 768, pa)) : ∀ n k, k ≤ 768 → 768 < k + n → wX_clearArchive_2 post fa fb fl fe fp fn ft n (nI k) ct kd pr nm md sz tg dt (ta_cz ar k) pa := by
  intro n
  induction n with
  | zero => intro k _ g; omega
  | succ n ih =>
    intro k g1 g2
    refine pk_le 768 k (fun g => ?_) (fun g => ⟨vp_in_nI (by omega) (by omega), nm_r (e' := ta_cz ar (k + 1)) (by rw [nI_clamp (by omega), ta_cz_S]) (nm_r (nI_1 k) (ih (k + 1) (by omega) (by omega)))⟩)
    rw [show k = 768 by omega]; exact h
theorem xa_clearArchive {post : St2 → Prop} (h : post (fa, fb, fl, fe, fp, fn, ft, ct, kd, pr, nm, md, sz, tg, dt, ta_cz ar 768, pa)) : wpX_clearArchive post (fa, fb, fl, fe, fp, fn, ft, ct, kd, pr, nm, md, sz, tg, dt, ar, pa) := by
  have := xa_ca h 769 0 (by omega) (by omega)
  rw [ta_cz_0] at this
  exact ⟨769, this⟩
theorem xa_wp {post : St2 → Prop} {f m o : Nat} {p2 : Int32} (e : p2 = nI o) (hf : f + m ≤ 30) (ho : o + m ≤ 768) (h : post (fa, fb, fl, fe, fp, fn, ft, ct, kd, pr, nm, md, sz, tg, dt, ta_wr ar o (ta_sg pa f m), pa)) :
    ∀ n k, k ≤ m → m < k + n → wX_writePath_3 post (nI f) (nI (f + m)) p2 fa fb fl fe fp fn ft n (nI (f + k)) ct kd pr nm md sz tg dt (ta_wr ar o (ta_sg pa f k)) pa := by
  intro n
  induction n with
  | zero => intro k _ g; omega
  | succ n ih =>
    intro k g1 g2
    have ei : p2 + nI (f + k) - nI f = nI (o + k) := by rw [e, nI_add, pk_sub (by omega), show o + (f + k) - f = o + k by omega]
    refine pk_le (f + m) (f + k) (fun g => ?_) (fun g => ⟨vp_in_nI (by omega) (by omega), by rw [ei]; exact vp_in_nI (by omega) (by omega), nm_r (e' := ta_wr ar o (ta_sg pa f (k + 1))) ?_ (nm_r (nI_1 (f + k)) (ih (k + 1) (by omega) (by omega)))⟩)
    · rw [show k = m by omega]; exact h
    · rw [ei, nI_clamp (by omega), nI_clamp (by omega), ta_sg_S, ← ta_wr_snoc, ta_sg_len]
theorem xa_writePath {post : St2 → Prop} {f m o : Nat} {p2 : Int32} (e : p2 = nI o) (hf : f + m ≤ 30) (ho : o + m ≤ 768) (h : post (fa, fb, fl, fe, fp, fn, ft, ct, kd, pr, nm, md, sz, tg, dt, ta_wr ar o (ta_sg pa f m), pa)) :
    wpX_writePath post (fa, fb, fl, fe, fp, fn, ft, ct, kd, pr, nm, md, sz, tg, dt, ar, pa) (nI f) (nI (f + m)) p2 := by
  have := xa_wp e hf ho h (m + 1) 0 (Nat.zero_le _) (by omega)
  rw [ta_sg_0, ta_wr_nil] at this
  exact ⟨m + 1, this⟩
theorem xa_writePathE {post : St2 → Prop} {p2 : Int32} (h : post (fa, fb, fl, fe, fp, fn, ft, ct, kd, pr, nm, md, sz, tg, dt, ar, pa)) :
    wpX_writePath post (fa, fb, fl, fe, fp, fn, ft, ct, kd, pr, nm, md, sz, tg, dt, ar, pa) 0 (-1) p2 := ⟨1, br_t (by decide) h⟩
theorem xa_wo {post : St2 → Prop} {p2 : Int32} {o : Nat} (e : p2 = nI o) : ∀ m v ar n, m < n → o + m ≤ 768 → post (fa, fb, fl, fe, fp, fn, ft, ct, kd, pr, nm, md, sz, tg, dt, ta_wr ar o (ta_ol m v), pa) → wX_writeOctal_8 post p2 fa fb fl fe fp fn ft n v (nI m - 1) ct kd pr nm md sz tg dt ar pa := by
  intro m
  induction m with
  | zero =>
    intro v ar n hn _ h
    obtain ⟨n, rfl⟩ : ∃ k, n = k + 1 := ⟨n - 1, by omega⟩
    have h : post (fa, fb, fl, fe, fp, fn, ft, ct, kd, pr, nm, md, sz, tg, dt, ta_wr ar o [], pa) := h
    rw [ta_wr_nil] at h
    exact br_t (by decide) h
  | succ m ih =>
    intro v ar n hn ho h
    obtain ⟨n, rfl⟩ : ∃ k, n = k + 1 := ⟨n - 1, by omega⟩
    rw [nI_pred]
    have ei : p2 + nI m = nI (o + m) := by rw [e, nI_add]
    refine br_f (nI_pos (by omega)) ⟨by rw [ei]; exact vp_in_nI (by omega) (by omega), nm_r (by rw [ei, nI_clamp (by omega)]) (nm_e (nm_r (ta_pm m) (ih _ _ n (by omega) (by omega) ?_)))⟩
    rw [← ta_ol_wr] at h
    exact h
theorem xa_writeOctal {post : St2 → Prop} {p2 v : Int32} {o : Nat} (m : Nat) (e : p2 = nI o) (ho : o + m ≤ 768) (h : post (fa, fb, fl, fe, fp, fn, ft, ct, kd, pr, nm, md, sz, tg, dt, ta_wr ar o (ta_ol m v), pa)) :
    wpX_writeOctal post (fa, fb, fl, fe, fp, fn, ft, ct, kd, pr, nm, md, sz, tg, dt, ar, pa) v (nI m) p2 :=
  nm_e ⟨m + 1, xa_wo e m v ar (m + 1) (by omega) ho h⟩
theorem xa_ck {post : Int32 → Prop} {o : Nat} (ho : o + 64 ≤ 768) (h : post (ta_cs ar o 64)) : ∀ n k, k ≤ 64 → 64 < k + n → wX_checksum_4 post (nI o) fa fb fl fe fp fn ft ct kd pr nm md sz tg dt ar pa n (ta_cs ar o k) (nI k) := by
  intro n
  induction n with
  | zero => intro k _ g; omega
  | succ n ih =>
    intro k g1 g2
    have ei : nI o + nI k = nI (o + k) := nI_add _ _
    have A : k < 64 → ¬ (20 ≤ k ∧ k < 26) → wX_checksum_26 post (wX_checksum_4 post (nI o) fa fb fl fe fp fn ft ct kd pr nm md sz tg dt ar pa n) (nI o) (ta_cs ar o k) (nI k) fa fb fl fe fp fn ft ct kd pr nm md sz tg dt ar pa := by
      intro hk hr
      refine br_t rfl ⟨by rw [ei]; exact vp_in_nI (by omega) (by omega), nm_r (e' := ta_cs ar o (k + 1)) ?_ (nm_r (nI_1 k) (ih (k + 1) (by omega) (by omega)))⟩
      show _ = ta_cs ar o k + (if 20 ≤ k ∧ k < 26 then 32 else ar (o + k))
      rw [if_neg hr, ei, nI_clamp (by omega)]
    refine pk_le 64 k (fun g => ?_) (fun g => pk_lt k 20 (fun w => A g (by omega)) (fun w => pk_le 26 k (fun y => A g (by omega)) (fun y => br_f (by decide) (nm_r (e' := ta_cs ar o (k + 1)) ?_ (nm_r (nI_1 k) (ih (k + 1) (by omega) (by omega)))))))
    · rw [show k = 64 by omega]; exact h
    · show _ = ta_cs ar o k + (if 20 ≤ k ∧ k < 26 then 32 else ar (o + k))
      rw [if_pos ⟨w, y⟩]
theorem xa_checksum {post : Int32 → Prop} {o : Nat} (ho : o + 64 ≤ 768) (h : post (ta_cs ar o 64)) : wpX_checksum post (fa, fb, fl, fe, fp, fn, ft, ct, kd, pr, nm, md, sz, tg, dt, ar, pa) (nI o) :=
  ⟨65, xa_ck ho h 65 0 (by omega) (by omega)⟩
theorem xa_h120 {post : St2 → Prop} {o : Nat} (ho : o + 64 ≤ 768) (h : post (fa, fb, fl, fe, fp, fn, ft, ct, kd, pr, nm, md, sz, tg, dt, ta_wr (ta_wr ar (o + 39) ta_mg) (o + 20) (ta_ol 5 (ta_cs (ta_wr ar (o + 39) ta_mg) o 64)), pa)) :
    ∀ n k, k ≤ 8 → 8 < k + n → wX_writeHeader_120 post (nI o) fa fb fl fe fp fn ft n (nI k) ct kd pr nm md sz tg dt (ta_wr ar (o + 39) (ta_mg.take k)) pa := by
  intro n
  induction n with
  | zero => intro k _ g; omega
  | succ n ih =>
    intro k g1 g2
    refine pk_le 8 k (fun g => ?_) (fun g => xa_magicByte g ?_)
    · have e : ta_mg.take k = ta_mg := by rw [show k = 8 by omega]; rfl
      rw [e]
      exact xa_checksum ho (xa_writeOctal 5 (nI_add o 20) (by omega) h)
    · have ei : nI o + 39 + nI k = nI (o + 39 + k) := by rw [show (39 : Int32) = nI 39 from rfl, nI_add, nI_add]
      refine ⟨by rw [ei]; exact vp_in_nI (by omega) (by omega), nm_r (e' := ta_wr ar (o + 39) (ta_mg.take (k + 1))) ?_ (nm_r (nI_1 k) (ih (k + 1) (by omega) (by omega)))⟩
      rw [ei, nI_clamp (by omega), ta_mgt k g, ← ta_wr_snoc, ta_mgl k (by omega)]
theorem xa_h69 {post : St2 → Prop} {i o : Nat} (hi : i < 8) (ho : o + 64 ≤ 768)
    (h : post (fa, fb, fl, fe, fp, fn, ft, ct, kd, pr, nm, md, sz, tg, dt, ta_wr (ta_wr (ta_wr (ta_wr (ta_wr ar (o + 12) (ta_ol 3 (md i))) (o + 16) (ta_ol 3 (sz i))) (o + 26) [ta_ty (kd i)]) (o + 39) ta_mg) (o + 20) (ta_ol 5 (ta_cs (ta_wr (ta_wr (ta_wr (ta_wr ar (o + 12) (ta_ol 3 (md i))) (o + 16) (ta_ol 3 (sz i))) (o + 26) [ta_ty (kd i)]) (o + 39) ta_mg) o 64)), pa)) :
    wX_writeHeader_69 post (nI i) (nI o) fa fb fl fe fp fn ft ct kd pr nm md sz tg dt ar pa := by
  have i16 : vp_in (nI i) 16 := vp_in_nI (by omega) (by omega)
  have en : (nI i).toNatClampNeg = i := nI_clamp (by omega)
  refine ⟨i16, ?_⟩
  rw [en]
  refine xa_writeOctal 3 (nI_add o 12) (by omega) ⟨i16, ?_⟩
  refine xa_writeOctal 3 (nI_add o 16) (by omega) ⟨i16, ?_⟩
  refine xa_typeflag ?_
  have ei : nI o + 26 = nI (o + 26) := nI_add o 26
  refine ⟨by rw [ei]; exact vp_in_nI (by omega) (by omega), nm_r (e' := ta_wr (ta_wr (ta_wr ar (o + 12) (ta_ol 3 (md i))) (o + 16) (ta_ol 3 (sz i))) (o + 26) [ta_ty (kd i)]) (by rw [ei, nI_clamp (by omega), ta_wr_1]) ?_⟩
  have := xa_h120 (fa := fa) (fb := fb) (fl := fl) (fe := fe) (fp := fp) (fn := fn) (ft := ft) (ct := ct) (kd := kd) (pr := pr) (nm := nm) (md := md) (sz := sz) (tg := tg) (dt := dt) (pa := pa) ho h 9 0 (by omega) (by omega)
  rw [List.take_zero, ta_wr_nil] at this
  exact ⟨9, this⟩
end
