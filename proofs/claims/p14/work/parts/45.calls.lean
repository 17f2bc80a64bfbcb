/-! 45: the calls that the law makes -/
def rt_v (kd pr nm md sz tg : Nat → Int32) (s f w : Nat) : Int32 := if w = 0 then kd s else if w = 1 then pr s else if w = 2 then nm s else if w = 3 then md f else if w = 4 then sz f else tg s
def rt_o (kd tg : Nat → Int32) (t i f : Nat) : Prop := (kd (8 * t + i) = 2 ∧ tg (8 * t + i) = nI f) ∨ (kd (8 * t + i) ≠ 2 ∧ f = i)
section
variable {fa fb fl fe fp fn ft : Int32} {ct kd pr nm md sz tg dt ar pa : Nat → Int32} {c t : Nat}
theorem xa_nodeInfo (ht : t < 2) (hct : ct t = nI c) (hc : c ≤ 8) (X : ∀ i, i < c → ta_Nx (8 * t) kd sz tg i) {i f w : Nat} (hi : i < c) (hf : f < c) (hf3 : rt_o kd tg t i f) (hw : w ≤ 5) {post : Int32 → Prop} (h : post (rt_v kd pr nm md sz tg (8 * t + i) (8 * t + f) w)) :
    wpX_nodeInfo post (fa, fb, fl, fe, fp, fn, ft, ct, kd, pr, nm, md, sz, tg, dt, ar, pa) (nI t) (nI i) (nI w) := by
  have e8 : (nI t * 8) + nI i = nI (8 * t + i) := ta_ix t i
  have iv : vp_in (nI (8 * t + i)) 16 := vp_in_nI (by omega) (by omega)
  have en : (nI (8 * t + i)).toNatClampNeg = 8 * t + i := nI_clamp (by omega)
  have ivf : vp_in (nI (8 * t + f)) 16 := vp_in_nI (by omega) (by omega)
  have enf : (nI (8 * t + f)).toNatClampNeg = 8 * t + f := nI_clamp (by omega)
  unfold wpX_nodeInfo
  refine xa_isTree ht (br_f (by decide) ?_)
  refine xa_isNode ht hct hc (fun _ _ _ => br_f (by decide) (nm_r e8 ?_)) (fun n => absurd rfl (n i hi))
  refine xa_cs ht hc X hi hf hf3 ?_
  rw [en, enf]
  refine br_f (nI_pos (by omega)) (br_f (nI_nlt (a := 5) (by omega) (by decide)) ?_)
  unfold rt_v at h
  refine pk_eq w 0 (fun q => ⟨iv, ?_⟩) (fun q0 => pk_eq w 1 (fun q => ⟨iv, ?_⟩) (fun q1 => pk_eq w 2 (fun q => ⟨iv, ?_⟩) (fun q2 => pk_eq w 3 (fun q => ⟨ivf, ?_⟩) (fun q3 => pk_eq w 4 (fun q => ⟨ivf, ?_⟩) (fun q4 => pk_eq w 5 (fun q => ⟨iv, ?_⟩) (fun q5 => by omega))))))
  · rw [if_pos q] at h; exact h
  · rw [if_neg q0, if_pos q] at h; exact h
  · rw [if_neg q0, if_neg q1, if_pos q] at h; exact h
  · rw [if_neg q0, if_neg q1, if_neg q2, if_pos q] at h; exact h
  · rw [if_neg q0, if_neg q1, if_neg q2, if_neg q3, if_pos q] at h; exact h
  · rw [if_neg q0, if_neg q1, if_neg q2, if_neg q3, if_neg q4] at h; exact h
def rt_b (sz dt : Nat → Int32) (f q : Nat) : Int32 := if q < ta_n (sz f) then dt (32 * f + q) else -2
theorem xa_nodeByte (ht : t < 2) (hct : ct t = nI c) (hc : c ≤ 8) (X : ∀ i, i < c → ta_Nx (8 * t) kd sz tg i) {i f : Nat} (hi : i < c) (hf : f < c) (hf3 : rt_o kd tg t i f) {x : Int32} {post : Int32 → Prop} (h0 : x < 0 → post (-2)) (h : ∀ q, q < 2 ^ 31 → x = nI q → post (rt_b sz dt (8 * t + f) q)) :
    wpX_nodeByte post (fa, fb, fl, fe, fp, fn, ft, ct, kd, pr, nm, md, sz, tg, dt, ar, pa) (nI t) (nI i) x := by
  have ivf : vp_in (nI (8 * t + f)) 16 := vp_in_nI (by omega) (by omega)
  have enf : (nI (8 * t + f)).toNatClampNeg = 8 * t + f := nI_clamp (by omega)
  obtain ⟨s, s1, s2⟩ := (X f hf).2.2.1
  have es : ta_n (sz (8 * t + f)) = s := by unfold ta_n; rw [s2, nI_clamp (by omega)]
  unfold wpX_nodeByte
  refine xa_isTree ht (br_f (by decide) ?_)
  refine xa_isNode ht hct hc (fun _ _ _ => br_f (by decide) ?_) (fun n => absurd rfl (n i hi))
  refine xa_cs ht hc X hi hf hf3 ?_
  rw [enf]
  refine br_c h0 (fun z => ⟨ivf, ?_⟩)
  obtain ⟨q, hq, rfl⟩ := nI_of z
  have h := h q hq rfl
  unfold rt_b at h
  rw [es] at h
  refine pk_lt q s (fun g => ?_) (fun g => ?_) (hy := s2)
  · have ex : nI (8 * t + f) * 32 + nI q = nI (32 * (8 * t + f) + q) := by rw [show (32 : Int32) = nI 32 from rfl, pk_mul, nI_add, Nat.mul_comm]
    rw [if_pos g] at h
    rw [ex, nI_clamp (by omega)]
    exact ⟨vp_in_nI (by omega) (by omega), h⟩
  · rw [if_neg (by omega)] at h; exact h
theorem xa_appendData (hct : ct 0 = nI c) (hc : c ≤ 8) (X : ∀ i, i < c → ta_Nx 0 kd sz tg i) {x y : Int32} {post : Int32 → St2 → Prop}
    (hE : ∀ r, post r (fa, fb, fl, fe, fp, fn, ft, ct, kd, pr, nm, md, sz, tg, dt, ar, pa))
    (hS : ∀ r f s, f < c → s < 32 → kd f = 1 → ta_by y → post r (fa, fb, fl, fe, fp, fn, ft, ct, kd, pr, nm, md, upd sz f (nI (s + 1)), tg, upd dt (32 * f + s) y, ar, pa)) :
    wpX_appendData post (fa, fb, fl, fe, fp, fn, ft, ct, kd, pr, nm, md, sz, tg, dt, ar, pa) x y := by
  unfold wpX_appendData
  refine xa_isNode (t := 0) (by omega) hct hc (fun j hj e => br_f (by decide) ?_) (fun no => br_t rfl (hE _))
  have G : ∀ f : Nat, f < c → kd f = 1 → wpX_isByte (fun r_39 => ((r_39 = 0 → post (-2) (fa, fb, fl, fe, fp, fn, ft, ct, kd, pr, nm, md, sz, tg, dt, ar, pa)) ∧ (¬ r_39 = 0 → (vp_in (nI f) 16 ∧ (∀ x4_42 : Int32, x4_42 = sz (nI f).toNatClampNeg → ((x4_42 < 32 → (vp_in ((nI f * 32) + x4_42) 512 ∧ (∀ a_c : Nat → Int32, a_c = upd dt ((nI f * 32) + x4_42).toNatClampNeg y → (vp_in (nI f) 16 ∧ (∀ a_s : Nat → Int32, a_s = upd sz (nI f).toNatClampNeg (x4_42 + 1) → post (x4_42 + 1) (fa, fb, fl, fe, fp, fn, ft, ct, kd, pr, nm, md, a_s, tg, a_c, ar, pa)))))) ∧ (¬ x4_42 < 32 → post (-3) (fa, fb, fl, fe, fp, fn, ft, ct, kd, pr, nm, md, sz, tg, dt, ar, pa)))))))) () y := by
    intro f hf k1
    obtain ⟨_, _, ⟨s, s1, s2⟩, _⟩ := X f hf
    rw [Nat.zero_add] at s2
    have ivf : vp_in (nI f) 16 := vp_in_nI (by omega) (by omega)
    have enf : (nI f).toNatClampNeg = f := nI_clamp (by omega)
    have ef : sz (nI f).toNatClampNeg = nI s := by rw [enf]; exact s2
    refine xa_isByte (fun b0 b1 b2 => br_f (by decide) ⟨ivf, nm_r ef (pk_lt s 32 (fun g => ?_) (fun g => hE _))⟩) (fun q => br_t rfl (hE _))
    have ex : nI f * 32 + nI s = nI (32 * f + s) := by rw [show (32 : Int32) = nI 32 from rfl, pk_mul, nI_add, Nat.mul_comm]
    have ivx : vp_in (nI f * 32 + nI s) 512 := by rw [ex]; exact vp_in_nI (by omega) (by omega)
    exact ⟨ivx, nm_r (e' := upd dt (32 * f + s) y) (by rw [ex, nI_clamp (by omega)]) ⟨ivf, nm_r (e' := upd sz f (nI (s + 1))) (by rw [enf, nI_1]) (hS _ f s hf g k1 b2)⟩⟩
  refine xa_fileBehind (t := 0) (by omega) hct hc (fun q hq e k3 k2 => ?_) (fun q hq e k3 k2 => ?_) (fun w => br_t rfl (hE _))
  · simp only [Nat.mul_zero, Nat.zero_add] at k3 k2 ⊢
    obtain ⟨_, hx, _⟩ := X q hq
    simp only [Nat.zero_add] at hx
    obtain ⟨f, g1, g2, g3⟩ := hx k2
    rw [g2]
    exact br_f (fun z => nI_pos (n := f) (by omega) (by rw [z]; decide)) (G f (by omega) g3)
  · simp only [Nat.mul_zero, Nat.zero_add] at k3 k2
    have hkk := (X q hq).1
    rw [Nat.zero_add] at hkk
    have k1 : kd q = 1 := by
      rcases hkk with x | x | x
      · exact x
      · exact absurd x k2
      · exact absurd x k3
    exact br_f (fun z => nI_pos (n := q) (by omega) (by rw [z]; decide)) (G q hq k1)
theorem xa_archiveByte {L j : Nat} (hj : j < L) (hL : L ≤ 768) {post : Int32 → Prop} (h : post (ar j)) : wpX_archiveByte post (fa, fb, nI L, fe, fp, fn, ft, ct, kd, pr, nm, md, sz, tg, dt, ar, pa) (nI j) := by
  refine br_f (nI_pos (by omega)) (br_t (nI_lt hj (by omega)) ⟨vp_in_nI (by omega) (by omega), ?_⟩)
  rw [nI_clamp (by omega)]; exact h
theorem xa_pokeArchive {L j : Nat} {x : Int32} (hj : j < L) (hL : L ≤ 768) (hx : ta_by x) {post : Int32 → St2 → Prop} (h : ∀ r, post r (fa, fb, nI L, fe, fp, fn, ft, ct, kd, pr, nm, md, sz, tg, dt, upd ar j x, pa)) : wpX_pokeArchive post (fa, fb, nI L, fe, fp, fn, ft, ct, kd, pr, nm, md, sz, tg, dt, ar, pa) (nI j) x := by
  have iv : vp_in (nI j) 768 := vp_in_nI (by omega) (by omega)
  have en : (nI j).toNatClampNeg = j := nI_clamp (by omega)
  refine br_f (nI_pos (by omega)) (br_f (nI_ge hj (by omega)) (xa_isByte (fun _ _ _ => br_f (by decide) ⟨iv, nm_e ⟨iv, nm_r (by rw [en]) (h _)⟩⟩) (fun q => ?_)))
  obtain ⟨n, n1, n2⟩ := hx
  rcases q with q | ⟨_, q⟩
  · rw [n2] at q; exact absurd q (nI_pos (by omega))
  · rw [n2] at q; exact absurd (nI_le (b := 255) (by omega) (by decide)) q
theorem xa_nodeCount (ht : t < 2) {post : Int32 → Prop} (h : post (ct t)) : wpX_nodeCount post (fa, fb, fl, fe, fp, fn, ft, ct, kd, pr, nm, md, sz, tg, dt, ar, pa) (nI t) := by
  unfold wpX_nodeCount
  refine xa_isTree ht (br_f (by decide) ⟨vp_in_nI ht (by omega), ?_⟩)
  rw [nI_clamp (by omega)]; exact h
end
theorem rt_cell {post : Int32 → Prop} {L : Nat} {xs : Nat → Int32} (hL : L ≤ 260) {k : Nat} (hk : k < 1000) (h : ∀ v, post v) : wpL_cell post L xs () (nI k) := by
  refine br_c (fun _ => h _) (fun z => ⟨vp_in_nI ?_ (by omega), h _⟩)
  rcases Nat.lt_or_ge k L with y | y
  · exact y
  · exact absurd (nI_le y (by omega)) z
theorem rt_nz {post : Int32 → Prop} {x : Int32} (h : ∀ n, n < 2 ^ 31 → post (nI n)) : wpL_nz post () x := by
  obtain ⟨j, hj, e⟩ := pk_andE x (m := 2147483647) 31 (by decide)
  have := h j hj
  rw [← e] at this
  exact this
theorem rt_ch {post : Int32 → Prop} {x : Int32} (h : ∀ v, post v) : wpL_ch post () x :=
  ⟨by decide, fun _ _ => br_c (fun _ => br_c (fun _ => h _) (fun _ => h _)) (fun _ => h _)⟩
