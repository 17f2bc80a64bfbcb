/-! 46: the law from its first extract on -/
def rt_S (c : Nat) (kd pr nm md sz tg dt : Nat → Int32) (P : Nat → List Int32) : Prop :=
  ta_Tr 0 c kd pr nm P ∧ (∀ i, i < c → ta_Nx 0 kd sz tg i) ∧ (∀ i, i < c → kd i ≠ 2 → tg i = -1) ∧ (∀ i, i < c → ∃ m, m < 512 ∧ md i = nI m) ∧ (∀ j, ta_by (dt j)) ∧ (∀ i x, x ∈ P i → ta_by x)
theorem rt_S_E {c k : Nat} {kd pr nm md sz tg dt ct' kd' pr' nm' md' sz' tg' dt' : Nat → Int32} {P : Nat → List Int32} (hc : c ≤ 8) (S : rt_S c kd pr nm md sz tg dt P) (E : rt_E c k kd pr nm md sz tg dt ct' kd' pr' nm' md' sz' tg' dt') : rt_S c kd' pr' nm' md' sz' tg' dt' P := by
  obtain ⟨s1, s2, s3, s4, s5, s6⟩ := S
  obtain ⟨_, _, e, _, _, e6⟩ := E
  refine ⟨ta_Tr_cg s1 (fun i hi => ?_) (fun i hi => ?_) (fun i hi => ?_), ta_Nx_cg s2 (fun i hi => ?_) (fun i hi => ?_) (fun i hi => ?_), fun i hi => ?_, fun i hi => ?_, e6, s6⟩
  · rw [Nat.zero_add]; exact (e i (by omega)).1
  · rw [Nat.zero_add]; exact (e i (by omega)).2.1
  · rw [Nat.zero_add]; exact (e i (by omega)).2.2.1
  · rw [Nat.zero_add]; exact (e i (by omega)).1
  · rw [Nat.zero_add]; exact (e i (by omega)).2.2.2.2.1
  · rw [Nat.zero_add]; exact (e i (by omega)).2.2.2.2.2
  · rw [(e i (by omega)).1, (e i (by omega)).2.2.2.2.2]; exact s3 i hi
  · rw [(e i (by omega)).2.2.2.1]; exact s4 i hi
section
variable {fe fp fn ft : Int32} {ct kd pr nm md sz tg dt ar pa : Nat → Int32} {P : Nat → List Int32} {c : Nat}
theorem rt_s32 (X : ∀ i, i < c → ta_Nx 0 kd sz tg i) : ∀ i, i < c → ∃ s, s ≤ 32 ∧ sz i = nI s ∧ ta_n (sz i) = s := fun i hi => by
  obtain ⟨_, _, ⟨s, s1, s2⟩, _⟩ := X i hi
  rw [Nat.zero_add] at s2
  exact ⟨s, s1, s2, by unfold ta_n; rw [s2, nI_clamp (by omega)]⟩
/-- what create wrote -/
theorem rt_cre (S : rt_S c kd pr nm md sz tg dt P) (hb : ∀ j, ta_by (ar j)) (hft : ∀ i, i < c → ta_ft kd tg P i) (hB : c + 2 + ta_fc sz c ≤ 12) :
    (∀ j, ta_by (ta_cr kd md sz tg dt P (ta_cz ar 768) c j)) ∧ (∀ i, i < c → rt_G (ta_cr kd md sz tg dt P (ta_cz ar 768) c) kd md sz tg dt P i) ∧ (∀ j, j < 128 → ta_cr kd md sz tg dt P (ta_cz ar 768) c (ta_of sz c + j) = 0) := by
  obtain ⟨s1, s2, s3, s4, s5, s6⟩ := S
  have eo : ta_of sz c = 64 * (c + ta_fc sz c) := rfl
  have hf : ∀ k, k < c → ta_ft kd tg P k ∧ ta_n (sz k) ≤ 32 := fun k hk => by
    obtain ⟨s, a1, a2, a3⟩ := rt_s32 s2 k hk
    exact ⟨hft k hk, by omega⟩
  have hz : ∀ j, j < 768 → ta_cz ar 768 j = 0 := fun j hj => if_pos hj
  refine ⟨ta_cr_by (fun j => ?_) s5 s6 c, fun i hi => rt_cr_G hf s4 (fun k hk => ?_) hz (by omega) hi, fun j hj => ?_⟩
  · unfold ta_cz
    by_cases z : j < 768
    · rw [if_pos z]; exact ta_by_n (n := 0) (by omega)
    · rw [if_neg z]; exact hb j
  · obtain ⟨s, a1, a2, a3⟩ := rt_s32 s2 k hk
    exact ⟨s, a1, a2⟩
  · rw [ta_cr_out c hf _ (by omega)]
    exact hz _ (by omega)
theorem rt_E0 (hct : ct 0 = nI c) (hd : ∀ j, ta_by (dt j)) : rt_E c 0 kd pr nm md sz tg dt (upd ct 1 0) kd pr nm md sz tg dt :=
  ⟨by rw [pk_un (by decide)]; exact hct, pk_us, fun _ _ => ⟨rfl, rfl, rfl, rfl, rfl, rfl⟩, fun _ _ => rfl, fun i hi => by omega, hd⟩
theorem rt_ext_ok (S : rt_S c kd pr nm md sz tg dt P) (hct : ct 0 = nI c) (hc : c ≤ 8) (hb : ∀ j, ta_by (ar j)) (hft : ∀ i, i < c → ta_ft kd tg P i) (hG : ∀ i, i < c → rt_G ar kd md sz tg dt P i) (hz : ∀ j, j < 128 → ar (ta_of sz c + j) = 0) (hB : c + 2 + ta_fc sz c ≤ 12) {post : Int32 → St2 → Prop}
    (h : ∀ ct' kd' pr' nm' md' sz' tg' dt', rt_E c c kd pr nm md sz tg dt ct' kd' pr' nm' md' sz' tg' dt' → ∀ fp fn ft pa, post (nI c) (nI 8, nI 12, nI (64 * (c + 2 + ta_fc sz c)), -1, fp, fn, ft, ct', kd', pr', nm', md', sz', tg', dt', ar, pa)) :
    wpX_extract post (nI 8, nI 12, nI (64 * (c + 2 + ta_fc sz c)), fe, fp, fn, ft, ct, kd, pr, nm, md, sz, tg, dt, ar, pa) := by
  have eo : ta_of sz c = 64 * (c + ta_fc sz c) := rfl
  refine nm_e ⟨c + 1, ?_⟩
  exact rt_run S.1 S.2.1 hc S.2.2.1 hft hb (Nat.le_refl c) hG (by omega) (by omega) (fun ct' kd' pr' nm' md' sz' tg' dt' E => ⟨nI c, -1, rt_ok hz (by omega), h _ _ _ _ _ _ _ _ E⟩) (c + 1) 0 _ _ _ _ _ _ _ _ fp fn ft pa (Nat.zero_le _) (by omega) (rt_E0 hct S.2.2.2.2.1)
theorem rt_ext_bad (S : rt_S c kd pr nm md sz tg dt P) (hct : ct 0 = nI c) (hc : c ≤ 8) (hb : ∀ j, ta_by (ar j)) (hft : ∀ i, i < c → ta_ft kd tg P i) (hG : ∀ i, i < c → rt_G ar kd md sz tg dt P i) (hz : ∀ j, j < 128 → ar (ta_of sz c + j) = 0) (hB : c + 2 + ta_fc sz c ≤ 12) {p : Nat} {x : Int32} (hp : p < 64 * (c + 2 + ta_fc sz c)) (hx : ta_by x) (hne : ar p ≠ x)
    (hex : ∀ i, i < c → 0 < ta_n (sz i) → ¬ (ta_of sz i + 64 ≤ p ∧ p < ta_of sz i + 64 + ta_n (sz i))) {post : Int32 → St2 → Prop} (h : ∀ r u, r < 0 → post r u) :
    wpX_extract post (nI 8, nI 12, nI (64 * (c + 2 + ta_fc sz c)), fe, fp, fn, ft, ct, kd, pr, nm, md, sz, tg, dt, upd ar p x, pa) := by
  have eo : ta_of sz c = 64 * (c + ta_fc sz c) := rfl
  obtain ⟨k1, a1, a2, a3⟩ := rt_poke S.1 S.2.1 hc S.2.2.1 hft hb hG hz (L := 64 * (c + 2 + ta_fc sz c)) (by omega) hp hx hne hex
  refine nm_e ⟨k1 + 1, ?_⟩
  exact rt_run S.1 S.2.1 hc S.2.2.1 hft (ta_upd_by hb hx) a1 a2 (by omega) (by omega) (fun ct' kd' pr' nm' md' sz' tg' dt' E => by
    obtain ⟨r, e, q1, q2⟩ := a3 _ _ _ _ _ _ _ _ E
    exact ⟨r, e, q1, fun _ _ _ _ => h _ _ q2⟩) (k1 + 1) 0 _ _ _ _ _ _ _ _ fp fn ft pa (Nat.zero_le _) (by omega) (rt_E0 hct S.2.2.2.2.1)
/-- the search for p among the contents, the poke, the last extract -/
theorem rt_541 {L K kc ks p : Nat} {xs : Nat → Int32} (hLs : L ≤ 260) (hK : K < 900) (S : rt_S c kd pr nm md sz tg dt P) (hct : ct 0 = nI c) (hc : c ≤ 8) (hb : ∀ j, ta_by (ar j)) (hft : ∀ i, i < c → ta_ft kd tg P i) (hG : ∀ i, i < c → rt_G ar kd md sz tg dt P i) (hz : ∀ j, j < 128 → ar (ta_of sz c + j) = 0) (hB : c + 2 + ta_fc sz c ≤ 12) (hp : p < 64 * (c + 2 + ta_fc sz c)) :
    ∀ n k x, k ≤ c → c < k + n → (x = 1 ∨ (x = 0 ∧ ∀ i, i < k → 0 < ta_n (sz i) → ¬ (ta_of sz i + 64 ≤ p ∧ p < ta_of sz i + 64 + ta_n (sz i)))) →
      wL_law_541 (fun r => r = 1) L xs (nI K) (nI c) (nI p) kc ks (nI 8) (nI 12) (nI (64 * (c + 2 + ta_fc sz c))) fe fp fn ft ct kd pr nm md sz tg dt ar pa n (nI (k + ta_fc sz k)) x (nI k) := by
  have X := S.2.1
  intro n
  induction n with
  | zero => intro k x _ g; omega
  | succ n ih =>
    intro k x g1 g2 g3
    refine pk_le c k (fun g => ?_) (fun g => ?_)
    · have ek : k = c := by omega
      subst ek
      rcases g3 with x1 | ⟨x0, hex⟩
      · exact br_f (by rw [x1]; decide) rfl
      · refine br_t x0 (xa_archiveByte hp (by omega) (nm_e (rt_cell hLs (by omega) (fun v => rt_nz (fun m hm => ⟨by decide, by decide, ?_⟩)))))
        obtain ⟨q, q1, q2⟩ := hb p
        have ev : ar p + 1 + (nI m - nI m / 255 * 255) - (ar p + 1 + (nI m - nI m / 255 * 255)) / 256 * 256 = nI ((q + 1 + m % 255) % 256) := by
          rw [q2, nI_1, show (255 : Int32) = nI 255 from rfl, pk_rem hm (by omega) (by omega), nI_add, show (256 : Int32) = nI 256 from rfl, pk_rem (by omega) (by omega) (by omega)]
        refine nm_r ev (xa_pokeArchive hp (by omega) (ta_by_n (by omega)) (fun r => ?_))
        refine rt_ext_bad S hct hc hb hft hG hz hB hp (ta_by_n (by omega)) ?_ hex (fun r u hr => br_f (Int32.not_le.mpr hr) rfl)
        rw [q2]
        intro e
        have := (nI_eq (by omega) (by omega)).mp e
        omega
    · obtain ⟨s, s1, s2, s3⟩ := rt_s32 X k g
      obtain ⟨f, f1, f2, f3, f4⟩ := ta_own (t := 0) hc X g
      have x14 := (X k g).2.2.2
      have fcl := ta_fc_le sz k
      have fcm := ta_fc_mono sz (show k + 1 ≤ c by omega)
      rw [Nat.zero_add] at x14
      refine xa_nodeInfo (t := 0) (w := 4) (by omega) hct hc X g f1 f3 (by omega) ?_
      refine xa_nodeInfo (t := 0) (w := 0) (by omega) hct hc X g f1 f3 (by omega) ?_
      have v4 : rt_v kd pr nm md sz tg (8 * 0 + k) (8 * 0 + f) 4 = sz f := by
        show sz (8 * 0 + f) = sz f
        rw [Nat.mul_zero, Nat.zero_add]
      have v0 : rt_v kd pr nm md sz tg (8 * 0 + k) (8 * 0 + f) 0 = kd k := by
        show kd (8 * 0 + k) = kd k
        rw [Nat.mul_zero, Nat.zero_add]
      rw [v4, v0]
      refine br_c (fun k1 => ?_) (fun k1 => ?_)
      · have ef : f = k := by
          rcases f3 with ⟨q, _⟩ | ⟨_, q⟩
          · rw [Nat.mul_zero, Nat.zero_add, k1] at q; exact absurd q (by decide)
          · exact q
        rw [ef]
        have eo : ta_of sz k = 64 * (k + ta_fc sz k) := rfl
        have nxt : 0 < s → ∀ y, (y = 1 ∨ (y = 0 ∧ ∀ i, i < k + 1 → 0 < ta_n (sz i) → ¬ (ta_of sz i + 64 ≤ p ∧ p < ta_of sz i + 64 + ta_n (sz i)))) → wL_law_541 (fun r => r = 1) L xs (nI K) (nI c) (nI p) kc ks (nI 8) (nI 12) (nI (64 * (c + 2 + ta_fc sz c))) fe fp fn ft ct kd pr nm md sz tg dt ar pa n (nI (k + ta_fc sz k + 2)) y (nI (k + 1)) := by
          intro hs y hy
          have := ih (k + 1) y (by omega) (by omega) hy
          rw [ta_fc_p (by omega), show k + 1 + (ta_fc sz k + 1) = k + ta_fc sz k + 2 by omega] at this
          exact this
        have keep : (¬ (ta_of sz k + 64 ≤ p ∧ p < ta_of sz k + 64 + s)) → (x = 1 ∨ (x = 0 ∧ ∀ i, i < k + 1 → 0 < ta_n (sz i) → ¬ (ta_of sz i + 64 ≤ p ∧ p < ta_of sz i + 64 + ta_n (sz i)))) := by
          intro q
          rcases g3 with x1 | ⟨x0, h⟩
          · exact Or.inl x1
          · refine Or.inr ⟨x0, fun i hi => ?_⟩
            rcases Nat.lt_or_ge i k with y | y
            · exact h i y
            · rw [show i = k by omega, s3]; exact fun _ => q
        refine pk_le s 0 (fun q => nm_r (nI_1 _) (nm_r (nI_1 k) ?_)) (fun q => ?_) (hx := s2)
        · have := ih (k + 1) x (by omega) (by omega) (keep (by omega))
          rw [ta_fc_z (by omega), show k + 1 + ta_fc sz k = k + ta_fc sz k + 1 by omega] at this
          exact this
        · have e14 : 64 * (nI (k + ta_fc sz k) + 1) = nI (ta_of sz k + 64) := by
            rw [nI_1, show (64 : Int32) = nI 64 from rfl, pk_mul, eo]; exact congrArg nI (by omega)
          have e2 : nI (k + ta_fc sz k) + 2 = nI (k + ta_fc sz k + 2) := nI_add _ 2
          refine nm_r e14 (pk_lt p (ta_of sz k + 64) (fun w => nm_r e2 (nm_r (nI_1 k) (nxt q x (keep (by omega))))) (fun w => ?_))
          have es : nI (ta_of sz k + 64) + sz k = nI (ta_of sz k + 64 + s) := by rw [s2, nI_add]
          exact pk_le (ta_of sz k + 64 + s) p (fun y => nm_r e2 (nm_r (nI_1 k) (nxt q x (keep (by omega))))) (fun y => nm_r e2 (nm_r (nI_1 k) (nxt q 1 (Or.inl rfl)))) (hx := es)
      · have e0 : s = 0 := by
          have := x14 k1
          rw [s2] at this
          exact (nI_eq (b := 0) (by omega) (by omega)).mp this
        refine nm_r (nI_1 _) (nm_r (nI_1 k) ?_)
        have hh : x = 1 ∨ (x = 0 ∧ ∀ i, i < k + 1 → 0 < ta_n (sz i) → ¬ (ta_of sz i + 64 ≤ p ∧ p < ta_of sz i + 64 + ta_n (sz i))) := by
          rcases g3 with x1 | ⟨x0, h⟩
          · exact Or.inl x1
          · refine Or.inr ⟨x0, fun i hi => ?_⟩
            rcases Nat.lt_or_ge i k with y | y
            · exact h i y
            · rw [show i = k by omega]; intro w; omega
        have := ih (k + 1) x (by omega) (by omega) hh
        rw [ta_fc_z (by omega), show k + 1 + ta_fc sz k = k + ta_fc sz k + 1 by omega] at this
        exact this
end
