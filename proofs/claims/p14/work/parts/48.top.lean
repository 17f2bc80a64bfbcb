/-! 48: the law's first loop, and the law -/
section
variable {fl fe fp fn ft : Int32} {ct kd pr nm md sz tg dt ar pa : Nat → Int32} {P : Nat → List Int32} {c : Nat}
theorem rt_112 {post : Int32 → Prop} {L kc ks j n1 : Nat} {xs : Nat → Int32} {x2 x3 x7 x8 z0 : Int32} {J : Int32 → Int32 → Int32 → Int32 → Int32 → Int32 → Int32 → Int32 → Int32 → (Nat → Int32) → (Nat → Int32) → (Nat → Int32) → (Nat → Int32) → (Nat → Int32) → (Nat → Int32) → (Nat → Int32) → (Nat → Int32) → (Nat → Int32) → (Nat → Int32) → Prop} (hn : n1 < 2 ^ 31)
    (B : rt_B c ct kd pr nm md sz tg dt ar P)
    (HJ : ∀ c' ct' kd' pr' nm' md' sz' tg' P', rt_B c' ct' kd' pr' nm' md' sz' tg' dt ar P' → J x2 (nI (j + 1)) (nI 8) (nI 12) fl fe fp fn ft ct' kd' pr' nm' md' sz' tg' dt ar pa) :
    wL_law_112 post L xs J x2 x3 (nI j) (nI c) (nI n1) x7 x8 z0 kc ks (nI 8) (nI 12) fl fe fp fn ft ct kd pr nm md sz tg dt ar pa := by
  have K256 : ∀ x10 x11 x14 x16, wL_law_256 post L xs J x2 x3 (nI j) x10 x11 x14 x16 kc ks (nI 8) (nI 12) fl fe fp fn ft ct kd pr nm md sz tg dt ar pa := by
    intro x10 x11 x14 x16
    unfold wL_law_256
    exact rt_add B (fun r c' ct' kd' pr' nm' md' sz' tg' P' B' => nm_r (nI_1 j) (HJ _ _ _ _ _ _ _ _ _ B'))
  have K187 : ∀ x10 x11 len, len ≤ 4 → ∀ n q x14 x15, q ≤ len → len < q + n → wL_law_187 post L xs J x2 x3 (nI j) (nI c) x8 x10 x11 (nI len) kc ks (nI 8) (nI 12) fl fe fp fn ft ct kd pr nm md sz tg dt ar pa n x14 x15 (nI q) := by
    intro x10 x11 len hl n
    induction n with
    | zero => intro q x14 x15 _ g; omega
    | succ n ih =>
      intro q x14 x15 g1 g2
      refine pk_le len q (fun _ => br_c (fun _ => br_c (fun _ => K256 _ _ _ _) (fun z => ⟨z, K256 _ _ _ _⟩)) (fun _ => nm_e (K256 _ _ _ _))) (fun g => rt_ch (fun v => nm_e ⟨by decide, nm_e (nm_r (nI_1 q) (ih (q + 1) _ _ (by omega) (by omega)))⟩))
  have K173 : ∀ x10 x11 len, len ≤ 4 → wL_law_173 post L xs J x2 x3 (nI j) (nI c) x7 x8 x10 x11 (nI len) kc ks (nI 8) (nI 12) fl fe fp fn ft ct kd pr nm md sz tg dt ar pa := fun x10 x11 len hl =>
    nm_e ⟨len + 1, K187 x10 x11 len hl (len + 1) 0 _ _ (Nat.zero_le _) (by omega)⟩
  have K153 : ∀ x10 x11, wL_law_153 post L xs J x2 x3 (nI j) (nI c) x7 x8 x10 x11 kc ks (nI 8) (nI 12) fl fe fp fn ft ct kd pr nm md sz tg dt ar pa := by
    intro x10 x11
    refine br_c (fun _ => K173 x10 x11 4 (by omega)) (fun _ => ?_)
    obtain ⟨q, hq, e⟩ := pk_andE x7 (m := 1) 1 (by decide)
    rw [e, show (1 : Int32) + nI q = nI (1 + q) from nI_add 1 q]
    exact K173 x10 x11 (1 + q) (by omega)
  obtain ⟨b1, I, b3, b4, b5⟩ := B
  obtain ⟨i1, i2, i3, i4, i5, i6, i7, i8, i9⟩ := I
  have e3 : nI n1 / 3 = nI (n1 / 3) := pk_div (d := 3) hn (by omega) (by omega)
  have ec : nI c + 1 = nI (c + 1) := nI_1 c
  refine ⟨by decide, by rw [ec]; exact nI_ne0 (by omega) (by omega), nm_r (e' := nI (n1 / 3 % (c + 1))) (by rw [e3, ec, pk_rem (by omega) (by omega) (by omega)]) ?_⟩
  have hr := Nat.mod_lt (n1 / 3) (show 0 < c + 1 by omega)
  refine pk_le (n1 / 3 % (c + 1)) 0 (fun _ => K153 _ _) (fun g => ?_)
  have es : nI (n1 / 3 % (c + 1)) - 1 = nI (n1 / 3 % (c + 1) - 1) := by
    rw [show (1 : Int32) = nI 1 from rfl, pk_sub (by omega)]
  rw [es]
  obtain ⟨f, f1, f2, f3, f4⟩ := ta_own (t := 0) b1 i5 (show n1 / 3 % (c + 1) - 1 < c by omega)
  exact xa_nodeInfo (t := 0) (w := 0) (by omega) i1 b1 i5 (by omega) f1 f3 (by omega) (br_c (fun _ => nm_e (K153 _ _)) (fun _ => K153 _ _))
end
theorem rt_34 {L kc ks m : Nat} {xs : Nat → Int32} {fl fe fp fn ft : Int32} {dt ar pa : Nat → Int32} (hLs : L ≤ 260) (hm : m ≤ 6) : ∀ n j K c ct kd pr nm md sz tg P, j ≤ m → m < j + n → K + 3 * (m - j) < 600 → rt_B c ct kd pr nm md sz tg dt ar P →
    wL_law_34 (fun r => r = 1) L xs (nI m) kc ks n (nI K) (nI j) (nI 8) (nI 12) fl fe fp fn ft ct kd pr nm md sz tg dt ar pa := by
  intro n
  induction n with
  | zero => intro j K c ct kd pr nm md sz tg P _ g; omega
  | succ n ih =>
    intro j K c ct kd pr nm md sz tg P g1 g2 hK B
    have hct : ct 0 = nI c := B.2.1.1
    refine pk_le m j (fun g => ?_) (fun g => ?_)
    · refine xa_nodeCount (t := 0) (by omega) (nm_r (nI_1 K) (rt_cell hLs (by omega) (fun v => rt_nz (fun q hq => ⟨by decide, nm_r (pk_rem (d := 41) hq (by omega) (by omega)) ⟨q % 41 + 1, ?_⟩⟩))))
      rw [hct]
      exact rt_301 hLs (by omega) (q % 41 + 1) 0 (K + 1) sz dt (Nat.zero_le _) (by omega) (by omega) B
    · refine xa_nodeCount (t := 0) (by omega) ?_
      rw [hct]
      refine nm_r (nI_1 K) (rt_cell hLs (by omega) (fun v1 => rt_nz (fun q1 hq1 => ?_)))
      refine nm_r (nI_1 (K + 1)) (rt_cell hLs (by omega) (fun v2 => rt_nz (fun q2 hq2 => ?_)))
      refine nm_r (nI_1 (K + 2)) (rt_cell hLs (by omega) (fun v3 => rt_nz (fun q3 hq3 => ⟨by decide, nm_e ?_⟩)))
      have R : ∀ z0, wL_law_112 (fun r => r = 1) L xs (wL_law_34 (fun r => r = 1) L xs (nI m) kc ks n) (nI (K + 3)) (nI m) (nI j) (nI c) (nI q1) (nI q2) (nI q3) z0 kc ks (nI 8) (nI 12) fl fe fp fn ft ct kd pr nm md sz tg dt ar pa := fun z0 =>
        rt_112 hq1 B (fun c' ct' kd' pr' nm' md' sz' tg' P' B' => ih (j + 1) (K + 3) c' ct' kd' pr' nm' md' sz' tg' P' (by omega) (by omega) (by omega) B')
      exact br_c (fun _ => R _) (fun _ => br_c (fun _ => R _) (fun _ => R _))
theorem i_vc (xs : Nat → Int32) (L : Nat) (hL : L ≤ 260) : wpL_law (fun r => r = 1) L xs := by
  refine ⟨10, 1408, by omega, by omega, ?_⟩
  unfold wpX_init
  refine ⟨by omega, by omega, by omega, by omega, by omega, by omega, by omega, by omega, by omega, by omega, by omega, by omega, by omega, by omega, by omega, by omega, by omega, by omega, by omega, by omega, ?_⟩
  refine xa_clamp (p := 8) 2 8 (by omega) (by omega) (fun a a1 a2 a3 a4 a5 => xa_clamp (p := 12) 4 12 (by omega) (by omega) (fun b b1 b2 b3 b4 b5 => ?_))
  have ea : a = 8 := (nI_eq (a := a) (b := 8) (by omega) (by omega)).mp (a4 (by decide) (by decide)).symm
  have eb : b = 12 := (nI_eq (a := b) (b := 12) (by omega) (by omega)).mp (b4 (by decide) (by decide)).symm
  subst ea eb
  refine nm_r (e' := nI 1) (by decide) (rt_cell (k := 0) hL (by omega) (fun v => rt_nz (fun q hq => ⟨by decide, ?_⟩)))
  refine nm_r (e' := nI (1 + q % 6)) (by rw [show (6 : Int32) = nI 6 from rfl, pk_rem hq (by omega) (by omega)]; exact nI_add 1 _) ⟨1 + q % 6 + 1, ?_⟩
  refine rt_34 hL (by omega) (1 + q % 6 + 1) 0 1 0 _ _ _ _ _ _ _ (fun _ => []) (Nat.zero_le _) (by omega) (by omega) ⟨by omega, ⟨rfl, rfl, ta_Tr_0, ta_Tr_0, fun i hi => by omega, fun i hi => by omega, fun i hi => by omega, fun _ _ => rfl, fun _ => ⟨0, by omega, rfl⟩⟩, fun i hi => by omega, fun i hi => by omega, fun _ => ⟨0, by omega, rfl⟩⟩
