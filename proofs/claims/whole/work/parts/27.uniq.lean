/-! 27: a step has one outcome -/
theorem ta_HF_u {a : Nat → Int32} {o : Nat} {r r' : Int32} (h : ta_HF a o r) (h' : ta_HF a o r') : r = r' := by
  unfold ta_HF at h h'
  generalize ta_Ck a o = A at h h'
  generalize ta_Mg a o = B at h h'
  generalize ta_Ty a o = C at h h'
  generalize ta_Fl a o = D at h h'
  generalize ta_Sz a o = E at h h'
  generalize (ta_ov a (o + 16) 3 ≤ 32) = F at h h'
  rcases h with ⟨h1, h⟩ | ⟨h1, h2, h⟩ | ⟨h1, h2, h3, h⟩ | ⟨h1, h2, h3, h4, h⟩ | ⟨h1, h2, h3, h4, h5, h6, h⟩ | ⟨h1, h2, h3, h4, h5, h6, h⟩ <;>
  rcases h' with ⟨g1, g⟩ | ⟨g1, g2, g⟩ | ⟨g1, g2, g3, g⟩ | ⟨g1, g2, g3, g4, g⟩ | ⟨g1, g2, g3, g4, g5, g6, g⟩ | ⟨g1, g2, g3, g4, g5, g6, g⟩ <;>
  first
    | exact h.trans g.symm
    | exact absurd h1 g1
    | exact absurd g1 h1
    | exact absurd h2 g2
    | exact absurd g2 h2
    | exact absurd h3 g3
    | exact absurd g3 h3
    | exact absurd ⟨g4, g5⟩ h4
    | exact absurd ⟨h4, h5⟩ g4
    | exact absurd h6 g6
    | exact absurd g6 h6
section
variable {ar kd pr nm tg : Nat → Int32} {P : Nat → List Int32} {c mn o : Nat}
theorem ta_Pa_u (H : ta_Tr 8 c kd pr nm P) {T : List Int32} {s : Nat} {x y : Int32} (h : ta_Pa c kd P T s x) (h' : ta_Pa c kd P T s y) : x = y := by
  rcases h with ⟨a, b⟩ | ⟨a, q, hq, e, _, f⟩
  · rcases h' with ⟨a', b'⟩ | ⟨a', _⟩
    · exact b.trans b'.symm
    · omega
  · rcases h' with ⟨a', b'⟩ | ⟨a', q', hq', e', _, f'⟩
    · omega
    · have : q = q' := ta_P_inj H q q' hq hq' (e.trans e'.symm)
      rw [f, f', this]
theorem ta_Lk_u (H : ta_Tr 8 c kd pr nm P) {x y : Int32} (h : ta_Lk ar o c kd tg P x) (h' : ta_Lk ar o c kd tg P y) : x = y := by
  rcases h with ⟨a, _, b⟩ | ⟨a, _, q, hq, e, _, f⟩
  · rcases h' with ⟨a', _, b'⟩ | ⟨a', _⟩
    · exact b.trans b'.symm
    · exact absurd a' a
  · rcases h' with ⟨a', _, b'⟩ | ⟨a', _, q', hq', e', _, f'⟩
    · exact absurd a a'
    · have : q = q' := ta_P_inj H q q' hq hq' (e.trans e'.symm)
      rw [f, f', this]
theorem ta_EF_u (H : ta_Tr 8 c kd pr nm P) {r nd nv t r' nd' nv' t' : Int32} (h : ta_EF ar o mn c kd tg P r nd nv t) (h' : ta_EF ar o mn c kd tg P r' nd' nv' t') : r = r' ∧ (r = 0 → nd = nd' ∧ nv = nv' ∧ t = t') := by
  rcases h with ⟨a, b⟩ | ⟨a, a1, b⟩ | ⟨a, a1, s, hs, h⟩
  · rcases h' with ⟨_, b'⟩ | ⟨a', _⟩ | ⟨a', _⟩
    · exact ⟨b.trans b'.symm, fun q => absurd (b.symm.trans q) (by decide)⟩
    · exact absurd a' a
    · exact absurd a' a
  · rcases h' with ⟨a', _⟩ | ⟨_, _, b'⟩ | ⟨_, a', _⟩
    · exact absurd a a'
    · exact ⟨b.trans b'.symm, fun q => absurd (b.symm.trans q) (by decide)⟩
    · exact absurd a1 a'
  · rcases h' with ⟨a', _⟩ | ⟨_, a', _⟩ | ⟨_, _, s', hs', h'⟩
    · exact absurd a a'
    · exact absurd a' a1
    · have es := ta_St_uniq hs hs'
      subst es
      rcases h with ⟨n, b⟩ | ⟨p, h⟩
      · rcases h' with ⟨_, b'⟩ | ⟨p', _⟩
        · exact ⟨b.trans b'.symm, fun q => absurd (b.symm.trans q) (by decide)⟩
        · exact absurd p' (n nd')
      · rcases h' with ⟨n', _⟩ | ⟨p', h'⟩
        · exact absurd p (n' nd)
        · rcases h with ⟨d, b⟩ | ⟨d, v, h⟩
          · rcases h' with ⟨_, b'⟩ | ⟨d', _⟩
            · exact ⟨b.trans b'.symm, fun q => absurd (b.symm.trans q) (by decide)⟩
            · exact absurd d d'
          · rcases h' with ⟨d', _⟩ | ⟨_, v', h'⟩
            · exact absurd d' d
            · rcases h with ⟨n, b⟩ | ⟨l, b⟩
              · rcases h' with ⟨_, b'⟩ | ⟨l', _⟩
                · exact ⟨b.trans b'.symm, fun q => absurd (b.symm.trans q) (by decide)⟩
                · exact absurd l' (n t')
              · rcases h' with ⟨n', _⟩ | ⟨l', b'⟩
                · exact absurd l (n' t)
                · exact ⟨b.trans b'.symm, fun _ => ⟨ta_Pa_u H p p', v.trans v'.symm, ta_Lk_u H l l'⟩⟩
theorem ta_Go_u (H : ta_Tr 8 c kd pr nm P) {L b : Nat} {nd nv t nd' nv' t' : Int32} (h : ta_Go ar L mn c kd tg P b nd nv t) (h' : ta_Go ar L mn c kd tg P b nd' nv' t') : nd = nd' ∧ nv = nv' ∧ t = t' :=
  (ta_EF_u H h.2.2.2.1 h'.2.2.2.1).2 rfl
theorem ta_Stop_Go (H : ta_Tr 8 c kd pr nm P) {L b : Nat} {r e nd nv t : Int32} (h : ta_Stop ar L mn c kd tg P b r e) (h' : ta_Go ar L mn c kd tg P b nd nv t) : False := by
  obtain ⟨g1, g2, g3, g4, g5⟩ := h'
  rcases h with ⟨a, _⟩ | ⟨_, a, _⟩ | ⟨_, _, a, rn, _⟩ | ⟨_, _, _, ⟨x, y, w, a⟩, rn, _⟩ | ⟨_, _, _, _, p, a⟩
  · omega
  · exact g2 a
  · exact rn (ta_HF_u a g3)
  · exact rn (ta_EF_u H a g4).1
  · rcases g5 with g5 | ⟨g5, g6⟩
    · omega
    · rcases a with ⟨a, _⟩ | ⟨_, a, _⟩
      · omega
      · exact a g6
theorem ta_Stop_u (H : ta_Tr 8 c kd pr nm P) {L b : Nat} {r e r' e' : Int32} (h : ta_Stop ar L mn c kd tg P b r e) (h' : ta_Stop ar L mn c kd tg P b r' e') : r = r' ∧ e = e' := by
  rcases h with ⟨a, x, y⟩ | ⟨a0, a, h⟩ | ⟨a0, a, f, rn, y⟩ | ⟨a0, a, f, ⟨u, v, w, k⟩, rn, y⟩ | ⟨a0, a, f, ⟨u, v, w, k⟩, p, h⟩
  · rcases h' with ⟨_, x', y'⟩ | ⟨b0, _⟩ | ⟨b0, _⟩ | ⟨b0, _⟩ | ⟨b0, _⟩
    · exact ⟨x.trans x'.symm, y.trans y'.symm⟩
    · omega
    · omega
    · omega
    · omega
  · rcases h' with ⟨b0, _⟩ | ⟨_, _, h'⟩ | ⟨_, b, _⟩ | ⟨_, b, _⟩ | ⟨_, b, _⟩
    · omega
    · rcases h with ⟨l, x, y⟩ | ⟨l, q, x, y⟩ | ⟨l, q, x, y⟩
      · rcases h' with ⟨_, x', y'⟩ | ⟨l', _⟩ | ⟨l', _⟩
        · exact ⟨x.trans x'.symm, y.trans y'.symm⟩
        · omega
        · omega
      · rcases h' with ⟨l', _⟩ | ⟨_, _, x', y'⟩ | ⟨_, q', _⟩
        · omega
        · exact ⟨x.trans x'.symm, y.trans y'.symm⟩
        · exact absurd q' q
      · rcases h' with ⟨l', _⟩ | ⟨_, q', _⟩ | ⟨_, _, x', y'⟩
        · omega
        · exact absurd q q'
        · exact ⟨x.trans x'.symm, y.trans y'.symm⟩
    · exact absurd a b
    · exact absurd a b
    · exact absurd a b
  · rcases h' with ⟨b0, _⟩ | ⟨_, b, _⟩ | ⟨_, _, g, _, y'⟩ | ⟨_, _, g, _⟩ | ⟨_, _, g, _⟩
    · omega
    · exact absurd b a
    · exact ⟨ta_HF_u f g, y.trans y'.symm⟩
    · exact absurd (ta_HF_u f g) rn
    · exact absurd (ta_HF_u f g) rn
  · rcases h' with ⟨b0, _⟩ | ⟨_, b, _⟩ | ⟨_, _, g, rn', _⟩ | ⟨_, _, _, ⟨u', v', w', k'⟩, _, y'⟩ | ⟨_, _, _, ⟨u', v', w', k'⟩, _⟩
    · omega
    · exact absurd b a
    · exact absurd (ta_HF_u g f) rn'
    · exact ⟨(ta_EF_u H k k').1, y.trans y'.symm⟩
    · exact absurd (ta_EF_u H k k').1 rn
  · rcases h' with ⟨b0, _⟩ | ⟨_, b, _⟩ | ⟨_, _, g, rn', _⟩ | ⟨_, _, _, ⟨u', v', w', k'⟩, rn', _⟩ | ⟨_, _, _, _, _, h'⟩
    · omega
    · exact absurd b a
    · exact absurd (ta_HF_u g f) rn'
    · exact absurd (ta_EF_u H k' k).1 rn'
    · rcases h with ⟨l, x, y⟩ | ⟨l, q, x, y⟩
      · rcases h' with ⟨_, x', y'⟩ | ⟨l', _⟩
        · exact ⟨x.trans x'.symm, y.trans y'.symm⟩
        · omega
      · rcases h' with ⟨l', _⟩ | ⟨_, _, x', y'⟩
        · omega
        · exact ⟨x.trans x'.symm, y.trans y'.symm⟩
end
/-- what both states hold of the trees; md: the component's modes, my: the reference's -/
def ta_I (c0 c : Nat) (ct kd pr nm md my sz tg dt : Nat → Int32) (P0 P : Nat → List Int32) : Prop :=
  ct 0 = nI c0 ∧ ct 1 = nI c ∧ ta_Tr 0 c0 kd pr nm P0 ∧ ta_Tr 8 c kd pr nm P ∧ (∀ i, i < c0 → ta_Nx 0 kd sz tg i) ∧ (∀ i, i < c → ta_Nx 8 kd sz tg i) ∧
  (∀ i, i < c0 → kd i = 2 → md i = 0) ∧ (∀ j, kd j ≠ 2 → md j = my j) ∧ (∀ j, ta_by (dt j))
theorem ta_I_ext {c0 c mn L b : Nat} {ct kd pr nm md my sz tg dt ar : Nat → Int32} {P0 P : Nat → List Int32} {nd nv t : Int32} (hc0 : c0 ≤ 8) (hc : c < 8) (hb : ∀ j, ta_by (ar j)) (I : ta_I c0 c ct kd pr nm md my sz tg dt P0 P) (G : ta_Go ar L mn c kd tg P b nd nv t) :
    ∃ P', ta_I c0 (c + 1) (upd ct 1 (nI (c + 1))) (upd kd (8 + c) (ta_ki (ar (64 * b + 26)))) (upd pr (8 + c) nd) (upd nm (8 + c) nv) (upd md (8 + c) (nI (ta_ov ar (64 * b + 12) 3))) (upd my (8 + c) (if ta_ki (ar (64 * b + 26)) = 2 then 0 else nI (ta_ov ar (64 * b + 12) 3))) (upd sz (8 + c) (nI (ta_ov ar (64 * b + 16) 3))) (upd tg (8 + c) t) (ta_wr dt (32 * (8 + c)) (ta_sg ar (64 * b + 64) (ta_ov ar (64 * b + 16) 3))) P0 P' := by
  obtain ⟨i1, i2, i3, i4, i5, i6, i7, i8, i9⟩ := I
  obtain ⟨_, _, hr, hE, _⟩ := G
  obtain ⟨_, _, hTy, hFl, hSz, h32⟩ := ta_HF0 hr
  have hlo : ∀ (a : Nat → Int32) (x : Int32) (i : Nat), i < c0 → upd a (8 + c) x i = a i := fun a x i hi => pk_un (by omega)
  have hlo' : ∀ (a : Nat → Int32) (x : Int32) (i : Nat), i < c0 → upd a (8 + c) x (0 + i) = a (0 + i) := fun a x i hi => pk_un (by omega)
  have hhi : ∀ (a : Nat → Int32) (x : Int32) (i : Nat), i < c → upd a (8 + c) x (8 + i) = a (8 + i) := fun a x i hi => pk_un (by omega)
  rcases hE with ⟨_, q⟩ | ⟨_, _, q⟩ | ⟨hNm, hcm, s, hs, q⟩
  · exact absurd q (by decide)
  · exact absurd q (by decide)
  · rcases q with ⟨_, q⟩ | ⟨hPa, q⟩
    · exact absurd q (by decide)
    · rcases q with ⟨_, q⟩ | ⟨hnd, hnv, q⟩
      · exact absurd q (by decide)
      · rcases q with ⟨_, q⟩ | ⟨hLk, _⟩
        · exact absurd q (by decide)
        · have hPa' : ta_Pa c (upd kd (8 + c) (ta_ki (ar (64 * b + 26)))) P (ta_T ar (64 * b)) s nd := by
            rcases hPa with x | ⟨x, q, hq, y, k3, e⟩
            · exact Or.inl x
            · exact Or.inr ⟨x, q, hq, y, by rw [hhi _ _ q hq]; exact k3, e⟩
          have T8 := ta_Tr_cg i4 (kd' := upd kd (8 + c) (ta_ki (ar (64 * b + 26)))) (par' := upd pr (8 + c) nd) (nm' := upd nm (8 + c) nv) (hhi _ _) (hhi _ _) (hhi _ _)
          have kcase : ta_ki (ar (64 * b + 26)) = 1 ∨ ta_ki (ar (64 * b + 26)) = 2 ∨ ta_ki (ar (64 * b + 26)) = 3 := by rcases hTy with q | q | q <;> rw [q] <;> decide
          have k2 : ta_ki (ar (64 * b + 26)) = 2 → ar (64 * b + 26) = 49 := by rcases hTy with q | q | q <;> rw [q] <;> decide
          have k1 : ta_ki (ar (64 * b + 26)) ≠ 1 → ar (64 * b + 26) ≠ 48 := by rcases hTy with q | q | q <;> rw [q] <;> decide
          have X8 := ta_Nx_cg i6 (kd' := upd kd (8 + c) (ta_ki (ar (64 * b + 26)))) (sz' := upd sz (8 + c) (nI (ta_ov ar (64 * b + 16) 3))) (tg' := upd tg (8 + c) t) (hhi _ _) (hhi _ _) (hhi _ _)
          refine ⟨fun i => if i = c then ta_T ar (64 * b) else P i, by rw [pk_un (by decide)]; exact i1, pk_us, ta_Tr_cg i3 (hlo' _ _) (hlo' _ _) (hlo' _ _), ta_ext_add T8 (by omega) hPa' hs hNm.2.2 hnd pk_us (by rw [pk_us]; exact hnv), ta_Nx_cg i5 (hlo' _ _) (hlo' _ _) (hlo' _ _), ?_, ?_, ?_, ?_⟩
          · intro i hi
            by_cases z : i < c
            · exact X8 i z
            · have e : i = c := by omega
              subst e
              refine ⟨by rw [pk_us]; exact kcase, ?_, by rw [pk_us]; exact ⟨_, h32, rfl⟩, ?_⟩
              · rw [pk_us, pk_us]
                intro kk
                have t49 := k2 kk
                rcases hLk with ⟨q, _⟩ | ⟨_, _, j, hj, _, k3, e⟩
                · exact absurd t49 q
                · obtain ⟨j1, j2, _, _⟩ := i6 j hj
                  by_cases y : kd (8 + j) = 2
                  · rw [if_pos y] at e
                    obtain ⟨q, q1, q2, q3⟩ := j2 y
                    exact ⟨q, by omega, e.trans q2, by rw [hhi _ _ q (by omega)]; exact q3⟩
                  · rw [if_neg y] at e
                    refine ⟨j, hj, e, ?_⟩
                    rw [hhi _ _ j hj]
                    rcases j1 with x | x | x
                    · exact x
                    · exact absurd x y
                    · exact absurd x k3
              · rw [pk_us, pk_us]
                intro kk
                have := hSz (k1 kk)
                rw [this]; rfl
          · intro i hi
            rw [hlo _ _ i hi, hlo _ _ i hi]
            exact i7 i hi
          · intro j
            by_cases z : j = 8 + c
            · rw [z, pk_us, pk_us, pk_us]
              intro y
              rw [if_neg y]
            · rw [pk_un z, pk_un z, pk_un z]
              exact i8 j
          · refine ta_wr_by i9 (fun x hx => ?_)
            obtain ⟨k, _, e⟩ := ta_sg_mem.mp hx
            rw [← e]; exact hb _
