/-! 27: a step has one outcome -/
theorem ta_HF_u {a : Nat → Int32} {o : Nat} {r r' : Int32} (h : ta_HF a o r) (h' : ta_HF a o r') : r = r' := by
  unfold ta_HF at h h'
  generalize ta_Ck a o = A at h h'
  generalize ta_Mg a o = B at h h'
  generalize ta_Ty a o = C at h h'
  generalize ta_Fl a o = D at h h'
  generalize ta_Sz a o = E at h h'
  generalize (ta_ov a (o + 16) 3 ≤ 32) = F at h h'
  rcases h with ⟨h1, h⟩ | ⟨h1, h2, h⟩ | ⟨h1, h2, h3, h⟩ | ⟨h1, h2, h3, h4, h⟩ | ⟨h1, h2, h3, h4, h5, h6, h⟩ | ⟨h1, h2, h3, h4, h5, h6, h⟩ <;>
  rcases h' with ⟨g1, g⟩ | ⟨g1, g2, g⟩ | ⟨g1, g2, g3, g⟩ | ⟨g1, g2, g3, g4, g⟩ | ⟨g1, g2, g3, g4, g5, g6, g⟩ | ⟨g1, g2, g3, g4, g5, g6, g⟩ <;>
  first
    | exact h.trans g.symm
    | exact absurd h1 g1
    | exact absurd g1 h1
    | exact absurd h2 g2
    | exact absurd g2 h2
    | exact absurd h3 g3
    | exact absurd g3 h3
    | exact absurd ⟨g4, g5⟩ h4
    | exact absurd ⟨h4, h5⟩ g4
    | exact absurd h6 g6
    | exact absurd g6 h6
section
variable {ar kd pr nm tg : Nat → Int32} {P : Nat → List Int32} {c mn o : Nat}
theorem ta_Pa_u (H : ta_Tr 8 c kd pr nm P) {T : List Int32} {s : Nat} {x y : Int32} (h : ta_Pa c kd P T s x) (h' : ta_Pa c kd P T s y) : x = y := by
  rcases h with ⟨a, b⟩ | ⟨a, q, hq, e, _, f⟩
  · rcases h' with ⟨a', b'⟩ | ⟨a', _⟩
    · exact b.trans b'.symm
    · omega
  · rcases h' with ⟨a', b'⟩ | ⟨a', q', hq', e', _, f'⟩
    · omega
    · have : q = q' := ta_P_inj H q q' hq hq' (e.trans e'.symm)
      rw [f, f', this]
theorem ta_Lk_u (H : ta_Tr 8 c kd pr nm P) {x y : Int32} (h : ta_Lk ar o c kd tg P x) (h' : ta_Lk ar o c kd tg P y) : x = y := by
  rcases h with ⟨a, _, b⟩ | ⟨a, _, q, hq, e, _, f⟩
  · rcases h' with ⟨a', _, b'⟩ | ⟨a', _⟩
    · exact b.trans b'.symm
    · exact absurd a' a
  · rcases h' with ⟨a', _, b'⟩ | ⟨a', _, q', hq', e', _, f'⟩
    · exact absurd a a'
    · have : q = q' := ta_P_inj H q q' hq hq' (e.trans e'.symm)
      rw [f, f', this]
theorem ta_EF_u (H : ta_Tr 8 c kd pr nm P) {r nd nv t r' nd' nv' t' : Int32} (h : ta_EF ar o mn c kd tg P r nd nv t) (h' : ta_EF ar o mn c kd tg P r' nd' nv' t') : r = r' ∧ (r = 0 → nd = nd' ∧ nv = nv' ∧ t = t') := by
  rcases h with ⟨a, b⟩ | ⟨a, a1, b⟩ | ⟨a, a1, s, hs, h⟩
  · rcases h' with ⟨_, b'⟩ | ⟨a', _⟩ | ⟨a', _⟩
    · exact ⟨b.trans b'.symm, fun q => absurd (b.symm.trans q) (by decide)⟩
    · exact absurd a' a
    · exact absurd a' a
  · rcases h' with ⟨a', _⟩ | ⟨_, _, b'⟩ | ⟨_, a', _⟩
    · exact absurd a a'
    · exact ⟨b.trans b'.symm, fun q => absurd (b.symm.trans q) (by decide)⟩
    · exact absurd a1 a'
  · rcases h' with ⟨a', _⟩ | ⟨_, a', _⟩ | ⟨_, _, s', hs', h'⟩
    · exact absurd a a'
    · exact absurd a' a1
    · have es := ta_St_uniq hs hs'
      subst es
      rcases h with ⟨n, b⟩ | ⟨p, h⟩
      · rcases h' with ⟨_, b'⟩ | ⟨p', _⟩
        · exact ⟨b.trans b'.symm, fun q => absurd (b.symm.trans q) (by decide)⟩
        · exact absurd p' (n nd')
      · rcases h' with ⟨n', _⟩ | ⟨p', h'⟩
        · exact absurd p (n' nd)
        · rcases h with ⟨d, b⟩ | ⟨d, v, h⟩
          · rcases h' with ⟨_, b'⟩ | ⟨d', _⟩
            · exact ⟨b.trans b'.symm, fun q => absurd (b.symm.trans q) (by decide)⟩
            · exact absurd d d'
          · rcases h' with ⟨d', _⟩ | ⟨_, v', h'⟩
            · exact absurd d' d
            · rcases h with ⟨n, b⟩ | ⟨l, b⟩
              · rcases h' with ⟨_, b'⟩ | ⟨l', _⟩
                · exact ⟨b.trans b'.symm, fun q => absurd (b.symm.trans q) (by decide)⟩
                · exact absurd l' (n t')
              · rcases h' with ⟨n', _⟩ | ⟨l', b'⟩
                · exact absurd l (n' t)
                · exact ⟨b.trans b'.symm, fun _ => ⟨ta_Pa_u H p p', v.trans v'.symm, ta_Lk_u H l l'⟩⟩
theorem ta_Go_u (H : ta_Tr 8 c kd pr nm P) {L b : Nat} {nd nv t nd' nv' t' : Int32} (h : ta_Go ar L mn c kd tg P b nd nv t) (h' : ta_Go ar L mn c kd tg P b nd' nv' t') : nd = nd' ∧ nv = nv' ∧ t = t' :=
  (ta_EF_u H h.2.2.2.1 h'.2.2.2.1).2 rfl
theorem ta_Stop_Go (H : ta_Tr 8 c kd pr nm P) {L b : Nat} {r e nd nv t : Int32} (h : ta_Stop ar L mn c kd tg P b r e) (h' : ta_Go ar L mn c kd tg P b nd nv t) : False := by
  obtain ⟨g1, g2, g3, g4, g5⟩ := h'
  rcases h with ⟨a, _⟩ | ⟨_, a, _⟩ | ⟨_, _, a, rn, _⟩ | ⟨_, _, _, ⟨x, y, w, a⟩, rn, _⟩ | ⟨_, _, _, _, p, a⟩
  · omega
  · exact g2 a
  · exact rn (ta_HF_u a g3)
  · exact rn (ta_EF_u H a g4).1
  · rcases g5 with g5 | ⟨g5, g6⟩
    · omega
    · rcases a with ⟨a, _⟩ | ⟨_, a, _⟩
      · omega
      · exact a g6
theorem ta_Stop_u (H : ta_Tr 8 c kd pr nm P) {L b : Nat} {r e r' e' : Int32} (h : ta_Stop ar L mn c kd tg P b r e) (h' : ta_Stop ar L mn c kd tg P b r' e') : r = r' ∧ e = e' := by
  rcases h with ⟨a, x, y⟩ | ⟨a0, a, h⟩ | ⟨a0, a, f, rn, y⟩ | ⟨a0, a, f, ⟨u, v, w, k⟩, rn, y⟩ | ⟨a0, a, f, ⟨u, v, w, k⟩, p, h⟩
  · rcases h' with ⟨_, x', y'⟩ | ⟨b0, _⟩ | ⟨b0, _⟩ | ⟨b0, _⟩ | ⟨b0, _⟩
    · exact ⟨x.trans x'.symm, y.trans y'.symm⟩
    · omega
    · omega
    · omega
    · omega
  · rcases h' with ⟨b0, _⟩ | ⟨_, _, h'⟩ | ⟨_, b, _⟩ | ⟨_, b, _⟩ | ⟨_, b, _⟩
    · omega
    · rcases h with ⟨l, x, y⟩ | ⟨l, q, x, y⟩ | ⟨l, q, x, y⟩
      · rcases h' with ⟨_, x', y'⟩ | ⟨l', _⟩ | ⟨l', _⟩
        · exact ⟨x.trans x'.symm, y.trans y'.symm⟩
        · omega
        · omega
      · rcases h' with ⟨l', _⟩ | ⟨_, _, x', y'⟩ | ⟨_, q', _⟩
        · omega
        · exact ⟨x.trans x'.symm, y.trans y'.symm⟩
        · exact absurd q' q
      · rcases h' with ⟨l', _⟩ | ⟨_, q', _⟩ | ⟨_, _, x', y'⟩
        · omega
        · exact absurd q q'
        · exact ⟨x.trans x'.symm, y.trans y'.symm⟩
    · exact absurd a b
    · exact absurd a b
    · exact absurd a b
  · rcases h' with ⟨b0, _⟩ | ⟨_, b, _⟩ | ⟨_, _, g, _, y'⟩ | ⟨_, _, g, _⟩ | ⟨_, _, g, _⟩
    · omega
    · exact absurd b a
    · exact ⟨ta_HF_u f g, y.trans y'.symm⟩
    · exact absurd (ta_HF_u f g) rn
    · exact absurd (ta_HF_u f g) rn
  · rcases h' with ⟨b0, _⟩ | ⟨_, b, _⟩ | ⟨_, _, g, rn', _⟩ | ⟨_, _, _, ⟨u', v', w', k'⟩, _, y'⟩ | ⟨_, _, _, ⟨u', v', w', k'⟩, _⟩
    · omega
    · exact absurd b a
    · exact absurd (ta_HF_u g f) rn'
    · exact ⟨(ta_EF_u H k k').1, y.trans y'.symm⟩
    · exact absurd (ta_EF_u H k k').1 rn
  · rcases h' with ⟨b0, _⟩ | ⟨_, b, _⟩ | ⟨_, _, g, rn', _⟩ | ⟨_, _, _, ⟨u', v', w', k'⟩, rn', _⟩ | ⟨_, _, _, _, _, h'⟩
    · omega
    · exact absurd b a
    · exact absurd (ta_HF_u g f) rn'
    · exact absurd (ta_EF_u H k' k).1 rn'
    · rcases h with ⟨l, x, y⟩ | ⟨l, q, x, y⟩
      · rcases h' with ⟨_, x', y'⟩ | ⟨l', _⟩
        · exact ⟨x.trans x'.symm, y.trans y'.symm⟩
        · omega
      · rcases h' with ⟨l', _⟩ | ⟨_, _, x', y'⟩
        · omega
        · exact ⟨x.trans x'.symm, y.trans y'.symm⟩
end
