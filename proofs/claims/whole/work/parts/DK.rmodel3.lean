/-! the reference is made -/
def T00 : Nat → cMat := fun k => mat 2 (fun _ => 0) (k : Int)
theorem gAll_00 (T : Nat → cMat) : ∀ g, gAll T 0 g = some (1, fun _ => mId)
  | 0 => rfl
  | g + 1 => by
    unfold gAll
    rw [gAll_00 T g]
    show (if g < 1 then gRow T g 0 (1, fun _ => mId) else some (1, fun _ => mId)) = _
    split <;> rfl
def evS : List cEv → Nat
  | [] => 0
  | .inl _ :: es => evS es
  | .inr (_, _, l) :: es => l.toNat + evS es
theorem cBl_s {o : Nat} : ∀ (es : List cEv) (h : cm_H), ch_s (cBl o es h) = ch_s h + evS es
  | [], _ => rfl
  | .inl (i, v) :: es, h => cBl_s es (ch_u h o i v)
  | .inr (i, k, l) :: es, h => by
    have := cBl_s (o := o) es (ch_r (ch_new h k l l.toNat) o i (ch_n h))
    have e2 : ch_s (ch_r (ch_new h k l l.toNat) o i (ch_n h)) = ch_s h + l.toNat := rfl
    have e3 : evS (.inr (i, k, l) :: es) = l.toNat + evS es := rfl
    have e4 : cBl o (.inr (i, k, l) :: es) h = cBl o es (ch_r (ch_new h k l l.toNat) o i (ch_n h)) := rfl
    rw [e4, this, e2, e3]
    omega
def mdN (I : cm_I) (z : cm_Z) (I1 : cm_I) (z1 : cm_Z) : Prop := mz z1 ∧ zN z1 = 248 ∧ zC z1 = zC z + 38 ∧ zS z1 = zS z + 481151 ∧ (∀ a, a < 209 → I1 a = I a ∧ z1.1 a = z.1 a ∧ z1.2.1 a = z.2.1 a) ∧ (∀ a, 248 ≤ a → z1.1 a = z.1 a ∧ z1.2.1 a = z.2.1 a ∧ I1 a = I a) ∧ rI 2 T00 0 1 (fun _ => mId) (fun _ _ => 0) (fun _ => 0) 0 none I1
theorem k_model {d : Nat} {I : cm_I} {R : Nat → Int → Nat} {L : Nat → Int} {Tk : Nat → Nat} {c s : Nat} (h9 : I 209 = fun _ => 0) : cm_call (d + 10) m_Model_init [vR 12 209] (I, R, L, Tk, 210, c, s) fun r h1 => r = none ∧ ∃ I1 z1, h1 = ((I1, z1) : cm_H) ∧ mdN I (R, L, Tk, 210, c, s) I1 z1 := by
  refine r2_Model_init fun g eg => ?_
  obtain ⟨J, z⟩ := g
  have eJ : J = (cBl 209 mEv (I, R, L, Tk, 210, c, s)).1 := by rw [← eg]
  have ez : z = (cBl 209 mEv (I, R, L, Tk, 210, c, s)).2 := by rw [← eg]
  have J9 : ∀ j, J 209 j = if j = 58 then -1 else if j = 11 then 1 else if j = 1 then 2 else 0 := fun j => by rw [eJ, mEv_9, h9]
  have Ja : ∀ a, 210 ≤ a → a ≤ 247 → J a = fun _ => 0 := fun a h1 h2 => by
    rw [eJ, show a = 210 + (a - 210) by omega]; exact mEv_I _ (by omega)
  have hz : mz z := by
    refine ⟨fun j hj => by rw [ez]; exact mEv_R j hj, fun a h1 h2 => ?_⟩
    rw [ez, show a = 210 + (a - 210) by omega]; exact mEv_L _ (by omega)
  have lo : ∀ a, a < 209 → J a = I a ∧ z.1 a = R a ∧ z.2.1 a = L a := fun a ha => by
    have := cBl_lo (o := 209) (a := a) (by omega) mEv (I, R, L, Tk, 210, c, s) (show a < 210 by omega)
    rw [eJ, ez]; exact this
  have hi : ∀ a, 248 ≤ a → z.1 a = R a ∧ z.2.1 a = L a ∧ J a = I a := fun a ha => by
    have := cBl_hi (o := 209) (a := a) (by omega) mEv (I, R, L, Tk, 210, c, s) (show 248 ≤ a from ha)
    rw [ez, eJ]; exact this
  have zn : zN z = 248 := by rw [ez]; rfl
  have zc : zC z = c + 38 := by rw [ez]; rfl
  have zs : zS z = s + 481151 := by
    have := cBl_s (o := 209) mEv (I, R, L, Tk, 210, c, s)
    rw [ez]
    exact this.trans (by rw [show evS mEv = 481151 from rfl]; rfl)
  have D0 : mD J := Or.inl (J9 1)
  refine cm_call_mono (s_laysMonomials (d := d + 6) hz D0) fun r h1 ⟨I1, er, eh, ⟨f, g, h, e1⟩, hm⟩ => ⟨er, ?_⟩
  subst eh
  have k1 : ∀ a, a ≠ 210 → a ≠ 211 → a ≠ 212 → I1 a = J a := fun a h1 h2 h3 => by
    rw [e1]
    show (if a = 212 then _ else if a = 211 then _ else if a = 210 then _ else J a) = J a
    rw [if_neg h3, if_neg h2, if_neg h1]
  have e19 : I1 209 = J 209 := k1 209 (by decide) (by decide) (by decide)
  refine cm_call_mono (s_laysGroup (d := d + 5) (nt := 0) hz (by unfold mD; rw [e19]; exact D0) (by rw [k1 218 (by decide) (by decide) (by decide), Ja 218 (by decide) (by decide)]; exact okR_0) (by rw [k1 217 (by decide) (by decide) (by decide), Ja 217 (by decide) (by decide)]; exact okR_0) (by rw [e19]; exact J9 9) (by decide)) fun r h1 ⟨v, I2, er, eh, ⟨nn, F, eG, oF⟩, p⟩ => ⟨v, er, rfl, I2, z, eh, ?_⟩
  have eT : mTab I1 = T00 := by
    unfold mTab T00
    rw [e19, J9, k1 217 (by decide) (by decide) (by decide), Ja 217 (by decide) (by decide)]
    rfl
  have ga := gAll_00 T00 48
  rw [eT, ga] at p
  obtain ⟨s', e', _, m⟩ : ∃ s, some (1, fun _ => mId) = some s ∧ s.1 ≤ 48 ∧ mSt I2 s := by
    rcases p with ⟨_, p⟩ | ⟨_, p⟩
    · exact p
    · exact absurd p (by simp)
  have e' := Option.some.inj e'
  subst e'
  have k2 : ∀ a, a ≠ 209 → a ≠ 218 → I2 a = I1 a := fun a h1 h2 => by
    rw [eG]
    show (if a = 218 then _ else if a = 209 then _ else I1 a) = I1 a
    rw [if_neg h2, if_neg h1]
  have s2 : ∀ x, x ≠ 11 → I2 209 x = J 209 x := fun x hx => by
    rw [eG]
    show (if x = 11 then _ else I1 209 x) = J 209 x
    rw [if_neg hx, e19]
  have o8 : okR (I2 218) := by rw [eG]; exact oF
  have kz : ∀ a, 213 ≤ a → a ≤ 247 → a ≠ 218 → I2 a = fun _ => 0 := fun a h1 h2 h3 => by
    rw [k2 a (by omega) h3, k1 a (by omega) (by omega) (by omega)]; exact Ja a (by omega) h2
  have ok : ∀ a, 213 ≤ a → a ≤ 247 → okR (I2 a) := fun a h1 h2 => by
    by_cases q : a = 218
    · rw [q]; exact o8
    · rw [kz a h1 h2 q]; exact okR_0
  have e1' : I2 209 1 = 2 := by rw [s2 1 (by decide), J9]; rfl
  have hD2 : mD I2 := Or.inl e1'
  have mM : mMon I2 := mMon_c hm (by rw [e1', e19, J9]; rfl) (k2 210 (by decide) (by decide)) (k2 211 (by decide) (by decide)) (k2 212 (by decide) (by decide))
  have e37 : I2 209 37 = 0 := by rw [s2 37 (by decide), J9]; rfl
  have G := isG_all ga
  have hd : ∀ t, t < 0 → mDet (T00 t) ≠ 0 := fun t ht => absurd ht (Nat.not_lt_zero t)
  refine ⟨hz, zn, zc, zs, fun a ha => ⟨by rw [k2 a (by omega) (by omega), k1 a (by omega) (by omega) (by omega)]; exact (lo a ha).1, (lo a ha).2⟩, fun a ha => ⟨(hi a ha).1, (hi a ha).2.1, by rw [k2 a (by omega) (by omega), k1 a (by omega) (by omega) (by omega)]; exact (hi a ha).2.2⟩, ⟨⟨hD2, mM, ok 216 (by decide) (by decide), ok 217 (by decide) (by decide), o8, ok 224 (by decide) (by decide)⟩, ?_, by rw [s2 9 (by decide), J9]; rfl, by decide, ?_, ok 214 (by decide) (by decide), ok 233 (by decide) (by decide), ok 236 (by decide) (by decide), G, hd, m.1, Or.inl (by rw [s2 41 (by decide), J9]; rfl)⟩, ⟨hD2, m.1, by decide, m.2, o8, isGrp_gm G hd⟩, ?_, Or.inl ⟨rfl, by rw [s2 58 (by decide), J9]; rfl⟩, e1', kz 219 (by decide) (by decide) (by decide), ?_, ?_, ga, fun x hx => ok x (by simp [oL] at hx; omega) (by simp [oL] at hx; omega), ?_⟩
  · unfold mTab T00
    rw [e1', kz 217 (by decide) (by decide) (by decide)]
  · have eE : bsEnd (I2 209 1) I2 = 0 := by unfold bsEnd; rw [if_pos e37]
    refine ⟨by omega, by omega, ok 226 (by decide) (by decide), ok 230 (by decide) (by decide), by omega, ?_, fun t t0 t1 => by omega⟩
    rw [eE, e37]
    exact Int.le_refl _
  · refine ⟨ok 213 (by decide) (by decide), fun k _ _ => ⟨fun j _ _ => ?_, vOk_zero hD2⟩⟩
    rw [kz 213 (by decide) (by decide) (by decide)]
  · refine ⟨?_, by decide, by decide⟩
    rw [s2 14 (by decide), J9]; rfl
  · rw [s2 19 (by decide), J9]; decide
  · rw [kz 221 (by decide) (by decide) (by decide)]
    exact fun _ => by show (0 : Int) ≤ 0 ∧ (0 : Int) ≤ 400; decide
