/-! TABLES are taken -/
def tk217 (I : cm_I) : Int → Int := fun j => if 0 ≤ j ∧ j < 36 then I 220 j else I 217 j
def tkT (I : cm_I) : Nat → cMat := fun k => mat (I 209 23) (tk217 I) k
/-- nothing has changed, but for what the group is laid by -/
def tkSame (s : Nat × (Nat → cMat)) (I I1 : cm_I) : Prop := fr [209, 217, 218, 222] I I1 ∧ okR (I1 218) ∧ I1 217 = I 217 ∧ (∀ x, x ≠ 11 → I1 209 x = I 209 x) ∧ mSt I1 s
def tkNew (s : Nat × (Nat → cMat)) (I I1 : cm_I) : Prop := fr [209, 210, 211, 212, 213, 217, 218, 222] I I1 ∧ okR (I1 218) ∧ I1 217 = tk217 I ∧ I1 209 1 = I 209 23 ∧ I1 209 9 = I 209 24 ∧ mSt I1 s ∧ I1 209 37 = 0 ∧ I1 209 41 = 0 ∧ I1 209 58 = -1 ∧ (∀ x, x ≠ 1 → x ≠ 9 → x ≠ 11 → x ≠ 37 → x ≠ 41 → x ≠ 58 → I1 209 x = I 209 x) ∧ (I 209 23 = I 209 1 → I1 210 = I 210 ∧ I1 211 = I 211 ∧ I1 212 = I 212 ∧ I1 213 = I 213) ∧ (I 209 23 ≠ I 209 1 → mMon I1 ∧ I1 213 = fillF (I 213) 0 6840 0)
def tkPost (I : cm_I) (rm : Nat) (s : Nat × (Nat → cMat)) (r : Int) (I1 : cm_I) : Prop :=
  (∃ t, t < rm ∧ mDet (tkT I t) = 0 ∧ (∀ t', t' < t → mDet (tkT I t') ≠ 0) ∧ r = -2 - (8 * I 221 t + 3) ∧ tkSame s I I1) ∨ ((∀ t, t < rm → mDet (tkT I t) ≠ 0) ∧ gAll (tkT I) rm 48 = none ∧ r = -6 ∧ tkSame s I I1) ∨ ((∀ t, t < rm → mDet (tkT I t) ≠ 0) ∧ ∃ s', gAll (tkT I) rm 48 = some s' ∧ s'.1 ≤ 48 ∧ r = s'.1 ∧ tkNew s' I I1)
theorem mG_fr {I I1 : cm_I} {n : Int} {F : Int → Int} (h : mG I I1 n F) : fr [209, 218] I I1 ∧ (∀ x, x ≠ 11 → I1 209 x = I 209 x) ∧ okR (I1 218) ∧ I1 217 = I 217 := by
  obtain ⟨e, o⟩ := h
  subst e
  refine ⟨fun a q => ?_, fun x hx => ?_, by rw [iw_at]; exact o, by rw [iw_ne _ _ (by decide), iu_ne _ _ _ (by decide)]⟩
  · rw [iw_ne _ _ (fun e => q (by subst e; decide)), iu_ne _ _ _ (fun e => q (by subst e; decide))]
  · rw [iw_ne _ _ (by decide), iu_at]
    show (if x = 11 then _ else _) = _
    rw [if_neg hx]
theorem mDet_congr {A B : cMat} (h : A = B) : mDet A = mDet B := by rw [h]
section MTK
variable {d : Nat} {z : cm_Z} {I : cm_I}
theorem s_forgets (hz : mz z) : mU (d + 1) m_Model_forgets [vR 12 209] z I fun I1 => fr [209] I I1 ∧ I1 209 = st1 (st1 (st1 (I 209) 37 0) 41 0) 58 (-1) := by
  refine mr_forgets hz fun I1 e1 I2 e2 I3 e3 => qU_mk ?_
  obtain ⟨f1, g1⟩ := fr_eq_iu e1
  obtain ⟨f2, g2⟩ := fr_eq_iu e2
  obtain ⟨f3, g3⟩ := fr_eq_iu e3
  exact ⟨fr_trans f1 (fr_trans f2 f3), by rw [g3, g2, g1]; rfl⟩
theorem s_takes (hz : mz z) (hD : mD I) (hrd : I 209 23 = 2 ∨ I 209 23 = 3) (ok17 : okR (I 217)) (ok18 : okR (I 218)) (ok20 : okR (I 220)) {nt rm : Nat} (hnt : I 209 9 = nt) (hn4 : nt ≤ 4) (hrm : I 209 24 = rm) (hr4 : rm ≤ 4) {s : Nat × (Nat → cMat)} (old : gAll (mTab I) nt 48 = some s) (hRP : ∀ t : Int, 0 ≤ t → t < 4 → 0 ≤ I 221 t ∧ I 221 t ≤ 400) : mI (d + 5) m_Model_takes [vR 12 209] z I fun r I1 => tkPost I rm s r I1 := by
  have hD' : I 209 1 = 2 ∨ I 209 1 = 3 := hD
  have okTk : okR (tk217 I) := by
    intro j
    unfold tk217
    split
    · exact ok20 j
    · exact ok17 j
  -- all is put back
  have k159 : ∀ (n : Nat) (k x3 : Int) (I0 : cm_I) (z1 z2 : Option cm_V), 0 ≤ k → k + n = 36 → 0 < x3 → x3 ≤ 4000 → fr [209, 217, 218, 222] I I0 → okR (I0 218) → (∀ x, x ≠ 11 → I0 209 x = I 209 x) → (∀ j, 0 ≤ j → j < 36 → I0 222 j = I 217 j) → (∀ j, ¬ (k ≤ j ∧ j < 36) → I0 217 j = I 217 j) → (∀ I1, tkSame s I I1 → tkPost I rm s (-2 - x3) I1) → cw (d + 4) cd_Model_takes (qI z fun r I1 => tkPost I rm s r I1) 159 [some (vR 12 209), z1, z2, some (vI x3), some (vI k)] [] (I0, z) := by
    intro n
    induction n with
    | zero =>
      intro k x3 I0 z1 z2 k0 ek x30 x31 hfr o18 h9 h22 h17 fin
      have e17 : I0 217 = I 217 := by funext j; exact h17 j (by omega)
      have eT : mTab I0 = mTab I := by unfold mTab; rw [e17, h9 1 (by decide)]
      refine mr_takes_159 hz ⟨fun _ => mI_mono (s_laysGroup hz (by unfold mD; rw [h9 1 (by decide)]; exact hD) o18 (by rw [e17]; exact ok17) (by rw [h9 9 (by decide)]; exact hnt) hn4) fun v I1 ⟨⟨n1, F, hG⟩, hh⟩ => ⟨⟨by omega, by omega⟩, qI_mk (fin I1 ?_)⟩, fun q => by omega⟩
      rw [eT, old] at hh
      obtain ⟨g1, g2, g3, g4⟩ := mG_fr hG
      rcases hh with ⟨_, s', e', _, h'⟩ | ⟨_, e'⟩
      · injection e' with e'
        subst e'
        exact ⟨fr_trans hfr (fr_mono g1 (by decide)), g3, by rw [g4, e17], fun x hx => by rw [g2 x hx, h9 x hx], h'⟩
      · exact absurd e' (by simp)
    | succ n ih =>
      intro k x3 I0 z1 z2 k0 ek x30 x31 hfr o18 h9 h22 h17 fin
      refine mr_takes_159 hz ⟨fun q => by omega, fun q => ⟨⟨k0, q⟩, fun I5 e5 => ⟨⟨by omega, by omega⟩, ?_⟩⟩⟩
      obtain ⟨f5, g5⟩ := fr_eq_iu e5
      refine ih (k + 1) x3 I5 z1 z2 (by omega) (by omega) x30 x31 (fr_trans hfr (fr_mono f5 (by decide))) (by rw [f5 218 (by decide)]; exact o18) (fun x hx => by rw [f5 209 (by decide)]; exact h9 x hx) (fun j j0 j1 => by rw [f5 222 (by decide)]; exact h22 j j0 j1) (fun j hj => ?_) fin
      rw [g5]
      by_cases e : j = k
      · show (if j = k then _ else _) = _
        rw [if_pos e, h22 k k0 q, e]
      · show (if j = k then _ else _) = _
        rw [if_neg e]
        exact h17 j (by omega)
  have bad : ∀ (x3 : Int) (I0 : cm_I) (z4 : Option cm_V), 0 < x3 → x3 ≤ 4000 → fr [209, 217, 218, 222] I I0 → okR (I0 218) → (∀ x, x ≠ 1 → x ≠ 9 → x ≠ 11 → I0 209 x = I 209 x) → (∀ j, 0 ≤ j → j < 36 → I0 222 j = I 217 j) → (∀ j, ¬ (0 ≤ j ∧ j < 36) → I0 217 j = I 217 j) → (∀ I1, tkSame s I I1 → tkPost I rm s (-2 - x3) I1) → cw (d + 4) cd_Model_takes (qI z fun r I1 => tkPost I rm s r I1) 142 [some (vR 12 209), some (vI (I 209 1)), some (vI (I 209 9)), some (vI x3), z4] [] (I0, z) := by
    intro x3 I0 z4 x30 x31 hfr o18 h9 h22 h17 fin
    refine mr_takes_142 hz ⟨fun q => by omega, fun _ I3 e3 I4 e4 => ?_⟩
    obtain ⟨f3, g3⟩ := fr_eq_iu e3
    obtain ⟨f4, g4⟩ := fr_eq_iu e4
    have f5 := fr_trans f3 f4
    refine k159 36 0 x3 I4 _ _ (by omega) rfl x30 x31 (fr_trans hfr (fr_mono f5 (by decide))) (by rw [f5 218 (by decide)]; exact o18) (fun x hx => ?_) (fun j j0 j1 => by rw [f5 222 (by decide)]; exact h22 j j0 j1) (fun j hj => by rw [f5 217 (by decide)]; exact h17 j hj) fin
    rw [g4, g3]
    show (if x = 9 then _ else if x = 1 then _ else _) = _
    by_cases e9 : x = 9
    · rw [if_pos e9, e9]
    · rw [if_neg e9]
      by_cases e1 : x = 1
      · rw [if_pos e1, e1]
      · rw [if_neg e1]
        exact h9 x e1 e9 hx
  -- the world behind the copying
  have good : ∀ (I0 : cm_I) (s' : Nat × (Nat → cMat)) (z4 : Option cm_V), fr [209, 217, 218, 222] I I0 → okR (I0 218) → (∀ x, x ≠ 1 → x ≠ 9 → x ≠ 11 → I0 209 x = I 209 x) → I0 209 1 = I 209 23 → I0 209 9 = I 209 24 → I0 217 = tk217 I → mSt I0 s' → (∀ I1, tkNew s' I I1 → tkPost I rm s s'.1 I1) → cw (d + 4) cd_Model_takes (qI z fun r I1 => tkPost I rm s r I1) 142 [some (vR 12 209), some (vI (I 209 1)), some (vI (I 209 9)), some (vI 0), z4] [] (I0, z) := by
    intro I0 s' z4 hfr o18 h9 h1 h99 h17 hS fin
    have hD0 : mD I0 := by unfold mD; rw [h1]; exact hrd
    -- the end
    have fin2 : ∀ (I2 I3 : cm_I), fr [210, 211, 212, 213] I0 I2 → (I 209 23 = I 209 1 → I2 210 = I 210 ∧ I2 211 = I 211 ∧ I2 212 = I 212 ∧ I2 213 = I 213) → (I 209 23 ≠ I 209 1 → mMon I2 ∧ I2 213 = fillF (I 213) 0 6840 0) → (fr [209] I2 I3 ∧ I3 209 = st1 (st1 (st1 (I2 209) 37 0) 41 0) 58 (-1)) → qI z (fun r I1 => tkPost I rm s r I1) (some (vI (I3 209 11))) (I3, z) := by
      intro I2 I3 f2 c1 c2 ⟨f3, g3⟩
      have e9 : I2 209 = I0 209 := f2 209 (by decide)
      have e18 : I3 218 = I0 218 := (f3 218 (by decide)).trans (f2 218 (by decide))
      have e1 : I3 209 1 = I 209 23 := by rw [g3, e9]; exact h1
      have e11 : I3 209 11 = s'.1 := by rw [g3, e9]; exact hS.1
      refine qI_mk ?_
      rw [e11]
      refine fin I3 ⟨?_, by rw [e18]; exact o18, ?_, e1, by rw [g3, e9]; exact h99, ⟨e11, fun k hk => ?_⟩, by rw [g3]; rfl, by rw [g3]; rfl, by rw [g3]; rfl, fun x x1 x2 x3 x4 x5 x6 => ?_, fun e => ?_, fun e => ?_⟩
      · exact fr_trans (fr_mono hfr (by decide)) (fr_trans (fr_mono f2 (by decide)) (fr_mono f3 (by decide)))
      · rw [f3 217 (by decide), f2 217 (by decide), h17]
      · rw [← hS.2 k hk]
        unfold mMem
        rw [e18, e1, h1]
      · rw [g3, e9]
        unfold st1
        rw [if_neg x6, if_neg x5, if_neg x4]
        exact h9 x x1 x2 x3
      · obtain ⟨c11, c12, c13, c14⟩ := c1 e
        exact ⟨by rw [f3 210 (by decide), c11], by rw [f3 211 (by decide), c12], by rw [f3 212 (by decide), c13], by rw [f3 213 (by decide), c14]⟩
      · obtain ⟨m1, m2⟩ := c2 e
        refine ⟨?_, by rw [f3 213 (by decide), m2]⟩
        unfold mMon at m1 ⊢
        have eD : I3 209 1 = I2 209 1 := by rw [g3]; rfl
        rw [eD, f3 210 (by decide), f3 211 (by decide), f3 212 (by decide)]
        exact m1
    refine mr_takes_142 hz ⟨fun _ => ⟨fun q => mU_mono (s_forgets hz) fun I1 hh => fin2 I0 I1 (fr_refl _ _) (fun _ => ⟨hfr 210 (by decide), hfr 211 (by decide), hfr 212 (by decide), hfr 213 (by decide)⟩) (fun e => absurd (h1.symm.trans q) e) hh, fun q => mU_mono (s_laysMonomials hz hD0) fun I2 ⟨⟨f, g, h, e2⟩, hm⟩ => ?_⟩, fun q => by omega⟩
    have f2 : fr [210, 211, 212] I0 I2 := by
      intro a ha
      rw [e2]
      unfold iw3
      rw [iw_ne _ _ (fun e => ha (by subst e; decide)), iw_ne _ _ (fun e => ha (by subst e; decide)), iw_ne _ _ (fun e => ha (by subst e; decide))]
    have q' : I 209 23 ≠ I 209 1 := fun e => q (h1.trans e)
    have k212 : ∀ (n : Nat) (k : Int) (I3 : cm_I) (z1 z2 z3 : Option cm_V), 0 ≤ k → k + n = 6840 → fr [213] I2 I3 → I3 213 = fillF (I 213) 0 k 0 → cw (d + 4) cd_Model_takes (qI z fun r I1 => tkPost I rm s r I1) 212 [some (vR 12 209), z1, z2, z3, some (vI k)] [] (I3, z) := by
      intro n
      induction n with
      | zero =>
        intro k I3 z1 z2 z3 k0 ek f3 g3
        refine mr_takes_212 hz ⟨fun _ => mU_mono (s_forgets hz) fun I4 hh => fin2 I3 I4 (fr_trans (fr_mono f2 (by decide)) (fr_mono f3 (by decide))) (fun e => absurd e q') (fun _ => ⟨?_, by rw [g3, show k = 6840 by omega]⟩) hh, fun q => by omega⟩
        unfold mMon at hm ⊢
        rw [f3 209 (by decide), f3 210 (by decide), f3 211 (by decide), f3 212 (by decide)]
        exact hm
      | succ n ih =>
        intro k I3 z1 z2 z3 k0 ek f3 g3
        refine mr_takes_212 hz ⟨fun q => by omega, fun q => ⟨⟨k0, q⟩, fun I4 e4 => ⟨⟨by omega, by omega⟩, ?_⟩⟩⟩
        obtain ⟨f4, g4⟩ := fr_eq_iu e4
        refine ih (k + 1) I4 z1 z2 z3 (by omega) (by omega) (fr_trans f3 f4) ?_
        rw [g4, g3]
        funext j
        unfold fillF
        split <;> split <;> first | rfl | omega | (split <;> first | rfl | omega)
    refine k212 6840 0 I2 _ _ _ (by omega) rfl (fr_refl _ _) ?_
    rw [f2 213 (by decide), hfr 213 (by decide)]
    funext j
    unfold fillF
    rw [if_neg (by omega)]
  have k88 : ∀ (n : Nat) (x3 x4 : Int) (I0 : cm_I), x4 + 1 = n → n ≤ rm → fr [209, 217, 222] I I0 → I0 209 = st1 (st1 (I 209) 1 (I 209 23)) 9 (I 209 24) → I0 217 = tk217 I → (∀ j, 0 ≤ j → j < 36 → I0 222 j = I 217 j) → ((x3 = 0 ∧ ∀ t : Nat, x4 < t → t < rm → mDet (tkT I t) ≠ 0) ∨ (∃ t : Nat, x4 < t ∧ t < rm ∧ mDet (tkT I t) = 0 ∧ (∀ t' : Nat, x4 < t' → t' < t → mDet (tkT I t') ≠ 0) ∧ x3 = 8 * I 221 t + 3)) → cw (d + 4) cd_Model_takes (qI z fun r I1 => tkPost I rm s r I1) 88 [some (vR 12 209), some (vI (I 209 1)), some (vI (I 209 9)), some (vI x3), some (vI x4)] [] (I0, z) := by
    intro n
    induction n with
    | zero =>
      intro x3 x4 I0 e4 hn hfr h9 h17 h22 hx
      have hfr4 : fr [209, 217, 218, 222] I I0 := fr_mono hfr (by decide)
      have o18 : okR (I0 218) := by rw [hfr 218 (by decide)]; exact ok18
      have hn9 : ∀ x, x ≠ 1 → x ≠ 9 → x ≠ 11 → I0 209 x = I 209 x := by
        intro x x1 x9 _
        rw [h9]
        unfold st1
        rw [if_neg x9, if_neg x1]
      have out : ∀ j, ¬ (0 ≤ j ∧ j < 36) → I0 217 j = I 217 j := by
        intro j hj
        rw [h17]
        unfold tk217
        rw [if_neg hj]
      have h1 : I0 209 1 = I 209 23 := by rw [h9]; rfl
      have h99 : I0 209 9 = I 209 24 := by rw [h9]; rfl
      have eT : mTab I0 = tkT I := by unfold mTab tkT; rw [h1, h17]
      refine mr_takes_88 hz ⟨fun _ => ⟨fun q => ?_, fun q => ?_⟩, fun q => by omega⟩
      · rcases hx with ⟨x, _⟩ | ⟨t, t1, t2, t3, t4, t5⟩
        · exact absurd x q
        · have := hRP t (by omega) (by omega)
          exact bad x3 I0 _ (by omega) (by omega) hfr4 o18 hn9 h22 out fun I1 hs => Or.inl ⟨t, t2, t3, fun t' ht' => t4 t' (by omega) ht', by rw [t5], hs⟩
      · have hdt : ∀ t, t < rm → mDet (tkT I t) ≠ 0 := by
          rcases hx with ⟨_, x⟩ | ⟨t, t1, t2, t3, t4, t5⟩
          · exact fun t ht => x t (by omega) ht
          · have := hRP t (by omega) (by omega)
            omega
        refine mI_mono (s_laysGroup hz (by unfold mD; rw [h1]; exact hrd) o18 (by rw [h17]; exact okTk) (by rw [h99]; exact hrm) hr4) fun v I1 ⟨⟨n1, F, hG⟩, hh⟩ => ?_
        obtain ⟨g1, g2, g3, g4⟩ := mG_fr hG
        rw [eT] at hh
        have hfr5 : fr [209, 217, 218, 222] I I1 := fr_trans hfr4 (fr_mono g1 (by decide))
        have hn95 : ∀ x, x ≠ 1 → x ≠ 9 → x ≠ 11 → I1 209 x = I 209 x := fun x a b c => by rw [g2 x c, hn9 x a b c]
        rcases hh with ⟨v1, s', e', l', h'⟩ | ⟨v0, e'⟩
        · refine ⟨fun _ => ?_, fun q0 => by omega⟩
          rw [q]
          exact good I1 s' _ hfr5 g3 hn95 (by rw [g2 1 (by decide), h1]) (by rw [g2 9 (by decide), h99]) (by rw [g4, h17]) h' fun I2 hs => Or.inr (Or.inr ⟨hdt, s', e', l', rfl, hs⟩)
        · refine ⟨fun q0 => absurd v0 q0, fun _ => ?_⟩
          exact bad 4 I1 _ (by omega) (by omega) hfr5 g3 hn95 (fun j j0 j1 => by rw [g1 222 (by decide)]; exact h22 j j0 j1) (fun j hj => by rw [g4]; exact out j hj) fun I2 hs => Or.inr (Or.inl ⟨hdt, e', rfl, hs⟩)
    | succ n ih =>
      intro x3 x4 I0 e4 hn hfr h9 h17 h22 hx
      have h1 : I0 209 1 = I 209 23 := by rw [h9]; rfl
      have e21 : I0 221 = I 221 := hfr 221 (by decide)
      refine mr_takes_88 hz ⟨fun q => by omega, fun _ => mI_mono (s_determinant hz (by unfold mD; rw [h1]; exact hrd) mA217 (by omega) (by omega) (show _ ≤ (36 : Int) by omega) (by rw [h17]; exact okTk)) fun v4 I3 ⟨e3, ev⟩ => ?_⟩
      rw [e3]
      have eT : mat (I0 209 1) (I0 217) x4 = tkT I n := by unfold tkT; rw [h1, h17, show x4 = ((n : Nat) : Int) by omega]
      rw [eT] at ev
      have hiff : v4 = 0 ↔ mDet (tkT I n) = 0 := by rw [ev]; exact fi_zero
      refine ⟨fun q => ⟨⟨by omega, by omega⟩, ih x3 (x4 + -1) I0 (by omega) (by omega) hfr h9 h17 h22 ?_⟩, fun q => ?_⟩
      · have nd : ∀ t : Nat, (x4 + -1 < (t : Int)) → t = n ∨ x4 < (t : Int) := fun t ht => by omega
        rcases hx with ⟨x, y⟩ | ⟨t, t1, t2, t3, t4, t5⟩
        · refine Or.inl ⟨x, fun t ht h2 => ?_⟩
          rcases nd t ht with e | e
          · rw [e]; exact fun c => q (hiff.mpr c)
          · exact y t e h2
        · refine Or.inr ⟨t, by omega, t2, t3, fun t' ht' h2 => ?_, t5⟩
          rcases nd t' ht' with e | e
          · rw [e]; exact fun c => q (hiff.mpr c)
          · exact t4 t' e h2
      · rw [e21]
        have := hRP x4 (by omega) (by omega)
        refine ⟨⟨by omega, by omega⟩, ⟨by omega, by omega⟩, ⟨by omega, by omega⟩, ⟨by omega, by omega⟩, ih (8 * I 221 x4 + 3) (x4 + -1) I0 (by omega) (by omega) hfr h9 h17 h22 (Or.inr ⟨n, by omega, by omega, hiff.mp q, fun t' ht' h2 => by omega, ?_⟩)⟩
        rw [show x4 = ((n : Nat) : Int) by omega]
  have k54 : ∀ (n : Nat) (k : Int) (I0 : cm_I) (z4 : Option cm_V), 0 ≤ k → k + n = 36 → fr [209, 217, 222] I I0 → I0 209 = st1 (st1 (I 209) 1 (I 209 23)) 9 (I 209 24) → (∀ j, I0 217 j = if 0 ≤ j ∧ j < k then I 220 j else I 217 j) → (∀ j, 0 ≤ j → j < 36 → I0 222 j = I 217 j) → cw (d + 4) cd_Model_takes (qI z fun r I1 => tkPost I rm s r I1) 54 [some (vR 12 209), some (vI (I 209 1)), some (vI (I 209 9)), some (vI k), z4] [] (I0, z) := by
    intro n
    induction n with
    | zero =>
      intro k I0 z4 k0 ek hfr h9 h17 h22
      have h99 : I0 209 9 = I 209 24 := by rw [h9]; rfl
      refine mr_takes_54 hz ⟨fun _ => ?_, fun q => by omega⟩
      rw [h99, hrm]
      refine ⟨⟨by omega, by omega⟩, k88 rm 0 _ I0 (by omega) (Nat.le_refl _) hfr h9 ?_ h22 (Or.inl ⟨rfl, fun t h1 h2 => by omega⟩)⟩
      funext j
      rw [h17 j, show k = 36 by omega]
      rfl
    | succ n ih =>
      intro k I0 z4 k0 ek hfr h9 h17 h22
      refine mr_takes_54 hz ⟨fun q => by omega, fun q => ⟨⟨k0, q⟩, fun I3 e3 => ⟨⟨by omega, by omega⟩, ?_⟩⟩⟩
      obtain ⟨f3, g3⟩ := fr_eq_iu e3
      refine ih (k + 1) I3 z4 (by omega) (by omega) (fr_trans hfr (fr_mono f3 (by decide))) (by rw [f3 209 (by decide)]; exact h9) (fun j => ?_) (fun j j0 j1 => by rw [f3 222 (by decide)]; exact h22 j j0 j1)
      rw [g3, hfr 220 (by decide)]
      show (if j = k then _ else _) = _
      by_cases e : j = k
      · rw [if_pos e, if_pos (by omega), e]
      · rw [if_neg e, h17 j]
        by_cases c : 0 ≤ j ∧ j < k
        · rw [if_pos c, if_pos (by omega)]
        · rw [if_neg c, if_neg (by omega)]
  have k12 : ∀ (n : Nat) (k : Int) (I0 : cm_I) (z4 : Option cm_V), 0 ≤ k → k + n = 36 → fr [222] I I0 → (∀ j, 0 ≤ j → j < k → I0 222 j = I 217 j) → cw (d + 4) cd_Model_takes (qI z fun r I1 => tkPost I rm s r I1) 12 [some (vR 12 209), some (vI (I 209 1)), some (vI (I 209 9)), some (vI k), z4] [] (I0, z) := by
    intro n
    induction n with
    | zero =>
      intro k I0 z4 k0 ek hfr h22
      refine mr_takes_12 hz ⟨fun _ I1 e1 I2 e2 => ?_, fun q => by omega⟩
      obtain ⟨f1, g1⟩ := fr_eq_iu e1
      obtain ⟨f2, g2⟩ := fr_eq_iu e2
      have f3 := fr_trans f1 f2
      have h9 : I0 209 = I 209 := hfr 209 (by decide)
      refine k54 36 0 I2 z4 (by omega) rfl (fr_trans (fr_mono hfr (by decide)) (fr_mono f3 (by decide))) ?_ (fun j => ?_) (fun j j0 j1 => by rw [f3 222 (by decide)]; exact h22 j j0 (by omega))
      · rw [g2, g1, h9]
        rfl
      · rw [if_neg (by omega), f3 217 (by decide), hfr 217 (by decide)]
    | succ n ih =>
      intro k I0 z4 k0 ek hfr h22
      refine mr_takes_12 hz ⟨fun q => by omega, fun q => ⟨⟨k0, q⟩, fun I4 e4 => ⟨⟨by omega, by omega⟩, ?_⟩⟩⟩
      obtain ⟨f4, g4⟩ := fr_eq_iu e4
      refine ih (k + 1) I4 z4 (by omega) (by omega) (fr_trans hfr f4) (fun j j0 j1 => ?_)
      rw [g4, hfr 217 (by decide)]
      show (if j = k then _ else _) = _
      by_cases e : j = k
      · rw [if_pos e, e]
      · rw [if_neg e]
        exact h22 j j0 (by omega)
  exact mr_takes hz (k12 36 0 I _ (by omega) rfl (fr_refl _ _) fun j j0 j1 => by omega)
end MTK
