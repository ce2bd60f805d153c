/-! THE CLASS: reading all tables -/
def pTabG (B : Int → Int) (k : Nat) (g RT RP : Int → Int) : Bool × (Int → Int) × (Int → Int) × (Int → Int) :=
  if (pTab B g RT).1 = true then pTabsF B k (pTab B g RT).2.1 (pTab B g RT).2.2 (st1 RP (g 24) (g 16)) else (false, (pTab B g RT).2.1, (pTab B g RT).2.2, st1 RP (g 24) (g 16))
theorem wmat_mat {D : Int} {f h : Int → Int} {t : Int} (H : ∀ i j, 0 ≤ i → i < D → 0 ≤ j → j < D → f (9 * t + D * i + j) = h (9 * t + 3 * i + j)) : wmat D f t = mat D h t := by
  funext i j
  unfold wmat mat
  by_cases q : (i : Int) < D ∧ (j : Int) < D
  · rw [if_pos q, if_pos q, H i j (by omega) q.1 (by omega) q.2]
  · rw [if_neg q, if_neg q]
/-- what the tables have told -/
def tsP (R : Bool × (Int → Int) × (Int → Int) × (Int → Int)) (mb : Nat) (I : cm_I) (r : Int) (I1 : cm_I) : Prop := fr [49, 50, mb, mb + 1] I I1 ∧ okR (I1 (mb + 1)) ∧ (∀ j, j ≠ 0 → j ≠ 1 → I1 mb j = I mb j) ∧ (∀ t, 0 ≤ t → t < 4 → 0 ≤ I1 50 t ∧ I1 50 t ≤ 400) ∧ ((r = 0 ∧ R.1 = false ∧ I1 49 8 = R.2.1 20) ∨ (R.1 = true ∧ (R.2.1 23 = 2 ∨ R.2.1 23 = 3) ∧ 1 ≤ R.2.1 24 ∧ R.2.1 24 ≤ 4 ∧ I1 mb 0 = R.2.1 23 ∧ I1 mb 1 = R.2.1 24 ∧ (∀ t : Nat, (t : Int) < R.2.1 24 → wmat (R.2.1 23) (I1 (mb + 1)) (t : Int) = mat (R.2.1 23) R.2.2.1 (t : Int)) ∧ ((r = 1 ∧ ∀ t : Nat, (t : Int) < R.2.1 24 → mDet (mat (R.2.1 23) R.2.2.1 (t : Int)) ≠ 0) ∨ (r = 0 ∧ ∃ t : Nat, (t : Int) < R.2.1 24 ∧ mDet (mat (R.2.1 23) R.2.2.1 (t : Int)) = 0 ∧ (∀ t' : Nat, t' < t → mDet (mat (R.2.1 23) R.2.2.1 (t' : Int)) ≠ 0) ∧ I1 49 8 = 8 * R.2.2.2 (t : Int) + 3))))
section WTS
variable {d : Nat} {z : cm_Z} {I : cm_I} {B f : Int → Int} {mb : Nat}
theorem t_readTables (hz : wz z) (pm : isMb mb) (h : rdF B f I) (h23 : f 23 = 0) (h24 : f 24 = 0) (ot : okR (I (mb + 1))) {RT RP : Int → Int} (oR : okR RT) (hP : ∀ t, 0 ≤ t → t < 4 → 0 ≤ I 50 t ∧ I 50 t ≤ 400) : mI (d + 6) m_Reader_readTables [vR 7 49, vR 3 mb] z I (tsP (pTabs B f RT RP) mb I) := by
  have hmb := isMb_ge pm
  have L7 : ∀ (c : Nat) (t : Int) (g RT' RP' : Int → Int) (J : cm_I), 0 ≤ t → t + c = 3 → pTabG B (c + 1) g RT' RP' = pTabs1 B f RT RP → okR RT' → fr [49, 50, mb, mb + 1] I J → rdF B g J → g 24 = t → (g 23 = 0 ∨ g 23 = 2 ∨ g 23 = 3) → (t ≠ 0 → g 23 ≠ 0) → J mb 0 = g 23 → (∀ j, j ≠ 0 → j ≠ 1 → J mb j = I mb j) → okR (J (mb + 1)) → (∀ t', 0 ≤ t' → t' < 4 → 0 ≤ J 50 t' ∧ J 50 t' ≤ 400) → (∀ t', 0 ≤ t' → t' < t → J 50 t' = RP' t') → (∀ t' i j, 0 ≤ t' → t' < t → 0 ≤ i → i < g 23 → 0 ≤ j → j < g 23 → J (mb + 1) (9 * t' + g 23 * i + j) = RT' (9 * t' + 3 * i + j)) → cw (d + 5) cd_Reader_readTables (qI z (tsP (pTabs B f RT RP) mb I)) 7 [some (vR 7 49), some (vR 3 mb), some (vI t)] [] (J, z) := by
    intro c
    induction c with
    | zero | succ c ih =>
      intro t g RT' RP' J t0 tc eR oR' hf hr g24 g23 gt hm hj ok h50 hp hc
      have r4 : J 49 4 = g 16 := hr.1.2.2.2.1
      have ro := hr.2.1
      unfold rOk at ro
      refine wr_Reader_readTables_7 hz pm ⟨fun q => by omega, fun _ => ⟨⟨by omega, by omega⟩, fun J2 e2 => ?_⟩⟩
      rw [r4] at e2
      obtain ⟨f2, g2⟩ := fr_eq_iu e2
      have ht2 : J2 (mb + 1) = J (mb + 1) := f2 (mb + 1) (by simp; omega)
      have hm2 : J2 mb = J mb := f2 mb (by simp; omega)
      refine mI_mono (t_readTable (d := d) hz pm (rdF_fr hr (f2 2 (by simp)) (f2 49 (by simp))) g23 (by rw [hm2]; exact hm) (by rw [ht2]; exact ok) oR' t0 (by omega) g24) fun v4 J3 hT => ?_
      obtain ⟨c1, c2, c3, c4, c5⟩ := hT
      have c50 : J3 50 = fun j => if j = t then g 16 else J 50 j := by rw [c1 50 (by simp; omega), g2]
      have ff3 : fr [49, 50, mb, mb + 1] I J3 := fr_trans hf (fr_trans (fr_mono f2 (by simp)) (fr_mono c1 (by simp)))
      have m3 : ∀ j, j ≠ 0 → j ≠ 1 → J3 mb j = I mb j := fun j a b => by rw [c3 j a, hm2]; exact hj j a b
      have p50 : ∀ t', 0 ≤ t' → t' < 4 → 0 ≤ J3 50 t' ∧ J3 50 t' ≤ 400 := fun t' a b => by
        rw [c50]
        show 0 ≤ (if t' = t then _ else _) ∧ (if t' = t then _ else _) ≤ _
        split
        · omega
        · exact h50 t' a b
      have eT1 : (pTab B g RT').1 = (pTab0 B g RT').1 := rfl
      have eT2 : (pTab B g RT').2.1 = st1 (pTab0 B g RT').2.1 24 (g 24 + 1) := rfl
      have eT3 : (pTab B g RT').2.2 = (pTab0 B g RT').2.2 := rfl
      unfold pTabG at eR
      obtain ⟨k1, k2, k3, k4, k5⟩ := pTab_ok (B := B) (f := g) (RT := RT') hr.2.1 oR' g23
      rcases c5 with ⟨v1, w1, w2, w3, w4, w5, w6, w7⟩ | ⟨v0, w1⟩
      · rw [if_pos (show (pTab B g RT').1 = true from w1)] at eR
        refine ⟨fun _ => ⟨⟨by omega, by omega⟩, fun J6 e6 => ?_⟩, fun w => by omega⟩
        obtain ⟨f6, g6⟩ := fr_eq_iu e6
        have st23 : (pTab B g RT').2.1 23 = (pTab0 B g RT').2.1 23 := by
          rw [eT2]
          show (if (23 : Int) = 24 then _ else _) = _
          rw [if_neg (by decide)]
        have st24 : (pTab B g RT').2.1 24 = t + 1 := by rw [k4, g24]
        have rd6 : rdF B (pTab B g RT').2.1 J6 := by
          rw [eT2]
          refine rdF_st (rdF_fr c2 (f6 2 (by simp; omega)) (f6 49 (by simp; omega))) fun s s0 s1 => ?_
          show (if s = 24 then _ else _) = _
          rw [if_neg (by omega)]
        have ff6 : fr [49, 50, mb, mb + 1] I J6 := fr_trans ff3 (fr_mono f6 (by simp))
        have m6 : ∀ j, j ≠ 0 → j ≠ 1 → J6 mb j = I mb j := fun j a b => by
          rw [g6]
          show (if j = 1 then _ else _) = _
          rw [if_neg b]; exact m3 j a b
        have m60 : J6 mb 0 = (pTab B g RT').2.1 23 := by
          rw [g6, st23]
          show (if (0 : Int) = 1 then _ else _) = _
          rw [if_neg (by decide)]; exact w2
        have m61 : J6 mb 1 = t + 1 := by
          rw [g6]
          show (if (1 : Int) = 1 then _ else _) = _
          rw [if_pos rfl]
        have t6 : J6 (mb + 1) = J3 (mb + 1) := f6 (mb + 1) (by simp)
        have p6 : J6 50 = J3 50 := f6 50 (by simp; omega)
        have rp6 : ∀ t', 0 ≤ t' → t' < t + 1 → J6 50 t' = st1 RP' (g 24) (g 16) t' := fun t' a b => by
          rw [p6, c50, g24]
          show (if t' = t then _ else _) = if t' = t then _ else _
          by_cases w : t' = t
          · rw [if_pos w, if_pos w]
          · rw [if_neg w, if_neg w]; exact hp t' a (by omega)
        have cl6 : ∀ t' i j, 0 ≤ t' → t' < t + 1 → 0 ≤ i → i < (pTab B g RT').2.1 23 → 0 ≤ j → j < (pTab B g RT').2.1 23 → J6 (mb + 1) (9 * t' + (pTab B g RT').2.1 23 * i + j) = (pTab B g RT').2.2 (9 * t' + 3 * i + j) := by
          rw [st23, eT3, t6]
          intro t' i j a0 a1 a2 a3 a4 a5
          by_cases w : t' = t
          · rw [w]; exact w5 i j a2 a3 a4 a5
          · have gz := gt (by omega)
            have dd := w4 gz
            have lt : 0 ≤ (pTab0 B g RT').2.1 23 * i ∧ (pTab0 B g RT').2.1 23 * i + j < 9 := by
              rcases w3 with u | u <;> rw [u] at a3 a5 ⊢ <;> omega
            rw [w7 gz _ (by omega), w6 _ (by omega), ht2, dd]
            exact hc t' i j a0 (by omega) a2 (by omega) a4 (by omega)
        have k5' : J6 49 5 = kd (pTab B g RT').2.1 := rd6.1.2.2.2.2.1
        rw [k5']
        rw [pTabsF] at eR
        refine ⟨fun n0 => ⟨fun q59 => ?_, fun n59 => ?_⟩, fun z0 => ?_⟩
        · have y := (kd_sg rd6.2.2 (c := 59) (by decide)).mp q59
          rw [if_pos y] at eR
          first
            | (have t3 : t = 3 := by omega
               rw [if_pos (show (pTab B g RT').2.1 24 = 4 by omega)] at eR
               refine ⟨fun w => by omega, fun _ => mI_mono (t_ref (d := d + 4) hz rd6 (by decide) (by decide)) fun v9 J8 ⟨a, b, c'⟩ => ?_⟩
               subst a
               refine ⟨Or.inl rfl, qI_mk ⟨fr_trans ff6 (fr_mono b (by simp)), by rw [b (mb + 1) (by simp; omega), t6]; exact c4, fun j a1 a2 => by rw [b mb (by simp; omega)]; exact m6 j a1 a2, fun t' a b' => by rw [b 50 (by simp), p6]; exact p50 t' a b', Or.inl ⟨rfl, ?_, ?_⟩⟩⟩
               · unfold pTabs
                 rw [← eR, if_neg (fun w => Bool.false_ne_true w.1)]
               · unfold pTabs
                 rw [← eR, if_neg (fun w => Bool.false_ne_true w.1)]
                 exact c'.1.2.2.2.2.2.2)
            | (rw [if_neg (show ¬ (pTab B g RT').2.1 24 = 4 by omega)] at eR
               refine ⟨fun _ => mU_mono (t_adv (d := d + 2) hz rd6) fun J7 ⟨a, b⟩ => ?_, fun w => by omega⟩
               have tk := (tok_ok' B rd6.2.1).2
               refine ih (t + 1) (tok (pTab B g RT').2.1 B) (pTab B g RT').2.2 (st1 RP' (g 24) (g 16)) J7 (by omega) (by omega) ?_ k2 (fr_trans ff6 (fr_mono a (by simp))) b (by rw [tk 24 (by decide)]; exact st24) (by rw [tk 23 (by decide), st23]; omega) (fun _ => by rw [tk 23 (by decide), st23]; omega) (by rw [tk 23 (by decide), a mb (by simp; omega)]; exact m60) (fun j a1 a2 => by rw [a mb (by simp; omega)]; exact m6 j a1 a2) (by rw [a (mb + 1) (by simp; omega), t6]; exact c4) (fun t' x y => by rw [a 50 (by simp), p6]; exact p50 t' x y) (fun t' x y => by rw [a 50 (by simp)]; exact rp6 t' x y) ?_
               · rw [← eR]
                 unfold pTabG
                 rw [tk 24 (by decide)]
               · rw [tk 23 (by decide), a (mb + 1) (by simp; omega)]
                 exact cl6)
        · have n : ¬ ((pTab B g RT').2.1 18 = 2 ∧ (pTab B g RT').2.1 19 = 59) := fun w => n59 ((kd_sg rd6.2.2 (by decide)).mpr w)
          rw [if_neg n] at eR
          have n18 : (pTab B g RT').2.1 18 ≠ 0 := fun w => n0 ((kd_0 rd6.2.2).mpr w)
          refine mI_mono (t_ref (d := d + 4) hz rd6 (by decide) (by decide)) fun v9 J8 ⟨a, b, c'⟩ => ?_
          subst a
          have eP : pTabs B f RT RP = (false, rBad (pTab B g RT').2.1 1, (pTab B g RT').2.2, st1 RP' (g 24) (g 16)) := by
            unfold pTabs
            rw [← eR, if_pos ⟨rfl, n18⟩]
          refine ⟨Or.inl rfl, qI_mk ⟨fr_trans ff6 (fr_mono b (by simp)), by rw [b (mb + 1) (by simp; omega), t6]; exact c4, fun j a1 a2 => by rw [b mb (by simp; omega)]; exact m6 j a1 a2, fun t' a b' => by rw [b 50 (by simp), p6]; exact p50 t' a b', Or.inl ⟨rfl, ?_, ?_⟩⟩⟩
          · rw [eP]
          · rw [eP]
            exact c'.1.2.2.2.2.2.2
        · have z18 : (pTab B g RT').2.1 18 = 0 := (kd_0 rd6.2.2).mp z0
          rw [if_neg (by omega)] at eR
          have eP : pTabs B f RT RP = (true, (pTab B g RT').2.1, (pTab B g RT').2.2, st1 RP' (g 24) (g 16)) := by
            unfold pTabs
            rw [← eR, if_neg (fun w => w.2 z18)]
          have wm : ∀ t' : Nat, (t' : Int) < t + 1 → wmat ((pTab B g RT').2.1 23) (J6 (mb + 1)) (t' : Int) = mat ((pTab B g RT').2.1 23) (pTab B g RT').2.2 (t' : Int) := fun t' a => wmat_mat fun i j b1 b2 b3 b4 => cl6 t' i j (by omega) a b1 b2 b3 b4
          refine mI_mono (t_haveInv (n := (t + 1).toNat) (D := (pTab B g RT').2.1 23) (d := d + 2) hz pm (by rw [st23]; exact w3) (by omega) m60 (by rw [m61]; omega) (by rw [t6]; exact c4) (fun t' a b => by rw [p6]; exact p50 t' a b)) fun v I12 hI => ?_
          rcases hI with ⟨v1, i1, al⟩ | ⟨v0, t', tn, d0, al, i1⟩
          · subst v1
            subst i1
            refine ⟨Or.inr rfl, qI_mk ⟨ff6, by rw [t6]; exact c4, m6, by rw [p6]; exact p50, Or.inr ?_⟩⟩
            rw [eP]
            exact ⟨rfl, by show (pTab B g RT').2.1 23 = 2 ∨ (pTab B g RT').2.1 23 = 3; rw [st23]; exact w3, by show 1 ≤ (pTab B g RT').2.1 24; omega, by show (pTab B g RT').2.1 24 ≤ 4; omega, m60, by show _ = (pTab B g RT').2.1 24; omega, fun t' a => wm t' (by rw [← st24]; exact a), Or.inl ⟨rfl, fun t' a => by
              have a' : (t' : Int) < (pTab B g RT').2.1 24 := a
              show mDet (mat ((pTab B g RT').2.1 23) (pTab B g RT').2.2 (t' : Int)) ≠ 0
              rw [← wm t' (by omega)]; exact al t' (by omega)⟩⟩
          · subst v0
            obtain ⟨f12, g12⟩ := fr_eq_iu i1
            refine ⟨Or.inl rfl, qI_mk ⟨fr_trans ff6 (fr_mono f12 (by simp)), by rw [f12 (mb + 1) (by simp; omega), t6]; exact c4, fun j a b => by rw [f12 mb (by simp; omega)]; exact m6 j a b, by rw [f12 50 (by simp), p6]; exact p50, Or.inr ?_⟩⟩
            rw [eP]
            refine ⟨rfl, by show (pTab B g RT').2.1 23 = 2 ∨ (pTab B g RT').2.1 23 = 3; rw [st23]; exact w3, by show 1 ≤ (pTab B g RT').2.1 24; omega, by show (pTab B g RT').2.1 24 ≤ 4; omega, by rw [f12 mb (by simp; omega)]; exact m60, by rw [f12 mb (by simp; omega)]; show _ = (pTab B g RT').2.1 24; omega, fun t'' a => by rw [f12 (mb + 1) (by simp; omega)]; exact wm t'' (by rw [← st24]; exact a), Or.inr ⟨rfl, t', by show (t' : Int) < (pTab B g RT').2.1 24; omega, ?_, fun t'' a => ?_, ?_⟩⟩
            · show mDet (mat ((pTab B g RT').2.1 23) (pTab B g RT').2.2 (t' : Int)) = 0
              rw [← wm t' (by omega)]; exact d0
            · show mDet (mat ((pTab B g RT').2.1 23) (pTab B g RT').2.2 (t'' : Int)) ≠ 0
              rw [← wm t'' (by omega)]; exact al t'' a
            · rw [g12]
              show (if (8 : Int) = 8 then _ else _) = 8 * st1 RP' (g 24) (g 16) (t' : Int) + 3
              rw [if_pos rfl, rp6 t' (by omega) (by omega)]
      · rw [if_neg (show ¬ (pTab B g RT').1 = true from fun w => Bool.false_ne_true (w1.symm.trans w))] at eR
        refine ⟨fun w => absurd v0 w, fun _ => qI_mk ⟨ff3, c4, m3, p50, Or.inl ⟨rfl, ?_, ?_⟩⟩⟩
        · unfold pTabs
          rw [← eR, if_neg (fun w => Bool.false_ne_true w.1)]
        · unfold pTabs
          rw [← eR, if_neg (fun w => Bool.false_ne_true w.1)]
          show _ = (pTab B g RT').2.1 20
          rw [eT2]
          show _ = if (20 : Int) = 24 then _ else _
          rw [if_neg (by decide)]
          exact c2.1.2.2.2.2.2.2
  refine wr_Reader_readTables hz pm fun J1 e1 => ?_
  obtain ⟨f1, g1⟩ := fr_eq_iu e1
  refine L7 3 0 f RT RP J1 (by omega) (by omega) rfl oR (fr_mono f1 (by simp)) (rdF_fr h (f1 2 (by simp; omega)) (f1 49 (by simp; omega))) h24 (Or.inl h23) (fun w => absurd rfl w) ?_ (fun j a b => ?_) (by rw [f1 (mb + 1) (by simp)]; exact ot) (by rw [f1 50 (by simp; omega)]; exact hP) (fun t' a b => by omega) fun t' i j a b => by omega
  · rw [g1, h23]
    show (if (0 : Int) = 0 then _ else _) = _
    rw [if_pos rfl]
  · rw [g1]
    show (if j = 0 then _ else _) = _
    rw [if_neg a]
end WTS
