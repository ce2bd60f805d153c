/-! the calls average and of of the reference -/
section MAV
variable {d : Nat} {z : cm_Z} {I : cm_I} {K : Int → Int → Int} {n : Nat} {L : Nat → cMat}
theorem mGs_fr {I1 : cm_I} (G : mGs n L I) (e9 : I1 209 1 = I 209 1) (e11 : I1 209 11 = I 209 11) (e18 : I1 218 = I 218) : mGs n L I1 := by
  obtain ⟨a, b, c, e, f, g⟩ := G
  refine ⟨by unfold mD; rw [e9]; exact a, by rw [e11]; exact b, c, fun k hk => ?_, by rw [e18]; exact f, g⟩
  rw [← e k hk]
  unfold mMem
  rw [e9, e18]
theorem s_average (hz : mz z) (hO : mvOk I) (o5 : okR (I 215)) (hK : kOk I K) (G : mGs n L I) (n1 : 1 ≤ n) (k to : Int) : mI (d + 5) m_Model_average [vR 12 209, vI k, vI to] z I fun r I1 => fr [209, 213, 215, 216, 224] I I1 ∧ I1 209 = st1 (I 209) 0 0 ∧ okR (I1 215) ∧ okR (I1 216) ∧ okR (I1 224) ∧ (((kFit k ∧ kFit to) ∧ kOk I1 (kSet K to (av (I 209 1) L n (K k))) ∧ r = vTerms (av (I 209 1) L n (K k))) ∨ (¬ (kFit k ∧ kFit to) ∧ I1 213 = I 213 ∧ r = -1)) := by
  have hD' : I 209 1 = 2 ∨ I 209 1 = 3 := hO.1
  generalize hX : (fun (r : Int) (I1 : cm_I) => fr [209, 213, 215, 216, 224] I I1 ∧ I1 209 = st1 (I 209) 0 0 ∧ okR (I1 215) ∧ okR (I1 216) ∧ okR (I1 224) ∧ (((kFit k ∧ kFit to) ∧ kOk I1 (kSet K to (av (I 209 1) L n (K k))) ∧ r = vTerms (av (I 209 1) L n (K k))) ∨ (¬ (kFit k ∧ kFit to) ∧ I1 213 = I 213 ∧ r = -1))) = X
  refine mr_average hz fun I1 e1 => ?_
  obtain ⟨f1, g1⟩ := fr_eq_iu e1
  have h1 : I1 209 1 = I 209 1 := by rw [g1]; rfl
  have no : ¬ (kFit k ∧ kFit to) → qI z X (some (vI (-1))) (I1, z) := fun hn => qI_mk (by rw [← hX]; exact ⟨fr_mono f1 (by decide), g1, by rw [f1 215 (by decide)]; exact o5, by rw [f1 216 (by decide)]; exact hO.2.2.1, by rw [f1 224 (by decide)]; exact hO.2.2.2.2.2, Or.inr ⟨hn, f1 213 (by decide), rfl⟩⟩)
  refine mI_mono (s_isKept hz k) fun v3 I2 ⟨e2, ev3⟩ => ?_
  rw [e2]
  refine ⟨fun q => no fun x => by rw [if_pos x.1] at ev3; omega, fun q3 => mI_mono (s_isKept hz to) fun v5 I4 ⟨e4, ev5⟩ => ?_⟩
  rw [e4]
  refine ⟨fun q5 => ?_, fun q => no fun x => by rw [if_pos x.2] at ev5; omega⟩
  have ck : 0 ≤ k ∧ k ≤ 5 := Classical.byContradiction fun x => q3 (by rw [ev3, if_neg x])
  have ct : 0 ≤ to ∧ to ≤ 5 := Classical.byContradiction fun x => q5 (by rw [ev5, if_neg x])
  have n48 := G.2.2.1
  have hn : I 209 11 = n := G.2.1
  have G1 : mGs n L I1 := by rw [e1]; exact mGs_thr G
  have e13 : I1 213 = I 213 := f1 213 (by decide)
  have l13 : mLen 213 = 6840 := rfl
  have l18 : mLen 218 = 441 := rfl
  have l15 : mLen 215 = 1140 := rfl
  obtain ⟨rk, vk⟩ := hK.2 k ck.1 ck.2
  refine mU_mono (s_clears hz mA215 (by omega) (by omega) (by omega)) fun I6 e6 => ?_
  obtain ⟨f6, g6⟩ := fr_eq_iw e6
  have fA : fr [209, 215] I I6 := fr_trans (fr_mono f1 (by decide)) (fr_mono f6 (by decide))
  have e69 : I6 209 = st1 (I 209) 0 0 := by rw [f6 209 (by decide), g1]; rfl
  have e611 : I6 209 11 = n := by rw [e69]; exact hn
  rw [e611]
  refine mI_mono (s_inverse hz (by omega) (by omega)) fun v8 I7 ⟨e7, ev8⟩ => ?_
  rw [e7, ev8]
  generalize hby : fInv (toF (n : Int)) = by_
  have fb := fi_bd by_
  have key : ∀ (m g : Nat) (I0 : cm_I) (z5 : Option cm_V), g + m = n → fr [215, 216, 224] I6 I0 → okR (I0 215) → okR (I0 216) → okR (I0 224) → (∀ j, 0 ≤ j → j < 1140 → toF (I0 215 j) = avN (I 209 1) L by_ (K k) g j) → cw (d + 4) cd_Model_average (qI z X) 42 [some (vR 12 209), some (vI k), some (vI to), some (vI (fi by_)), some (vI (g : Int)), z5] [] (I0, z) := by
    intro m
    induction m with
    | zero =>
      intro g I0 z5 eg f0 o05 o06 o04 row
      have e9 : I0 209 = st1 (I 209) 0 0 := by rw [f0 209 (by decide), e69]
      refine mr_average_42 hz ⟨fun _ => ⟨⟨by omega, by omega⟩, mU_mono (s_copies hz mA215 mA213 (by omega) (by omega) (by omega) (by omega) (by omega) (by omega) (by decide)) fun I2 e2 => ?_⟩, fun q => ?_⟩
      · obtain ⟨f2, g2⟩ := fr_eq_iw e2
        have w9 : I2 209 = st1 (I 209) 0 0 := by rw [f2 209 (by decide), e9]
        have e03 : I0 213 = I 213 := by rw [f0 213 (by decide), fA 213 (by decide)]
        have kk : kOk I2 (kSet K to (av (I 209 1) L n (K k))) := kOk_put hK ct.1 ct.2 (by rw [g2, e03]) (fun j j0 j1 => by
          rw [show (0 : Int) + j = j by omega]
          unfold av
          rw [if_pos ⟨j0, j1⟩, hby, ← show g = n by omega, ← row j j0 j1, fi_toF]
          have := o05 j
          omega) (vOk_av hD' L n (K k)) (by rw [w9]; rfl)
        refine mI_mono (s_terms hz (by omega) (by omega)) fun r I3 ⟨e3, er⟩ => qI_mk ?_
        have hrow := (kk.2 to ct.1 ct.2).1
        rw [kSet_at] at hrow
        rw [e3, er, isRow_terms hrow, ← hX]
        exact ⟨fr_trans (fr_mono fA (by decide)) (fr_trans (fr_mono f0 (by decide)) (fr_mono f2 (by decide))), w9, by rw [f2 215 (by decide)]; exact o05, by rw [f2 216 (by decide)]; exact o06, by rw [f2 224 (by decide)]; exact o04, Or.inl ⟨⟨ck, ct⟩, kk, rfl⟩⟩
      · rw [e9] at q
        have : st1 (I 209) 0 0 11 = n := hn
        omega
    | succ m ih =>
      intro g I0 z5 eg f0 o05 o06 o04 row
      have e9 : I0 209 = st1 (I 209) 0 0 := by rw [f0 209 (by decide), e69]
      have e91 : I0 209 1 = I 209 1 := by rw [e9]; rfl
      have e03 : I0 213 = I 213 := by rw [f0 213 (by decide), fA 213 (by decide)]
      have e08 : I0 218 = I 218 := by rw [f0 218 (by decide), fA 218 (by decide)]
      have hD0 : mD I0 := by unfold mD; rw [e91]; exact hO.1
      have hm0 : mMon I0 := by
        have hm := hO.2.1
        unfold mMon at hm ⊢
        rw [e91, f0 210 (by decide), f0 211 (by decide), f0 212 (by decide), fA 210 (by decide), fA 211 (by decide), fA 212 (by decide)]
        exact hm
      refine mr_average_42 hz ⟨fun q => ?_, fun _ => ⟨⟨by omega, by omega⟩, mU_mono (s_moves hz hD0 hm0 mA213 mA218 mA216 (by decide) (by decide) (by decide) (by decide) (by decide) (by rw [e03]; exact hK.1) (by rw [e08]; exact hO.2.2.2.2.1) o06 o04 (by omega) (by omega) (by omega) (by omega) (by omega) (by omega) (show (1140 : Int) ≤ 1140 by omega) (v := K k) (by rw [e03]; exact rk) (by rw [e91]; exact vk)) fun I8 ⟨f8, o84, o86, row8⟩ => ?_⟩⟩
      · rw [e9] at q
        have : st1 (I 209) 0 0 11 = n := hn
        omega
      have eA : mat (I0 209 1) (I0 218) (g : Int) = L g := by
        rw [← G.2.2.2.1 g (by omega)]
        unfold mMem
        rw [e91, e08]
      rw [eA, e91] at row8
      have k77 : ∀ (p : Nat) (i : Int) (I3 : cm_I), 0 ≤ i → i + p = 1140 → fr [215] I8 I3 → okR (I3 215) → (∀ j, 0 ≤ j → j < 1140 → toF (I3 215 j) = avN (I 209 1) L by_ (K k) (if j < i then g + 1 else g) j) → cw (d + 4) cd_Model_average (qI z X) 77 [some (vR 12 209), some (vI k), some (vI to), some (vI (fi by_)), some (vI (g : Int)), some (vI i)] [] (I3, z) := by
        intro p
        induction p with
        | zero =>
          intro i I3 i0 ei f3 o35 row3
          refine mr_average_77 hz ⟨fun _ => ⟨⟨by omega, by omega⟩, ?_⟩, fun q => by omega⟩
          have := ih (g + 1) I3 (some (vI i)) (by omega) (fr_trans f0 (fr_trans (fr_mono f8 (by decide)) (fr_mono f3 (by decide)))) o35 (by rw [f3 216 (by decide)]; exact o86) (by rw [f3 224 (by decide)]; exact o84) fun j j0 j1 => by rw [row3 j j0 j1, if_pos (by omega)]
          rw [show ((g + 1 : Nat) : Int) = (g : Int) + 1 by omega] at this
          exact this
        | succ p ihp =>
          intro i I3 i0 ei f3 o35 row3
          have r8 := row8 i i0 (by omega)
          rw [show (0 : Int) + i = i by omega] at r8
          have e36 : I3 216 = I8 216 := f3 216 (by decide)
          have om := o86 i
          have o3i := o35 i
          have bm := mul_bd (x := I8 216 i) (y := fi by_) (X := 2520) (Y := 2520) om.1 (by omega) fb.1 (by omega)
          refine mr_average_77 hz ⟨fun q => by omega, fun q => ?_⟩
          rw [e36]
          refine ⟨⟨by omega, by omega⟩, ⟨by omega, by omega⟩, ⟨by omega, by omega⟩, fun I5 e5 => ⟨⟨by omega, by omega⟩, ?_⟩⟩
          obtain ⟨f5, g5⟩ := fr_eq_iu e5
          rw [tmod_pos (by omega)] at g5
          refine ihp (i + 1) I5 (by omega) (by omega) (fr_trans f3 f5) (by rw [g5]; exact okR_st o35 (by omega) (by omega)) fun j j0 j1 => ?_
          rw [g5]
          show toF (if j = i then _ else _) = _
          by_cases e : j = i
          · rw [if_pos e, if_pos (by omega), toF_mod, toF_add, toF_mul, toF_fi, ← e, row3 j j0 j1, if_neg (by omega)]
            rw [e, r8]
            rfl
          · rw [if_neg e, row3 j j0 j1]
            by_cases q : j < i
            · rw [if_pos q, if_pos (by omega)]
            · rw [if_neg q, if_neg (by omega)]
      exact k77 1140 0 I8 (by omega) rfl (fr_refl _ _) (by rw [f8 215 (by decide)]; exact o05) fun j j0 j1 => by rw [f8 215 (by decide), row j j0 j1, if_neg (by omega)]
  refine key n 0 I6 _ (by omega) (fr_refl _ _) ?_ (by rw [fA 216 (by decide)]; exact hO.2.2.1) (by rw [fA 224 (by decide)]; exact hO.2.2.2.2.2) fun j j0 j1 => ?_
  · rw [g6, f1 215 (by decide)]
    exact okR_fill o5 _ _
  · rw [g6]
    unfold fillF
    rw [if_pos (by omega)]
    rfl
theorem s_unlike (hz : mz z) (hO : mvOk I) (o5 : okR (I 225)) (ok3 : okR (I 213)) (G : mGs n L I) {x : Int} (x0 : 0 ≤ x) (x1 : x + 1140 ≤ 6840) {v : Int → Int} (hv : isRow (I 213) x v) (vo : vOk (I 209 1) v) : mI (d + 5) m_Model_unlike [vR 12 209, vI x] z I fun r I1 => fr [216, 224, 225] I I1 ∧ okR (I1 216) ∧ okR (I1 224) ∧ okR (I1 225) ∧ r = uq (fun g => mv (I 209 1) (L g) v) n := by
  have hD' : I 209 1 = 2 ∨ I 209 1 = 3 := hO.1
  generalize hX : (fun (r : Int) (I1 : cm_I) => fr [216, 224, 225] I I1 ∧ okR (I1 216) ∧ okR (I1 224) ∧ okR (I1 225) ∧ r = uq (fun g => mv (I 209 1) (L g) v) n) = X
  generalize hF : (fun g => mv (I 209 1) (L g) v) = F at hX
  have n48 := G.2.2.1
  have hn : I 209 11 = n := G.2.1
  have l13 : mLen 213 = 6840 := rfl
  have l18 : mLen 218 = 441 := rfl
  have l25 : mLen 225 = 54720 := rfl
  have out : ∀ (g : Nat) (j : Int), ¬ (0 ≤ j ∧ j < 1140) → F g j = 0 := fun g j h => by
    rw [← hF]
    exact mv_out hD' h
  have key : ∀ (m g : Nat) (I0 : cm_I) (z4 z5 z6 z7 : Option cm_V), g + m = n → fr [216, 224, 225] I I0 → okR (I0 216) → okR (I0 224) → okR (I0 225) → (∀ o, o < uq F g → ∃ h, h < g ∧ isRow (I0 225) (1140 * (o : Int)) (F h)) → (∀ h, h < g → ∃ o, o < uq F g ∧ isRow (I0 225) (1140 * (o : Int)) (F h)) → cw (d + 4) cd_Model_unlike (qI z X) 4 [some (vR 12 209), some (vI x), some (vI (uq F g : Int)), some (vI (g : Int)), z4, z5, z6, z7] [] (I0, z) := by
    intro m
    induction m with
    | zero =>
      intro g I0 z4 z5 z6 z7 eg f0 o6 o4 o25 st1' st2
      refine mr_unlike_4 hz ⟨fun _ => qI_mk ?_, fun q => ?_⟩
      · rw [← hX, show g = n by omega]
        exact ⟨f0, o6, o4, o25, rfl⟩
      · rw [f0 209 (by decide)] at q
        omega
    | succ m ih =>
      intro g I0 z4 z5 z6 z7 eg f0 o6 o4 o25 st1' st2
      have e9 : I0 209 = I 209 := f0 209 (by decide)
      have e3 : I0 213 = I 213 := f0 213 (by decide)
      have ul := uq_le F g
      have hD0 : mD I0 := by unfold mD; rw [e9]; exact hO.1
      have hm0 : mMon I0 := by
        have hm := hO.2.1
        unfold mMon at hm ⊢
        rw [e9, f0 210 (by decide), f0 211 (by decide), f0 212 (by decide)]
        exact hm
      refine mr_unlike_4 hz ⟨fun q => by rw [e9] at q; omega, fun _ => mU_mono (s_moves hz hD0 hm0 mA213 mA218 mA216 (by decide) (by decide) (by decide) (by decide) (by decide) (by rw [e3]; exact ok3) (by rw [f0 218 (by decide)]; exact hO.2.2.2.2.1) o6 o4 x0 (by omega) (by omega) (by omega) (by omega) (by omega) (show (1140 : Int) ≤ 1140 by omega) (v := v) (by rw [e3]; exact hv) (by rw [e9]; exact vo)) fun I1 ⟨f1, o14, o16, row⟩ => ⟨⟨by omega, by omega⟩, ?_⟩⟩
      have eA : mat (I0 209 1) (I0 218) (g : Int) = L g := by
        rw [← G.2.2.2.1 g (by omega)]
        unfold mMem
        rw [e9, f0 218 (by decide)]
      rw [eA, e9] at row
      have row : isRow (I1 216) 0 (F g) := by rw [← hF]; exact row
      refine mU_mono (s_copies hz mA216 mA225 (by omega) (by omega) (by omega) (by omega) (show _ ≤ (1140 : Int) by omega) (by omega) (by decide)) fun I3 e3' => ?_
      obtain ⟨f3, g3⟩ := fr_eq_iw e3'
      rw [f1 225 (by decide)] at g3
      have fA : fr [216, 224, 225] I I3 := fr_trans f0 (fr_trans (fr_mono f1 (by decide)) (fr_mono f3 (by decide)))
      have e36 : I3 216 = I1 216 := f3 216 (by decide)
      have o36 : okR (I3 216) := by rw [e36]; exact o16
      have o34 : okR (I3 224) := by rw [f3 224 (by decide)]; exact o14
      have o35 : okR (I3 225) := by
        rw [g3]
        exact okR_cpy o25 _ _ _ fun j _ _ => o16 _
      have lowr : ∀ (o h : Nat), o < uq F g → isRow (I0 225) (1140 * (o : Int)) (F h) → isRow (I3 225) (1140 * (o : Int)) (F h) := by
        intro o h ho hr j j0 j1
        rw [g3]
        unfold cpyF
        rw [if_neg (by omega)]
        exact hr j j0 j1
      have newr : isRow (I3 225) (1140 * (uq F g : Int)) (F g) := by
        intro j j0 j1
        rw [g3]
        unfold cpyF
        rw [if_pos (by omega), ← row j j0 j1]
        congr 1
        omega
      have k138 : ∀ (b : Int) (z5 z6 z7 : Option cm_V), (b = 0 ∨ b = 1) → (b = 1 ↔ ∀ h, h < g → F h ≠ F g) → cw (d + 4) cd_Model_unlike (qI z X) 138 [some (vR 12 209), some (vI x), some (vI (uq F g : Int)), some (vI (g : Int)), some (vI b), z5, z6, z7] [] (I3, z) := by
        intro b z5 z6 z7 hb iff
        refine mr_unlike_138 hz ⟨fun q => ⟨⟨by omega, by omega⟩, ⟨by omega, by omega⟩, ?_⟩, fun q => ⟨⟨by omega, by omega⟩, ⟨by omega, by omega⟩, ?_⟩⟩
        · have old : ¬ ∀ h, h < g → F h ≠ F g := fun y => by have := iff.mpr y; omega
          have := ih (g + 1) I3 (some (vI b)) z5 z6 z7 (by omega) fA o36 o34 o35 (fun o ho => ?_) (fun h hh => ?_)
          · rw [uq_old old, show ((g + 1 : Nat) : Int) = (g : Int) + 1 by omega] at this
            rw [show (uq F g : Int) + 0 = (uq F g : Int) by omega]
            exact this
          · rw [uq_old old] at ho
            obtain ⟨h, h1, h2⟩ := st1' o ho
            exact ⟨h, by omega, lowr o h ho h2⟩
          · rw [uq_old old]
            by_cases e : h = g
            · obtain ⟨h0, h01, h02⟩ := Classical.byContradiction (p := ∃ h0, h0 < g ∧ F h0 = F g) fun y => old fun h0 h01 h02 => y ⟨h0, h01, h02⟩
              obtain ⟨o, ho, hr⟩ := st2 h0 h01
              exact ⟨o, ho, by rw [e, ← h02]; exact lowr o h0 ho hr⟩
            · obtain ⟨o, ho, hr⟩ := st2 h (by omega)
              exact ⟨o, ho, lowr o h ho hr⟩
        · have nw : ∀ h, h < g → F h ≠ F g := iff.mp (by omega)
          have := ih (g + 1) I3 (some (vI b)) z5 z6 z7 (by omega) fA o36 o34 o35 (fun o ho => ?_) (fun h hh => ?_)
          · rw [uq_new nw, show ((g + 1 : Nat) : Int) = (g : Int) + 1 by omega, show ((uq F g + 1 : Nat) : Int) = (uq F g : Int) + 1 by omega] at this
            exact this
          · rw [uq_new nw] at ho
            by_cases e : o = uq F g
            · exact ⟨g, by omega, by rw [e]; exact newr⟩
            · obtain ⟨h, h1, h2⟩ := st1' o (by omega)
              exact ⟨h, by omega, lowr o h (by omega) h2⟩
          · rw [uq_new nw]
            by_cases e : h = g
            · exact ⟨uq F g, by omega, by rw [e]; exact newr⟩
            · obtain ⟨o, ho, hr⟩ := st2 h (by omega)
              exact ⟨o, by omega, lowr o h ho hr⟩
      -- going through those there are
      have k53 : ∀ (p o : Nat) (b : Int) (z6 z7 : Option cm_V), o + p = uq F g → (b = 0 ∨ b = 1) → (b = 0 → ¬ ∀ h, h < g → F h ≠ F g) → (b = 1 → ∀ o', o' < o → ¬ isRow (I3 225) (1140 * (o' : Int)) (F g)) → cw (d + 4) cd_Model_unlike (qI z X) 53 [some (vR 12 209), some (vI x), some (vI (uq F g : Int)), some (vI (g : Int)), some (vI b), some (vI (o : Int)), z6, z7] [] (I3, z) := by
        intro p
        induction p with
        | zero =>
          intro o b z6 z7 eo hb h0 h1
          refine mr_unlike_53 hz ⟨fun _ => k138 b _ _ _ hb ⟨fun y h hh he => ?_, fun y => ?_⟩, fun q => by omega⟩
          · obtain ⟨o', ho', hr⟩ := st2 h hh
            exact h1 y o' (by omega) (by rw [← he]; exact lowr o' h ho' hr)
          · rcases hb with hb | hb
            · exact absurd y (h0 hb)
            · exact hb
        | succ p ihp =>
          intro o b z6 z7 eo hb h0 h1
          refine mr_unlike_53 hz ⟨fun q => by omega, fun _ => ⟨fun q => k138 b _ _ _ hb ⟨fun y => by omega, fun y => absurd y (h0 q)⟩, fun q => ?_⟩⟩
          have k120 : ∀ (s : Int) (z4 z7 : Option cm_V), (s = 0 ∨ s = 1) → (s = 1 ↔ isRow (I3 225) (1140 * (o : Int)) (F g)) → cw (d + 4) cd_Model_unlike (qI z X) 120 [some (vR 12 209), some (vI x), some (vI (uq F g : Int)), some (vI (g : Int)), z4, some (vI (o : Int)), some (vI s), z7] [] (I3, z) := by
            intro s z4 z7 hs iff
            refine mr_unlike_120 hz ⟨fun q => ⟨⟨by omega, by omega⟩, ?_⟩, fun q => ⟨⟨by omega, by omega⟩, ?_⟩⟩
            · have := ihp (o + 1) 0 (some (vI s)) z7 (by omega) (Or.inl rfl) (fun _ y => ?_) (fun y => absurd y (by decide))
              · rw [show ((o + 1 : Nat) : Int) = (o : Int) + 1 by omega] at this
                exact this
              · obtain ⟨h, hh, hr⟩ := st1' o (by omega)
                have r1 := lowr o h (by omega) hr
                have r2 := iff.mp (by omega)
                refine y h hh (funext fun j => ?_)
                by_cases hj : 0 ≤ j ∧ j < 1140
                · rw [← r1 j hj.1 hj.2, ← r2 j hj.1 hj.2]
                · rw [out h j hj, out g j hj]
            · have := ihp (o + 1) 1 (some (vI s)) z7 (by omega) (Or.inr rfl) (fun y => absurd y (by decide)) (fun _ o' ho' y => ?_)
              · rw [show ((o + 1 : Nat) : Int) = (o : Int) + 1 by omega] at this
                exact this
              · by_cases e : o' = o
                · rw [e] at y
                  have := iff.mpr y
                  omega
                · exact h1 (by omega) o' (by omega) y
          have k70 : ∀ (p2 : Nat) (i s : Int) (z4 : Option cm_V), 0 ≤ i → i + p2 = 1140 → (s = 0 ∨ s = 1) → (s = 1 → ∀ j, 0 ≤ j → j < i → I3 225 (1140 * (o : Int) + j) = F g j) → (s = 0 → ¬ isRow (I3 225) (1140 * (o : Int)) (F g)) → cw (d + 4) cd_Model_unlike (qI z X) 70 [some (vR 12 209), some (vI x), some (vI (uq F g : Int)), some (vI (g : Int)), z4, some (vI (o : Int)), some (vI s), some (vI i)] [] (I3, z) := by
            intro p2
            induction p2 with
            | zero =>
              intro i s z4 i0 ei hs hy hno
              refine mr_unlike_70 hz ⟨fun _ => k120 s _ _ hs ⟨fun y j j0 j1 => hy y j j0 (by omega), fun y => ?_⟩, fun q => by omega⟩
              rcases hs with hs | hs
              · exact absurd y (hno hs)
              · exact hs
            | succ p2 ihp2 =>
              intro i s z4 i0 ei hs hy hno
              have r8 := row i i0 (by omega)
              rw [show (0 : Int) + i = i by omega] at r8
              refine mr_unlike_70 hz ⟨fun q => by omega, fun q => ⟨fun q0 => k120 s _ _ hs ⟨fun y => by omega, fun y => absurd y (hno q0)⟩, fun q0 => ⟨⟨by omega, by omega⟩, ⟨by omega, by omega⟩, ⟨by omega, by omega⟩, ⟨by omega, by omega⟩, ?_⟩⟩⟩
              rw [e36, r8]
              refine ⟨fun q1 => ⟨⟨by omega, by omega⟩, ihp2 (i + 1) 0 _ (by omega) (by omega) (Or.inl rfl) (fun y => absurd y (by decide)) fun _ y => q1 (y i i0 q)⟩, fun q1 => ⟨⟨by omega, by omega⟩, ihp2 (i + 1) 1 _ (by omega) (by omega) (Or.inr rfl) (fun _ j j0 j1 => ?_) fun y => absurd y (by decide)⟩⟩
              by_cases e : j = i
              · rw [e]; exact q1
              · exact hy (by omega) j j0 (by omega)
          exact k70 1140 0 1 _ (by omega) rfl (Or.inr rfl) (fun _ j j0 j1 => by omega) fun y => absurd y (by decide)
      exact k53 (uq F g) 0 1 _ _ (by omega) (Or.inr rfl) (fun y => absurd y (by decide)) fun _ o' ho' => by omega
  exact mr_unlike hz (key n 0 I _ _ _ _ (by omega) (fr_refl _ _) hO.2.2.1 hO.2.2.2.2.2 o5 (fun o ho => by exact absurd ho (by simp [uq])) fun h hh => by omega)
/-- the answer of of -/
noncomputable def aOf (D : Int) (T : Nat → cMat) (nt n : Nat) (L : Nat → cMat) (K : Int → Int → Int) (k what : Int) : Int :=
  if 0 ≤ k ∧ k ≤ 5 then (if what = 0 then mDeg D (K k) 0 else if what = 1 then vTerms (K k) else if what = 2 then @ite Int (isInv D T nt (K k)) (Classical.propDecidable _) 1 0 else if what = 3 then @ite Int (vOne1 D (K k)) (Classical.propDecidable _) 1 0 else if what = 4 then (uq (fun g => mv D (L g) (K k)) n : Int) else -1) else -1
theorem s_of_ (hz : mz z) (hO : mvOk I) (o5 : okR (I 225)) (hK : kOk I K) (G : mGs n L I) {nt : Nat} (hnt : I 209 9 = nt) (hn4 : nt ≤ 4) (k what : Int) : mI (d + 6) m_Model_of_ [vR 12 209, vI k, vI what] z I fun r I1 => fr [209, 216, 224, 225] I I1 ∧ I1 209 = st1 (I 209) 0 0 ∧ okR (I1 216) ∧ okR (I1 224) ∧ okR (I1 225) ∧ r = aOf (I 209 1) (mTab I) nt n L K k what := by
  refine mr_of_ hz fun I1 e1 => ?_
  obtain ⟨f1, g1⟩ := fr_eq_iu e1
  have h1 : I1 209 1 = I 209 1 := by rw [g1]; rfl
  have hD1 : mD I1 := by unfold mD; rw [h1]; exact hO.1
  have hm1 : mMon I1 := by
    have hm := hO.2.1
    unfold mMon at hm ⊢
    rw [h1, f1 210 (by decide), f1 211 (by decide), f1 212 (by decide)]
    exact hm
  have hO1 : mvOk I1 := ⟨hD1, hm1, by rw [f1 216 (by decide)]; exact hO.2.2.1, by rw [f1 217 (by decide)]; exact hO.2.2.2.1, by rw [f1 218 (by decide)]; exact hO.2.2.2.2.1, by rw [f1 224 (by decide)]; exact hO.2.2.2.2.2⟩
  have e13 : I1 213 = I 213 := f1 213 (by decide)
  have eT : mTab I1 = mTab I := by unfold mTab; rw [h1, f1 217 (by decide)]
  have G1 : mGs n L I1 := by rw [e1]; exact mGs_thr G
  have base : fr [209, 216, 224, 225] I I1 ∧ I1 209 = st1 (I 209) 0 0 ∧ okR (I1 216) ∧ okR (I1 224) ∧ okR (I1 225) := ⟨fr_mono f1 (by decide), g1, hO1.2.2.1, hO1.2.2.2.2.2, by rw [f1 225 (by decide)]; exact o5⟩
  have same : ∀ r, r = aOf (I 209 1) (mTab I) nt n L K k what → qI z (fun r I1 => fr [209, 216, 224, 225] I I1 ∧ I1 209 = st1 (I 209) 0 0 ∧ okR (I1 216) ∧ okR (I1 224) ∧ okR (I1 225) ∧ r = aOf (I 209 1) (mTab I) nt n L K k what) (some (vI r)) (I1, z) := fun r hr => qI_mk ⟨base.1, base.2.1, base.2.2.1, base.2.2.2.1, base.2.2.2.2, hr⟩
  refine mI_mono (s_isKept hz k) fun v3 I2 ⟨e2, ev3⟩ => ?_
  rw [e2]
  refine ⟨fun q => ?_, fun q => same _ ?_⟩
  · have ck : 0 ≤ k ∧ k ≤ 5 := Classical.byContradiction fun x => q (by rw [ev3, if_neg x])
    obtain ⟨rk, vk⟩ := hK.2 k ck.1 ck.2
    have l13 : mLen 213 = 6840 := rfl
    have rk1 : isRow (I1 213) (1140 * k) (K k) := by rw [e13]; exact rk
    refine ⟨⟨by omega, by omega⟩, fun w0 => mI_mono (s_degree hz hD1 hm1 mA213 (by omega) (by omega) (by omega)) fun v6 I5 ⟨e5, ev6⟩ => ?_, fun w0 => ⟨fun w1 => mI_mono (s_terms hz (by omega) (by omega)) fun v8 I7 ⟨e7, ev8⟩ => ?_, fun w1 => ⟨fun w2 => mI_mono (s_isAlone hz hO1 mA213 (by decide) (by decide) (by rw [e13]; exact hK.1) (by omega) (by omega) (by omega) rk1 (by rw [h1]; exact vk) (nt := nt) (by rw [g1]; exact hnt) hn4) fun v10 I9 ⟨f9, o6, o4, b10, i10⟩ => ?_, fun w2 => ⟨fun w3 => mI_mono (s_isOfOne hz hD1 hm1 mA213 (by omega) (by omega) (by omega) rk1) fun v12 I11 ⟨e11, b12, i12⟩ => ?_, fun w3 => ⟨fun w4 => mI_mono (s_unlike hz hO1 (by rw [f1 225 (by decide)]; exact o5) (by rw [e13]; exact hK.1) G1 (by omega) (by omega) rk1 (by rw [h1]; exact vk)) fun v14 I13 ⟨f13, o6, o4, o25, ev14⟩ => qI_mk ?_, fun w4 => same _ ?_⟩⟩⟩⟩⟩
    · rw [e5]
      refine same _ ?_
      unfold aOf
      rw [if_pos ck, if_pos w0, ev6, isRow_deg rk1, h1]
    · rw [e7]
      refine same _ ?_
      unfold aOf
      rw [if_pos ck, if_neg w0, if_pos w1, ev8, isRow_terms rk1]
    · rw [h1, eT] at i10
      have post : ∀ r, r = aOf (I 209 1) (mTab I) nt n L K k what → qI z (fun r I1 => fr [209, 216, 224, 225] I I1 ∧ I1 209 = st1 (I 209) 0 0 ∧ okR (I1 216) ∧ okR (I1 224) ∧ okR (I1 225) ∧ r = aOf (I 209 1) (mTab I) nt n L K k what) (some (vI r)) (I9, z) := fun r hr => qI_mk ⟨fr_trans base.1 (fr_mono f9 (by decide)), by rw [f9 209 (by decide)]; exact base.2.1, o6, o4, by rw [f9 225 (by decide)]; exact base.2.2.2.2, hr⟩
      refine ⟨fun y => post _ ?_, fun y => post _ ?_⟩
      · unfold aOf
        rw [if_pos ck, if_neg w0, if_neg w1, if_pos w2, if_neg (fun x => by have := i10.mpr x; omega)]
      · unfold aOf
        rw [if_pos ck, if_neg w0, if_neg w1, if_pos w2, if_pos (i10.mp (by omega))]
    · rw [e11]
      rw [h1] at i12
      refine ⟨fun y => same _ ?_, fun y => same _ ?_⟩
      · unfold aOf
        rw [if_pos ck, if_neg w0, if_neg w1, if_neg w2, if_pos w3, if_neg (fun x => by have := i12.mpr x; omega)]
      · unfold aOf
        rw [if_pos ck, if_neg w0, if_neg w1, if_neg w2, if_pos w3, if_pos (i12.mp (by omega))]
    · refine ⟨fr_trans base.1 (fr_mono f13 (by decide)), by rw [f13 209 (by decide)]; exact base.2.1, o6, o4, o25, ?_⟩
      unfold aOf
      rw [if_pos ck, if_neg w0, if_neg w1, if_neg w2, if_neg w3, if_pos w4, ev14, h1]
    · unfold aOf
      rw [if_pos ck, if_neg w0, if_neg w1, if_neg w2, if_neg w3, if_neg w4]
  · unfold aOf
    rw [if_neg]
    intro x
    rw [if_pos x] at ev3
    omega
end MAV
