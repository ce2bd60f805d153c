/-! the call tables of the class -/
theorem pTabsF_20 {B : Int → Int} : ∀ (k : Nat) (f RT RP : Int → Int), rOk f → okR RT → (f 23 = 2 ∨ f 23 = 3) → f 20 = 0 → 0 ≤ (pTabsF B k f RT RP).2.1 20 ∧ (pTabsF B k f RT RP).2.1 20 ≤ 4000 := by
  intro k
  induction k with
  | zero => intro f RT RP h1 h2 h7 h20; show 0 ≤ f 20 ∧ f 20 ≤ 4000; omega
  | succ k ih =>
    intro f RT RP h1 h2 h7 h20
    rw [pTabsF]
    by_cases c1 : f 18 = 2 ∧ f 19 = 59
    · rw [if_pos c1]
      by_cases c2 : f 24 = 4
      · rw [if_pos c2]
        exact rBad20 h1 (by omega) (by omega) (by decide) (by decide)
      · rw [if_neg c2]
        obtain ⟨t1, t2⟩ := tok_ok' B h1
        have t23 := t2 23 (by omega)
        obtain ⟨q1, q2, q3, q4, q5, q6⟩ := id h1
        have t20 : tok f B 20 = f 20 := (tok_ok B (f := f) (by omega) q3 q4 q5 q6).2.1 20 (by omega)
        obtain ⟨x1, x2, x3, x4, x5⟩ := pTab_ok (B := B) t1 h2 (by rw [t23]; omega)
        have y := pTab_20 (B := B) t1 h2 (by rw [t23]; omega) (by rw [t20]; exact h20)
        by_cases c3 : (pTab B (tok f B) RT).1 = true
        · rw [if_pos c3]
          exact ih _ _ _ x1 x2 (x5 c3) (y.1 c3)
        · rw [if_neg c3]
          exact y.2
    · rw [if_neg c1]
      show 0 ≤ f 20 ∧ f 20 ≤ 4000
      omega
theorem pTabs_20 {B f RT RP : Int → Int} (h : rOk f) (hR : okR RT) (hP : okP RP) (h23 : f 23 = 0) (h24 : f 24 = 0) (h20 : f 20 = 0) : 0 ≤ (pTabs B f RT RP).2.1 20 ∧ (pTabs B f RT RP).2.1 20 ≤ 4000 := by
  obtain ⟨x1, x2, x3, x4, x5⟩ := pTab_ok (B := B) h hR (by omega)
  have y := pTab_20 (B := B) h hR (by omega) h20
  have a : 0 ≤ (pTabs1 B f RT RP).2.1 20 ∧ (pTabs1 B f RT RP).2.1 20 ≤ 4000 := by
    unfold pTabs1
    by_cases c : (pTab B f RT).1 = true
    · rw [if_pos c]
      exact pTabsF_20 4 _ _ _ x1 x2 (x5 c) (y.1 c)
    · rw [if_neg c]
      exact y.2
  have ok := (pTabs_ok (B := B) h hR hP h23 h24).1.1
  unfold pTabs
  split
  · exact rBad20 ok a.1 a.2 (by decide) (by decide)
  · exact a
section WC9
variable {d : Nat} {z z1 : cm_Z} {I I1 : cm_I} {D : Int} {sh mb : Nat} {T : Nat → cMat} {nt n : Nat} {L : Nat → cMat} {K K' : Int → Int → Int} {B B' : Int → Int} {tp tp' : Int} {rf : Option (Int → Int)}
def shOf (D : Int) : Nat := if D = 3 then 20 else 11
/-- what tables leaves: the old group, or a new one -/
def tbA (D : Int) (T : Nat → cMat) (nt n : Nat) (L : Nat → cMat) (K : Int → Int → Int) (B : Int → Int) (rf : Option (Int → Int)) (sh mb : Nat) (R : Bool × (Int → Int) × (Int → Int) × (Int → Int)) (T' : Nat → cMat) (r : Int) (I1 : cm_I) (z1 : cm_Z) : Prop :=
  (R.1 = false ∧ r = -2 - R.2.1 20 ∧ wI D T nt n L K B 0 rf sh mb z1 I1) ∨ (R.1 = true ∧ ((∃ t, t < (R.2.1 24).toNat ∧ mDet (T' t) = 0 ∧ (∀ t', t' < t → mDet (T' t') ≠ 0) ∧ r = -2 - (8 * R.2.2.2 (t : Int) + 3) ∧ wI D T nt n L K B 0 rf sh mb z1 I1) ∨ ((∀ t, t < (R.2.1 24).toNat → mDet (T' t) ≠ 0) ∧ gAll T' (R.2.1 24).toNat 48 = none ∧ r = -6 ∧ wI D T nt n L K B 0 rf sh mb z1 I1) ∨ ((∀ t, t < (R.2.1 24).toNat → mDet (T' t) ≠ 0) ∧ ∃ s, gAll T' (R.2.1 24).toNat 48 = some s ∧ r = (s.1 : Int) ∧ wI (R.2.1 23) T' (R.2.1 24).toNat s.1 s.2 (if R.2.1 23 = D then K else fun _ _ => 0) B 0 none (shOf (R.2.1 23)) (68 - mb) z1 I1)))
theorem vOk_zero (hD : D = 2 ∨ D = 3) : vOk D (fun _ => 0) := ⟨fun _ => ⟨Int.le_refl 0, by show (0 : Int) < 2521; decide⟩, fun _ _ => rfl, mDeg_le hD (by decide) fun _ _ _ _ => rfl⟩
theorem c_tables (h : wI D T nt n L K B tp rf sh mb z I) {f RT RP : Int → Int} (f0 : 0 ≤ f 19) (f9 : f 19 ≤ 9999) (oR : okR RT) (oP : okP RP) (m : Int) {R : Bool × (Int → Int) × (Int → Int) × (Int → Int)} (eR : R = pTabs B (tb0 B m f) RT RP) {T' : Nat → cMat} (hT' : 0 ≤ m ∧ m ≤ tp → R.1 = true → ∀ t : Nat, (t : Int) < R.2.1 24 → T' t = mat (R.2.1 23) R.2.2.1 (t : Int)) (hEx : 0 ≤ m ∧ m ≤ tp → R.1 = true → (∀ t, t < (R.2.1 24).toNat → mDet (T' t) ≠ 0) → ∀ t : Nat, t ≤ 15 → ∃ r X, isBs (R.2.1 23) T' (R.2.1 24).toNat t r X) : zcI (d + 7) m_Works_tables [vR 11 1, vI m] z I fun r I1 z1 => usW z z1 ∧ (((0 ≤ m ∧ m ≤ tp) ∧ tbA D T nt n L K B rf sh mb R T' r I1 z1) ∨ (¬ (0 ≤ m ∧ m ≤ tp) ∧ r = -1 ∧ wI D T nt n L K B tp rf sh mb z1 I1)) := by
  obtain ⟨hD, hz, hg, hs, pm, y6, y7, hS, hM, hE⟩ := wI_get h
  obtain ⟨hSS, hT, ⟨e1, t0, t4⟩, y8, hmem, hV, h50⟩ := id h.2.2.2.2.2.1
  have pm' : mb = 29 ∨ mb = 39 := pm
  obtain ⟨sp, hsp⟩ : ∃ sp, sp = 68 - mb := ⟨_, rfl⟩
  rw [← hsp] at y8
  have psp' : sp = 29 ∨ sp = 39 := by omega
  have psp : isMb sp := psp'
  have m3 : okR (I (sp + 1)) ∧ okR (I (sp + 2)) ∧ okR (I (sp + 9)) := by
    obtain ⟨o1, o2, o3, o4, o5, o6⟩ := hmem
    rcases psp' with e | e
    · rw [e]; exact ⟨o1, o2, o3⟩
    · rw [e]; exact ⟨o4, o5, o6⟩
  have no : ∀ J : cm_I, J = I → ¬ (0 ≤ m ∧ m ≤ tp) → kI (fun r I1 z1 => usW z z1 ∧ (((0 ≤ m ∧ m ≤ tp) ∧ tbA D T nt n L K B rf sh mb R T' r I1 z1) ∨ (¬ (0 ≤ m ∧ m ≤ tp) ∧ r = -1 ∧ wI D T nt n L K B tp rf sh mb z1 I1))) (some (vI (-1))) (J, z) := fun J e q => kI_mk ⟨usW_refl z, Or.inr ⟨q, rfl, by rw [e]; exact h⟩⟩
  refine wr2_Works_tables hz y8 y7 pm psp ?_
  rw [e1]
  refine ⟨fun w => no I rfl fun q => by omega, fun w1 => ⟨fun w2 I1 g1 => ?_, fun w => no I rfl fun q => by omega⟩⟩
  have all : 0 ≤ m ∧ m ≤ tp := ⟨w1, w2⟩
  have hT' := hT' all
  have hEx := hEx all
  obtain ⟨f1, v1⟩ := fr_eq_iu g1
  have T1 : tpR B I1 := by unfold tpR; rw [f1 2 (by decide)]; exact hT
  obtain ⟨p1, p2, p3, p4, p5, p6⟩ := tb0_ok (B := B) (f := f) (n := m) w1 (by omega) f0 f9
  refine mU_mono (t_open (d := d + 2) hz T1 (n := m) w1 (by omega) (g := st1 (st1 (st1 (st1 (st1 f 0 0) 15 m) 14 0) 17 0) 20 0) rfl rfl rfl) fun I2 ⟨f2, rd⟩ => ?_
  have rd2 : rdF B (tb0 B m f) I2 := ⟨rd, p1, (tok_ok B (f := st1 (st1 (st1 (st1 (st1 f 0 0) 15 m) 14 0) 17 0) 20 0) (show (0 : Int) ≤ 0 by omega) (show (0 : Int) ≤ m from w1) (show m ≤ 400 by omega) f0 f9).2.2.2⟩
  have f12 : fr [1, 49] I I2 := fr_trans (fr_mono f1 (by simp)) (fr_mono f2 (by simp))
  obtain ⟨_, tbk⟩ := pTabs_ok (B := B) (f := tb0 B m f) p1 oR oP rfl rfl
  rw [← eR] at tbk
  have rt := t_readTables (d := d) hz psp rd2 rfl rfl (by rw [f12 _ (by simp; omega)]; exact m3.1) (RT := RT) (RP := RP) oR (fun t a b => by rw [f12 50 (by decide)]; exact h50 t a b)
  rw [← eR] at rt
  have n1 : (1 : Nat) ∉ [49, 50, sp, sp + 1] := by simp; omega
  have n2 : sp + 2 ∉ [1, 49, 50, sp, sp + 1] := by simp; omega
  have n9 : sp + 9 ∉ [1, 49, 50, sp, sp + 1] := by simp; omega
  have nb : ∀ c, c < 29 ∨ 49 ≤ c → ¬ (sp ≤ c ∧ c ≤ sp + 9) := fun c hc => by omega
  have sp9 : ∀ c, sp ≤ c → 9 < c := fun c hc => by omega
  have mb68 : mb = 68 - (68 - mb) := by omega
  refine mI_mono rt fun r4 I3 ⟨s1, s2, s3, s4, s5⟩ => ?_
  have f3 : fr [1, 49, 50, sp, sp + 1] I I3 := fr_trans (fr_mono f12 (by simp)) (fr_mono s1 (by simp))
  have c3 : ∀ c, c ∉ [1, 49, 50] → ¬ (68 - mb ≤ c ∧ c ≤ 68 - mb + 9) → I3 c = I c := fun c h1 h2 => f3 c (by simp at h1; simp; omega)
  have e31 : I3 1 1 = 0 := by rw [s1 1 n1, f2 1 (by decide), v1]; rfl
  have mem3 : memO I3 := by
    obtain ⟨o1, o2, o3, o4, o5, o6⟩ := hmem
    have k : ∀ c, c ∉ [1, 49, 50, sp, sp + 1] → I3 c = I c := fun c hc => f3 c hc
    rcases psp' with e | e
    · rw [e] at s2
      exact ⟨s2, by rw [k 31 (by simp; omega)]; exact o2, by rw [k 38 (by simp; omega)]; exact o3, by rw [k 40 (by simp; omega)]; exact o4, by rw [k 41 (by simp; omega)]; exact o5, by rw [k 48 (by simp; omega)]; exact o6⟩
    · rw [e] at s2
      exact ⟨by rw [k 30 (by simp; omega)]; exact o1, by rw [k 31 (by simp; omega)]; exact o2, by rw [k 38 (by simp; omega)]; exact o3, s2, by rw [k 41 (by simp; omega)]; exact o5, by rw [k 48 (by simp; omega)]; exact o6⟩
  have W3 : wI D T nt n L K B 0 rf sh mb z I3 := wI_sp h c3 e31 mem3 s4
  have rb : 0 ≤ R.2.1 20 ∧ R.2.1 20 ≤ 4000 := by rw [eR]; exact pTabs_20 (B := B) p1 oR oP rfl rfl p4
  -- the text is refused
  refine And.symm ⟨fun r40 => ?_, fun r4n => ?_⟩
  · rcases s5 with ⟨_, x1, x2⟩ | ⟨x1, x2, x3, x4, x5, x6, x7, alt⟩
    · refine ⟨by rw [x2]; unfold cm_i; omega, kI_mk ⟨usW_refl z, Or.inl ⟨all, Or.inl ⟨x1, by rw [x2], W3⟩⟩⟩⟩
    · rcases alt with ⟨q, _⟩ | ⟨_, t, q1, q2, q3, q4⟩
      · omega
      · have op := tbk.2.2.1 (t : Int)
        refine ⟨by rw [q4]; unfold cm_i; omega, kI_mk ⟨usW_refl z, Or.inl ⟨all, Or.inr ⟨x1, Or.inl ⟨t, by omega, ?_, fun t' ht' => ?_, by rw [q4], W3⟩⟩⟩⟩⟩
        · rw [hT' x1 t q1]; exact q2
        · rw [hT' x1 t' (by omega)]; exact q3 t' ht'
  rcases s5 with ⟨q, _⟩ | ⟨x1, x2, x3, x4, x5, x6, x7, alt⟩
  · exact absurd q r4n
  have hT' := hT' x1
  have dets : ∀ t : Nat, (t : Int) < R.2.1 24 → mDet (mat (R.2.1 23) R.2.2.1 (t : Int)) ≠ 0 := by
    rcases alt with ⟨_, q⟩ | ⟨q, _⟩
    · exact q
    · exact absurd q r4n
  obtain ⟨nt', hnt'⟩ : ∃ nt' : Nat, nt' = (R.2.1 24).toNat := ⟨_, rfl⟩
  have e24 : R.2.1 24 = (nt' : Int) := by omega
  obtain ⟨D', hD'⟩ : ∃ D', D' = R.2.1 23 := ⟨_, rfl⟩
  rw [← hD'] at x2 x5 x7 dets hT' hEx
  rw [← hnt'] at hEx
  rw [e24] at x6 x7 dets hT' x3 x4
  have T'I : ∀ t, t < nt' → T' t = wmat D' (I3 (sp + 1)) (t : Int) := fun t ht => by rw [hT' t (by omega)]; exact (x7 t (by omega)).symm
  have T'd : ∀ t, t < nt' → mDet (T' t) ≠ 0 := fun t ht => by rw [hT' t (by omega)]; exact dets t (by omega)
  have o2 : okR (I3 (sp + 2)) := by rw [f3 _ n2]; exact m3.2.1
  have o9 : okR (I3 (sp + 9)) := by rw [f3 _ n9]; exact m3.2.2
  refine mI_mono (t_grow (d := d + 3) hz psp x2 x5 x6 (by omega) o2 s2 o9 T'I T'd) fun r6 I5 ⟨u1, u2, u3, u4, u5⟩ => ?_
  have f5 : ∀ c, c ∉ [1, 49, 50] → ¬ (68 - mb ≤ c ∧ c ≤ 68 - mb + 9) → I5 c = I c := fun c h1 h2 => by
    rw [u1 c (by simp [gwL]; omega)]; exact c3 c h1 h2
  have u1' : ∀ c, ¬ (sp ≤ c ∧ c ≤ sp + 9) → I5 c = I3 c := fun c hc => u1 c (by simp [gwL]; omega)
  have i51 : I5 (sp + 1) = I3 (sp + 1) := u1 _ (by simp [gwL])
  have mem5 : memO I5 := by
    obtain ⟨o1, o2, o3, o4, o5, o6⟩ := mem3
    rcases psp' with e | e
    · rw [e] at u3 u4 i51 u1'
      exact ⟨by rw [i51]; exact o1, u3, u4, by rw [u1' 40 (by omega)]; exact o4, by rw [u1' 41 (by omega)]; exact o5, by rw [u1' 48 (by omega)]; exact o6⟩
    · rw [e] at u3 u4 i51 u1'
      exact ⟨by rw [u1' 30 (by omega)]; exact o1, by rw [u1' 31 (by omega)]; exact o2, by rw [u1' 38 (by omega)]; exact o3, by rw [i51]; exact o4, u3, u4⟩
  have e51 : I5 1 1 = 0 := by rw [u1' 1 (nb 1 (by decide))]; exact e31
  have h505 : ∀ t, 0 ≤ t → t < 4 → 0 ≤ I5 50 t ∧ I5 50 t ≤ 400 := by rw [u1' 50 (nb 50 (by decide))]; exact s4
  have W5 : wI D T nt n L K B 0 rf sh mb z I5 := wI_sp h f5 e51 mem5 h505
  refine And.symm ⟨fun r60 => ?_, fun r6n => ?_⟩
  · rcases u5 with ⟨q, _⟩ | ⟨_, q⟩
    · omega
    · exact kI_mk ⟨usW_refl z, Or.inl ⟨all, Or.inr ⟨x1, Or.inr (Or.inl ⟨by rw [← hnt']; exact T'd, by rw [← hnt']; exact q, rfl, W5⟩)⟩⟩⟩
  rcases u5 with ⟨_, s, gs_, mbo⟩ | ⟨q, _⟩
  case inr => exact absurd q r6n
  intro Z7 e7 Z8 e8
  have g7 := zf_zr e7
  have g8 := zf_zr e8
  have z78 : zf [1] z Z8 := zf_trans g7.1 g8.1
  have y87 : Z8.1 1 7 = sp := by rw [e8, zr_ne (by decide)]; exact g7.2
  have y88 : Z8.1 1 8 = mb := g8.2
  have o1 : ∀ j : Nat, j ≠ 7 → j ≠ 8 → Z8.1 1 (j : Int) = z.1 1 (j : Int) := fun j j0 j1 => by
    rw [e8, zr_ne (by omega), e7, zr_ne (by omega)]
  have wz8 : wz Z8 := by
    refine wz_keep hz (fun a j ha hj hA => ?_) (z78.1 3 (by decide)) (z78.1 68 (by decide)) (z78.1 189 (by decide)) (fun a _ => by rw [z78.2]) (by rw [zN, zN, z78.2]; exact Nat.le_refl _)
    by_cases e : a = 1
    · rw [e] at hA ⊢
      refine o1 j (fun w => ?_) (fun w => ?_)
      · rw [w] at hA; exact hA (by decide)
      · rw [w] at hA; exact hA (by decide)
    · rw [z78.1 a (nin1 e)]
  have d5 : I5 sp 0 = D' := by rw [u2 0 (by decide)]; exact x5
  have dm : I5 mb 0 = D := (wI_get W5).2.2.2.2.2.2.2.2.1.2.1
  have gO1 : ∀ k, k < 97 → gO k ∉ [1] := by decide
  have T'Z : ∀ t, t < nt' → isZ D' (T' t) := fun t ht => by rw [hT' t (by omega)]; exact isZ_mat D' _ _
  have T'M : ∀ t, t < nt' → isM (T' t) := fun t ht => by rw [hT' t (by omega)]; exact isM_mat x2 _ _
  have sS5 := W5.2.2.2.2.2.1.1
  have sh' : shOk D' (shOf D') I5 := by
    unfold shOf
    rcases x2 with e | e
    · rw [e]; exact sS5.1
    · rw [e]; exact sS5.2
  have wS5 : wS z I5 := wI_S W5
  rw [d5, dm]
  -- the group begins anew
  have beg : ∀ (J : cm_I) (Z : cm_Z) (Kn : Int → Int → Int), wz Z → zf [1] z Z → Z.1 1 6 = shOf D' → Z.1 1 7 = sp → Z.1 1 8 = mb → fr [4, 5, 6, 7, 8, 9] I5 J → kpW D' Kn J → (Kn = if R.2.1 23 = D then K else fun _ _ => 0) → zcU (d + 6) m_Works_startAgain [vR 11 1] Z J fun I10 Z11 => (Z11.1 1 7 = sp ∧ kI (fun r I1 z1 => usW z z1 ∧ (((0 ≤ m ∧ m ≤ tp) ∧ tbA D T nt n L K B rf sh mb R T' r I1 z1) ∨ (¬ (0 ≤ m ∧ m ≤ tp) ∧ r = -1 ∧ wI D T nt n L K B tp rf sh mb z1 I1))) (some (vI (I10 sp 2))) (I10, Z11)) := by
    intro J Z Kn wzZ zfZ a6 a7 a8 fJ kJ eK
    have hi : ∀ c, 9 < c → J c = I5 c := fun c hc => fJ c (by simp; omega)
    have gr : ∀ k, k < 97 → gR Z k = gR z k := fun k hk => gR_zf zfZ (gO1 k hk)
    have grb : ∀ k, k < 97 → 50 < gR z k := fun k hk => by
      have := gI_fix k hk
      rcases (hg.2.1 k hk).1 with e | e <;> omega
    have hgZ : gw Z := gw_zf zfZ gO1 (by decide) hg
    have wSJ : wS Z J := by
      obtain ⟨_, b2, b3, b4, b5, b6⟩ := wS5
      refine ⟨hgZ, ?_, by rw [hi 69 (by decide)]; exact b3, ?_, fun t ht => ⟨by rw [hi _ (by omega)]; exact (b5 t ht).1, ?_⟩, fun t ht => ?_⟩
      · unfold mvO at b2 ⊢
        rw [hi 54 (by decide), hi 58 (by decide), hi 59 (by decide), hi 60 (by decide)]
        exact b2
      · have e : Z.1 63 2 = z.1 63 2 := gr 0 (by decide)
        rw [e, hi _ (by have := grb 0 (by decide); have e' : gR z 0 = z.1 63 2 := rfl; omega)]
        exact b4
      · rw [show gG Z t 0 = gG z t 0 from gr (1 + 6 * t + 0) (by omega), hi _ (by have := grb (1 + 6 * t + 0) (by omega); have e' : gR z (1 + 6 * t + 0) = gG z t 0 := rfl; omega)]
        exact (b5 t ht).2
      · rw [show gG Z t 4 = gG z t 4 from gr (1 + 6 * t + 4) (by omega), hi _ (by have := grb (1 + 6 * t + 4) (by omega); have e' : gR z (1 + 6 * t + 4) = gG z t 4 := rfl; omega)]
        exact b6 t ht
    have shb : shOf D' = 11 ∨ shOf D' = 20 := shOk_sh sh'
    have shJ : shOk D' (shOf D') J := shOk_fr sh' (hi _ (by omega)) (hi _ (by omega)) (hi _ (by omega)) (hi _ (by omega)) (hi _ (by omega))
    refine zcU_mono (t_startAgain (d := d + 1) wzZ wSJ a6 a7 shJ psp (mbOk_fr mbo (fun c c1 c2 => hi c (sp9 c c1))) T'd T'M T'Z (hEx x1 T'd)) fun I10 Z11 ⟨r1, r2, r3, r4, r5, r6⟩ => ⟨by rw [r1.1 1 (by decide)]; exact a7, kI_mk ?_⟩
    have lo : ∀ c, c < 67 → I10 c = J c := fun c hc => r2 c (by simp; omega) fun t ht => by omega
    have em : I10 sp 2 = (s.1 : Int) := r3.1.1.2.2.2.2.2.2.2.1.2.2.2.2.2.2.2.2.2.2.1
    have z51 : Z11.1 51 = z.1 51 := by rw [r1.1 51 (by decide), zfZ.1 51 (by decide)]
    have l2 : Z11.2 = z.2 := by rw [r1.2, zfZ.2]
    have gr11 : ∀ k, k < 97 → gR Z11 k = gR z k := fun k hk => by rw [gR_zf r1 (gO_sa k hk), gr k hk]
    obtain ⟨⟨q1, q2⟩, q3, q4, q5, q6, q7, q8⟩ := W5.2.2.2.2.2.1
    have big : ∀ c, 248 ≤ c → I10 c = I5 c := fun c hc => by rw [r2 c (by simp; omega) (fun t ht => by omega), hi c (by omega)]
    have lo' : ∀ c, 9 < c → c < 67 → I10 c = I5 c := fun c h1 h2 => by rw [lo c h2, hi c h1]
    have wB10 : wB B 0 (68 - mb) Z11 I10 := by
      obtain ⟨p1, p2, p3, p4, p5, p6⟩ := q6
      refine ⟨⟨shOk_fr q1 (lo' _ (by decide) (by decide)) (lo' _ (by decide) (by decide)) (lo' _ (by decide) (by decide)) (lo' _ (by decide) (by decide)) (lo' _ (by decide) (by decide)), shOk_fr q2 (lo' _ (by decide) (by decide)) (lo' _ (by decide) (by decide)) (lo' _ (by decide) (by decide)) (lo' _ (by decide) (by decide)) (lo' _ (by decide) (by decide))⟩, ?_, ?_, ?_, ⟨by rw [lo' 30 (by decide) (by decide)]; exact p1, by rw [lo' 31 (by decide) (by decide)]; exact p2, by rw [lo' 38 (by decide) (by decide)]; exact p3, by rw [lo' 40 (by decide) (by decide)]; exact p4, by rw [lo' 41 (by decide) (by decide)]; exact p5, by rw [lo' 48 (by decide) (by decide)]; exact p6⟩, ?_, by rw [lo' 50 (by decide) (by decide)]; exact q8⟩
      · unfold tpR
        rw [lo 2 (by decide), fJ 2 (by decide)]
        exact q3
      · rw [lo 1 (by decide), fJ 1 (by decide)]
        exact ⟨e51, by decide, by decide⟩
      · rw [r1.1 1 (by decide), a8]; exact mb68
      · rcases q7 with ⟨v1, v2⟩ | ⟨v1, v2, v3, v4, v5, v6⟩
        · exact Or.inl ⟨by rw [z51]; exact v1, by rw [l2]; exact v2⟩
        · refine Or.inr ?_
          rw [z51, zN, l2]
          refine ⟨v1, v2, ?_, v4, v5, fun i hi' => by rw [big _ (by omega)]; exact v6 i hi'⟩
          unfold isRws at v3 ⊢
          rw [l2, r1.1 _ (by simp; omega), zfZ.1 _ (by simp; omega)]
          exact v3
    have kp10 : kpW D' Kn I10 := fun i i0 i1 => by rw [lo (4 + i.toNat) (by omega)]; exact kJ i i0 i1
    have us : usW z Z11 := by
      have pc : potC Z11 = potC z := psN_congr fun k hk => by
        show ptC _ _ (Z11.2.1 (gR Z11 k)).toNat = ptC _ _ (z.2.1 (gR z k)).toNat
        rw [gr11 k hk, l2]
      have ps : potS Z11 = potS z := psN_congr fun k hk => by
        show ptS _ _ (Z11.2.1 (gR Z11 k)).toNat = ptS _ _ (z.2.1 (gR z k)).toNat
        rw [gr11 k hk, l2]
      have sc : smC Z11 = smC z := by unfold smC; rw [z51, l2]
      have ss : smS Z11 = smS z := by unfold smS; rw [z51, l2]
      unfold usW
      rw [pc, ps, sc, ss, zC, zS, l2]
      exact ⟨Nat.le_refl _, Nat.le_refl _⟩
    refine ⟨us, Or.inl ⟨all, Or.inr ⟨x1, Or.inr (Or.inr ⟨by rw [← hnt']; exact T'd, s, by rw [← hnt']; exact gs_, em, ?_⟩)⟩⟩⟩
    rw [← hnt', ← hD']
    rw [← hD'] at eK
    rw [← eK, ← hsp]
    rw [← hsp] at wB10
    exact ⟨r3, r4, r5, T'Z, kp10, wB10, r6⟩
  refine ⟨y87, fun same => ?_, fun diff => ?_⟩
  · refine beg I5 Z8 K wz8 z78 ?_ y87 y88 (fr_refl _ _) (fun i i0 i1 => ?_) (by rw [if_pos (by rw [← hD']; exact same)])
    · have : Z8.1 1 6 = z.1 1 6 := o1 6 (by decide) (by decide)
      rw [this, y6, same]
      unfold shOf
      have := hS.1
      rcases this with ⟨a, b⟩ | ⟨a, b⟩
      · rw [a, b]; rfl
      · rw [a, b]; rfl
    · rw [same]; exact W5.2.2.2.2.1 i i0 i1
  · -- the shape changes: nothing is kept
    have kz : ∀ (u k : Nat) (J : cm_I) (Z : cm_Z) (z1' z2' : Option cm_V), k + u = 6 → wz Z → zf [1] z Z → Z.1 1 6 = shOf D' → Z.1 1 7 = sp → Z.1 1 8 = mb → fr [4, 5, 6, 7, 8, 9] I5 J → (∀ i : Int, 0 ≤ i → i < k → ∀ j, 0 ≤ j → j < 816 → J (4 + i.toNat) j = 0) → cw (d + 6) cd_Works_tables (kI (fun r I1 z1 => usW z z1 ∧ (((0 ≤ m ∧ m ≤ tp) ∧ tbA D T nt n L K B rf sh mb R T' r I1 z1) ∨ (¬ (0 ≤ m ∧ m ≤ tp) ∧ r = -1 ∧ wI D T nt n L K B tp rf sh mb z1 I1)))) 125 [some (vR 11 1), z1', z2', some (vI (k : Int))] [] (J, Z) := by
      intro u
      induction u with
      | zero =>
        intro k J Z z1' z2' ek wzZ zfZ a6 a7 a8 fJ hz0
        obtain ⟨n0, n1⟩ := m816 x2
        refine wr_Works_tables_125 wzZ psp ⟨fun _ => beg J Z (fun _ _ => 0) wzZ zfZ a6 a7 a8 fJ (fun i i0 i1 => ⟨fun j j0 j1 => hz0 i i0 (by omega) j j0 (by omega), vOk_zero x2⟩) (by rw [if_neg (by rw [← hD']; exact diff)]), fun w => by omega⟩
      | succ u ih =>
        intro k J Z z1' z2' ek wzZ zfZ a6 a7 a8 fJ hz0
        refine wr_Works_tables_125 wzZ psp ⟨fun w => by omega, fun _ => ⟨⟨by omega, by omega⟩, ?_⟩⟩
        have lk : Z.2.1 (4 + Int.toNat (k : Int)) = 816 := kept_len wzZ (by omega) (by omega)
        refine mU_mono (t_fill (d := d + 5) wzZ (a := 4 + Int.toNat (k : Int)) (by omega) lk (by decide) (by decide)) fun J1 e1' => ⟨by unfold cm_i; omega, ?_⟩
        obtain ⟨fk, gk⟩ := fr_eq_iw e1'
        have := ih (k + 1) J1 Z z1' z2' (by omega) wzZ zfZ a6 a7 a8 (fr_trans fJ (fr_mono fk (by simp; omega))) fun i i0 i1 j j0 j1 => ?_
        · exact this
        · by_cases e : i = (k : Int)
          · rw [e, gk]
            unfold fillF
            exact if_pos ⟨j0, by omega⟩
          · rw [fk _ (by simp; omega)]
            exact hz0 i i0 (by omega) j j0 j1
    have put6 : ∀ (v : Nat) (Z14 : cm_Z), Z14 = zr Z8 1 6 v → wz Z14 ∧ zf [1] z Z14 ∧ Z14.1 1 6 = v ∧ Z14.1 1 7 = sp ∧ Z14.1 1 8 = mb := by
      intro v Z14 e14
      have g14 := zf_zr e14
      refine ⟨?_, zf_trans z78 g14.1, g14.2, by rw [e14, zr_ne (by decide)]; exact y87, by rw [e14, zr_ne (by decide)]; exact y88⟩
      refine wz_keep wz8 (fun a j ha hj hA => ?_) (g14.1.1 3 (by decide)) (g14.1.1 68 (by decide)) (g14.1.1 189 (by decide)) (fun a _ => by rw [g14.1.2]) (by rw [zN, zN, g14.1.2]; exact Nat.le_refl _)
      by_cases e : a = 1
      · rw [e] at hA ⊢
        rw [e14, zr_ne (fun w => by
          have : j = 6 := by omega
          rw [this] at hA; exact hA (by decide))]
      · rw [g14.1.1 a (nin1 e)]
    refine ⟨fun n3 => ⟨wz8, fun Z14 e14 => ?_⟩, fun y3 => ⟨wz8, fun Z16 e16 => ?_⟩⟩
    · obtain ⟨b1, b2, b3, b4, b5⟩ := put6 11 Z14 e14
      refine kz 6 0 I5 Z14 _ _ (by omega) b1 b2 ?_ b4 b5 (fr_refl _ _) fun i i0 i1 => by omega
      rw [b3]
      unfold shOf
      rw [if_neg n3]
    · obtain ⟨b1, b2, b3, b4, b5⟩ := put6 20 Z16 e16
      refine kz 6 0 I5 Z16 _ _ (by omega) b1 b2 ?_ b4 b5 (fr_refl _ _) fun i i0 i1 => by omega
      rw [b3]
      unfold shOf
      rw [if_pos y3]
end WC9
