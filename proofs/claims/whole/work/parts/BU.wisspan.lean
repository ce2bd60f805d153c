/-! PrimarySearch.isSpanning = isAll -/
section WIS
variable {d : Nat} {z : cm_Z} {I : cm_I} {D : Int} {sh : Nat}
theorem t_isSpanning (hz : wz z) (hg : gw z) (hS : shOk D sh I) (y : z.1 185 2 = sh) (okq : okR (I (z.1 63 2))) {P : Nat → Int → Int} {dg : Nat → Int} (hP : ∀ i : Nat, (i : Int) < D → pcO D z I i (P i) (dg i)) (hs : sDg D dg ≤ 16 ∨ (D = 2 ∧ sDg D dg ≤ 17)) (hd : ∀ i : Nat, (i : Int) < D → 0 ≤ sDg D dg - dg i ∧ sDg D dg - dg i ≤ 15) : zcI (d + 4) m_Search_isSpanning [vR 6 185] z I (spP D P dg z I) := by
  have hD := shOk_D hS
  have hsh := shOk_sh hS
  have hs' : sh = 11 ∨ sh = 20 := hsh
  have w6 : 248 ≤ zN z := hz.2.2.2.2.2
  have e0 : I sh 0 = D := hS.2.1
  obtain ⟨A, hA⟩ : ∃ A : Nat, (A : Int) = D := ⟨D.toNat, by omega⟩
  have AD : D.toNat = A := by omega
  obtain ⟨s, es⟩ : ∃ s, s = sDg D dg := ⟨_, rfl⟩
  rw [← es] at hs hd
  have dgb : ∀ i : Nat, (i : Int) < D → 1 ≤ dg i ∧ dg i ≤ 15 ∧ I (192 + 2 * i) 2 = dg i := fun i hi => by
    obtain ⟨_, _, _, _, _, _, _, _, p7, p8, p9, _⟩ := hP i hi
    exact ⟨p8, p9, p7⟩
  have s0 : 0 ≤ s := by have := dgb 0 (by omega); have := hd 0 (by omega); omega
  have fb16 := from_bds16 hD (t := s) s0 hs
  obtain ⟨N, hN⟩ : ∃ N, N = (mMany D s).toNat := ⟨_, rfl⟩
  have NI : fF D (s + 1) = (N : Int) := by rw [fF_many]; omega
  have F := hS.2.2.2.1
  have tot : ∀ (B : Nat), B ≤ A → psN (fun i => (mMany D (s - dg i)).toNat) B ≤ 153 * B := by
    intro B
    induction B with
    | zero => intro _; exact Nat.le_refl _
    | succ B ih =>
      intro h
      have := ih (by omega)
      have hb := hd B (by omega)
      have fb := from_bds16 hD (t := s - dg B) hb.1 (by omega)
      show psN _ B + (mMany D (s - dg B)).toNat ≤ _
      omega
  -- the echelon begins
  have begin_ : ∀ (x : Int) (z5 z6 : Option cm_V), ((x = 0 ∧ N ≤ 153) ∨ (x = 1 ∧ N ≤ 18)) → zcU (d + 3) m_Echelon_begin [vR 1 63, vI (N : Int), vI x] z I fun I1 Z2 => cw (d + 3) cd_Search_isSpanning (kI (spP D P dg z I)) 137 [some (vR 6 185), some (vI s), some (vI (N : Int)), some (vI ((psN (fun i => (mMany D (s - dg i)).toNat) A : Nat) : Int)), some (vI 0), z5, z6] [] (I1, Z2) := by
    intro x z5 z6 hx
    refine zcU_mono (t_ecBegin (d := d + 1) hz hg hx okq) fun I1 Z2 ⟨b1, b2, b3, b4, b5, b6, b7, b8, b9, b10⟩ => ?_
    have z185 : Z2.1 185 = z.1 185 := b3.1 185 (by omega) (by decide)
    have hS1 : shOk D sh I1 := shOk_fr hS (b8 _ (by omega) (by simp; omega)) (b8 _ (by omega) (by simp; omega)) (b8 _ (by omega) (by simp; omega)) (b8 _ (by omega) (by simp; omega)) (b8 _ (by omega) (by simp; omega))
    have NN : zN z ≤ zN Z2 := b3.2.2
    have hP1 : ∀ i : Nat, (i : Int) < D → pcO D Z2 I1 i (P i) (dg i) := by
      intro i hi
      obtain ⟨q, at_, p1, p2, p3, p4, p5, p6, p7, p8, p9, p10, p11, p12, p13⟩ := hP i hi
      have ip : I1 (192 + 2 * i) = I (192 + 2 * i) := b8 _ (by omega) (by simp; omega)
      have iq : I1 q = I q := b8 q p3 (nin_sub p4 (by simp))
      refine ⟨q, at_, by rw [b3.1 _ (by omega) (by simp; omega)]; exact p1, p2, by omega, p4, ?_, by rw [ip]; exact p6, by rw [ip]; exact p7, p8, p9, p10, p11, by rw [b3.2.1 q p3]; exact p12, by rw [iq]; exact p13⟩
      rcases b10 with e | e
      · rw [e]; exact p5
      · omega
    refine t_sploop (d := d) b1 b2 hS1 (by rw [z185]; exact y) hP1 es hs hA hN hd rfl b7 b9 fun r I2 k1 k2 k3 k4 => kI_mk ⟨b1, b2, b3, b4, b5, b6, k1, fun c hc h1 h2 => ?_, k3, k4, b10⟩
    rw [k2 c h1 (by rcases b10 with e | e; rw [e]; exact h2; omega)]
    exact b8 c hc (nin_sub h1 (by simp))
  -- how many are to come
  have L67 : ∀ (u i : Nat) (z5 z6 : Option cm_V), i + u = A → cw (d + 3) cd_Search_isSpanning (kI (spP D P dg z I)) 67 [some (vR 6 185), some (vI s), some (vI (N : Int)), some (vI ((psN (fun i => (mMany D (s - dg i)).toNat) i : Nat) : Int)), some (vI (i : Int)), z5, z6] [] (I, z) := by
    intro u
    induction u with
    | zero =>
      intro i z5 z6 ei
      have iA : i = A := by omega
      refine wr_Search_isSpanning_67 hz y hsh ?_
      rw [e0, iA]
      refine ⟨fun _ => ⟨fun n2 => begin_ 0 _ _ (Or.inl ⟨rfl, by omega⟩), fun y2 => begin_ 1 _ _ (Or.inr ⟨rfl, ?_⟩)⟩, fun w => by omega⟩
      have : mMany D s = s + 1 := by rw [y2]; unfold mMany; rw [if_pos rfl]
      omega
    | succ u ih =>
      intro i z5 z6 ei
      have iD : (i : Int) < D := by omega
      have ti : Int.toNat (i : Int) = i := by omega
      obtain ⟨d1, d2, d3⟩ := dgb i iD
      obtain ⟨c1, c2⟩ := hd i iD
      have mb := from_bds16 hD (t := s - dg i) c1 (by omega)
      have ts := tot i (by omega)
      have more : fF D (s - dg i + 1) = ((mMany D (s - dg i)).toNat : Int) := by rw [fF_many]; omega
      refine wr_Search_isSpanning_67 hz y hsh ?_
      rw [e0, ti, d3, F (s - dg i + 1) (by omega) (by omega), more]
      refine ⟨fun w => by omega, fun _ => ⟨⟨by omega, by omega⟩, by unfold cm_i; omega, by unfold cm_i; omega, ⟨by omega, by omega⟩, by unfold cm_i; omega, by unfold cm_i; omega, ?_⟩⟩
      have := ih (i + 1) z5 z6 (by omega)
      have e : ((psN (fun i => (mMany D (s - dg i)).toNat) i : Nat) : Int) + ((mMany D (s - dg i)).toNat : Int) = ((psN (fun i => (mMany D (s - dg i)).toNat) (i + 1) : Nat) : Int) := by
        show _ = ((psN (fun i => (mMany D (s - dg i)).toNat) i + (mMany D (s - dg i)).toNat : Nat) : Int)
        omega
      rw [e]
      exact this
  have L12 : ∀ (u i : Nat) (z3 z4 z5 z6 : Option cm_V), i + u = A → cw (d + 3) cd_Search_isSpanning (kI (spP D P dg z I)) 12 [some (vR 6 185), some (vI (1 - D + sg i dg)), some (vI (i : Int)), z3, z4, z5, z6] [] (I, z) := by
    intro u
    induction u with
    | zero =>
      intro i z3 z4 z5 z6 ei
      have iA : i = A := by omega
      have ss : 1 - D + sg i dg = s := by rw [es, iA, ← AD]; rfl
      rw [ss]
      refine wr_Search_isSpanning_12 hz y hsh ?_
      rw [e0]
      refine ⟨fun _ => mI_mono (t_isCornerMissing (d := d + 2) hz hS y hP) fun r I1 ⟨h1, h2⟩ => ?_, fun w => by omega⟩
      rw [h1, F (s + 1) (by omega) (by omega), NI]
      refine ⟨fun _ => ⟨by unfold cm_i; omega, ⟨by omega, by omega⟩, L67 A 0 z5 z6 (by omega)⟩, fun ne => kI_mk ⟨hz, hg, zg_refl _ _, fun _ _ => rfl, fun _ _ _ => rfl, us_refl z, okq, fun _ _ _ _ => rfl, Or.inl rfl, ⟨fun w => absurd w (by decide), fun al => ?_⟩, Or.inl rfl⟩⟩
      rcases h2 with h2 | ⟨_, v, v0, v1, hv⟩
      · exact absurd h2 ne
      · exact absurd al (cnr_not hD (fun i hi => ⟨(dgb i hi).1, (dgb i hi).2.1, by rw [← es]; exact hd i hi⟩) (by omega) v0 v1 hv)
    | succ u ih =>
      intro i z3 z4 z5 z6 ei
      have iD : (i : Int) < D := by omega
      have ti : Int.toNat (i : Int) = i := by omega
      obtain ⟨d1, d2, d3⟩ := dgb i iD
      have sb : 0 ≤ sg i dg ∧ sg i dg ≤ i * 15 := ⟨sg_nonneg fun j hj => by have := dgb j (by omega); omega, sg_le fun j hj => by have := dgb j (by omega); omega⟩
      refine wr_Search_isSpanning_12 hz y hsh ?_
      rw [e0, ti, d3]
      refine ⟨fun w => by omega, fun _ => ⟨⟨by omega, by omega⟩, by unfold cm_i; omega, by unfold cm_i; omega, ?_⟩⟩
      have := ih (i + 1) z3 z4 z5 z6 (by omega)
      have e : 1 - D + sg i dg + dg i = 1 - D + sg (i + 1) dg := by
        show _ = 1 - D + (sg i dg + dg i)
        omega
      rw [e]
      exact this
  refine wr_Search_isSpanning hz y hsh ?_
  rw [e0]
  refine ⟨by unfold cm_i; omega, ?_⟩
  have := L12 A 0 none none none none (by omega)
  rw [show 1 - D + sg 0 dg = 1 - D by show 1 - D + 0 = 1 - D; omega] at this
  exact this
end WIS
