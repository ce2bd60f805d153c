/-! the search goes on: one is chosen, three (two) are asked -/
section WSG
variable {d : Nat} {z z1 z2 : cm_Z} {I I1 I2 : cm_I} {D : Int} {sh mb : Nat} {T : Nat → cMat} {nt n : Nat} {L : Nat → cMat}
def srG (D : Int) (sh mb : Nat) (T : Nat → cMat) (nt n : Nat) (L : Nat → cMat) (z : cm_Z) (J : cm_I) : Prop := bsE D sh mb T nt n L z J ∧ z.1 185 2 = sh ∧ J 185 7 = (cndN D T nt : Int) ∧ cndN D T nt ≤ 83 ∧ (∀ e, e < cndN D T nt → J 186 (e : Int) = (cnd D T nt e).1 ∧ J 187 (e : Int) = ((cnd D T nt e).2 : Int)) ∧ ∀ t, 1 ≤ t → t ≤ 6 → J (73 + 7 * t) 1 = 1
def sM : List Nat := [63, 65, 185, 188, 190, 191, 192, 194, 196]
def srF (z0 : cm_Z) (I0 : cm_I) (z : cm_Z) (J : cm_I) : Prop := zg [63, 192, 194, 196] z0 z ∧ (∀ i, i ≠ 2 → z.1 63 i = z0.1 63 i) ∧ (∀ k', k' < 97 → k' ≠ 0 → gR z k' = gR z0 k') ∧ us z0 z ∧ (z.1 63 2 = z0.1 63 2 ∨ zN z0 ≤ z.1 63 2) ∧ (∀ c, c < zN z0 → c ∉ sM → c ≠ z0.1 63 2 → J c = I0 c) ∧ ∀ j, j ≠ 6 → J 185 j = I0 185 j
theorem srF_refl (z : cm_Z) (I : cm_I) : srF z I z I := ⟨zg_refl _ _, fun _ _ => rfl, fun _ _ _ => rfl, us_refl z, Or.inl rfl, fun _ _ _ _ => rfl, fun _ _ => rfl⟩
theorem srF_trans (h : srF z I z1 I1) (h' : srF z1 I1 z2 I2) : srF z I z2 I2 := by
  obtain ⟨a1, a2, a3, a4, a5, a6, a7⟩ := h
  obtain ⟨b1, b2, b3, b4, b5, b6, b7⟩ := h'
  have NN := a1.2.2
  refine ⟨zg_trans a1 b1, fun i hi => (b2 i hi).trans (a2 i hi), fun k hk h0 => (b3 k hk h0).trans (a3 k hk h0), us_trans a4 b4, ?_, fun c hc hn hq => ?_, fun j hj => (b7 j hj).trans (a7 j hj)⟩
  · rcases b5 with b5 | b5
    · rw [b5]; exact a5
    · exact Or.inr (by omega)
  · rw [b6 c (by omega) hn (by rcases a5 with a5 | a5; rw [a5]; exact hq; omega), a6 c hc hn hq]
theorem gO_19 : ∀ k, k < 97 → gO k ∉ [192, 194, 196] := by decide
/-- a step that leaves the candidates and the bases as they are -/
theorem srG_fr (h : srG D sh mb T nt n L z I) (hz1 : wz z1) (hg1 : gw z1) (ok1 : okR (I1 (z1.1 63 2))) (hf : srF z I z1 I1) : srG D sh mb T nt n L z1 I1 := by
  obtain ⟨a1, a2, a3, a4, a5, a6, a7⟩ := hf
  obtain ⟨b1, b2, b3, b4, b5, b6⟩ := h
  have hg := b1.2.1
  have w6 : 248 ≤ zN z := b1.1.1.2.2.2.2.2
  have fx : ∀ c, c < 248 → c ≠ 64 → c ∉ sM → I1 c = I c := fun c hc h4 hn => a6 c (by omega) hn (gw_64 hg hc h4)
  refine ⟨bsE_fr b1 hz1 hg1 a1 (by decide) (by decide) (by decide) a3 ok1 fun c hc hn hq => a6 c hc (nin_sub hn (by simp [sM, sL])) hq, by rw [a1.1 185 (by omega) (by decide)]; exact b2, by rw [a7 7 (by decide)]; exact b3, b4, by rw [fx 186 (by decide) (by decide) (by decide), fx 187 (by decide) (by decide) (by decide)]; exact b5, fun t h1 h6 => ?_⟩
  rw [fx _ (by omega) (by omega) (by simp [sM]; omega)]
  exact b6 t h1 h6
theorem pcC_fr {w e : Nat} (he : e < cndN D T nt) (h : pcC D T nt z I w e) (e0 : z1.1 (192 + 2 * w) 0 = z.1 (192 + 2 * w) 0) (hgr : ∀ k', k' < 97 → k' ≠ 0 → gR z1 k' = gR z k') (e1 : I1 (192 + 2 * w) = I (192 + 2 * w)) (e2 : I1 190 (w : Int) = I 190 (w : Int)) (e3 : I1 191 (w : Int) = I 191 (w : Int)) : pcC D T nt z1 I1 w e := by
  obtain ⟨p1, p2, p3, p4, p5⟩ := h
  obtain ⟨c1, c2, c3⟩ := cnd_bd he
  have eg : gG z1 (cnd D T nt e).1.toNat 0 = gG z (cnd D T nt e).1.toNat 0 := hgr _ (by omega) (by omega)
  exact ⟨by rw [e0, eg]; exact p1, by rw [e1]; exact p2, by rw [e1]; exact p3, by rw [e2]; exact p4, by rw [e3]; exact p5⟩
theorem sr_choose (h : srG D sh mb T nt n L z I) {w e : Nat} (w3 : w < 3) (he : e < cndN D T nt) : zcU (d + 2) m_Search_choose [vR 6 185, vI (w : Int), vI (e : Int)] z I fun I1 z1 => srG D sh mb T nt n L z1 I1 ∧ srF z I z1 I1 ∧ pcC D T nt z1 I1 w e ∧ (∀ w' e', w' ≠ w → w' < 3 → e' < cndN D T nt → pcC D T nt z I w' e' → pcC D T nt z1 I1 w' e') ∧ I1 185 = I 185 := by
  obtain ⟨b1, b2, b3, b4, b5, b6⟩ := id h
  obtain ⟨c1, c2, c3⟩ := cnd_bd he
  obtain ⟨r1, r2, r3⟩ := cnd_room b1 b6 he
  have hz := b1.1.1
  have hg := b1.2.1
  have w6 : 248 ≤ zN z := hz.2.2.2.2.2
  have hD := shOk_D b1.1.2.1
  obtain ⟨v1, v2⟩ := b5 e he
  obtain ⟨g, hgg⟩ : ∃ g : Nat, (g : Int) = (cnd D T nt e).1 := ⟨(cnd D T nt e).1.toNat, by omega⟩
  have mN := mMany_136 hD (t := g) (by omega)
  have gd := gd_get b1 (t := g) (by omega) (b6 g (by omega) (by omega))
  have hw : ∀ x, x ∈ [192 + 2 * w] → x ∈ [192, 194, 196] := by
    intro x m
    rw [List.mem_singleton] at m
    rw [m]
    have : w = 0 ∨ w = 1 ∨ w = 2 := by omega
    rcases this with w | w | w <;> (rw [w]; decide)
  have hNI : ((mMany D g).toNat : Int) = mMany D g := by omega
  have nb : ((mMany D g).toNat : Int) * ((cnd D T nt e).2 : Int) ≤ 1000000 := by
    have mN' := mN
    rw [hgg] at mN'
    rw [hNI, hgg]; omega
  refine zcU_mono (t_choose (d := d) hz (w := w) (e := e) (g := g) (ρ := (cnd D T nt e).2) (N := (mMany D g).toNat) w3 (by omega) (by omega) (by rw [v1, hgg]) v2 (by rw [gd.2.1, hNI]) gd.1 nb) fun I1 z1 ⟨p1, p2, p3, p4, p5, p6, p7⟩ => ?_
  have p1' : zf [192, 194, 196] z z1 := zf_mono p1 hw
  have hz1 : wz z1 := wz_zf hz p1' (by decide)
  have hg1 : gw z1 := gw_zf p1' gO_19 (by decide) hg
  have r : ∀ k, k < 97 → gR z1 k = gR z k := fun k hk => gR_zf p1' (gO_19 k hk)
  have e63 : z1.1 63 = z.1 63 := p1'.1 63 (by decide)
  have nq : z.1 63 2 ∉ sL := gw_sL hg (k := 0) (by decide)
  have oth : ∀ c, c ∉ sM → I1 c = I c := fun c hc => p2 c fun m => hc (by
    simp at m
    rcases m with m | m | m
    · rw [m]; decide
    · rw [m]; decide
    · have : w = 0 ∨ w = 1 ∨ w = 2 := by omega
      rw [m]
      rcases this with w | w | w <;> (rw [w]; decide))
  have i85 : I1 185 = I 185 := p2 185 (by simp; omega)
  have F : srF z I z1 I1 := ⟨zg_mono (zg_zf p1') (by simp), fun i _ => by rw [e63], fun k hk _ => r k hk, us_zf p1' gO_19, Or.inl (by rw [e63]), fun c _ hn _ => oth c hn, fun j _ => by rw [i85]⟩
  refine ⟨srG_fr h hz1 hg1 ?_ F, F, ⟨?_, ?_, ?_, ?_, ?_⟩, fun w' e' ne w3' he' hp => pcC_fr he' hp ?_ (fun k hk _ => r k hk) ?_ ?_ ?_, i85⟩
  · rw [e63, oth _ (nin_sub nq (by simp [sM, sL]))]
    exact b1.2.2.2.2.2.2.1
  · rw [p5, ← hgg, Int.toNat_natCast]
    exact (r _ (by omega)).symm
  · rw [p6, hNI, hgg]
  · rw [p7, hgg]
  · rw [p3]
    show (if (w : Int) = (w : Int) then (g : Int) else _) = _
    rw [if_pos rfl, hgg]
  · rw [p4]
    show (if (w : Int) = (w : Int) then _ else _) = _
    rw [if_pos rfl]
  · rw [p1.1 _ (by simp; omega)]
  · exact p2 _ (by simp; omega)
  · rw [p3]
    show (if (w' : Int) = (w : Int) then (g : Int) else _) = _
    rw [if_neg (by omega)]
  · rw [p4]
    show (if (w' : Int) = (w : Int) then _ else _) = _
    rw [if_neg (by omega)]
theorem sr_span (h : srG D sh mb T nt n L z I) {q : Nat → Nat} (hq : ∀ v : Nat, (v : Int) < D → q v < cndN D T nt ∧ pcC D T nt z I v (q v)) : zcI (d + 4) m_Search_isSpanning [vR 6 185] z I fun r I1 z1 => srG D sh mb T nt n L z1 I1 ∧ srF z I z1 I1 ∧ (∀ w' e', w' < 3 → e' < cndN D T nt → pcC D T nt z I w' e' → pcC D T nt z1 I1 w' e') ∧ I1 185 = I 185 ∧ (r = 0 ∨ r = 1) ∧ (r = 1 ↔ isAll D (fun v => cndP D T nt (q v)) fun v => (cnd D T nt (q v)).1) := by
  obtain ⟨b1, b2, b3, b4, b5, b6⟩ := id h
  have hz := b1.1.1
  have hg := b1.2.1
  have w6 : 248 ≤ zN z := hz.2.2.2.2.2
  have hS := b1.1.2.1
  have hD := shOk_D hS
  have dg : ∀ v : Nat, (v : Int) < D → 1 ≤ (cnd D T nt (q v)).1 ∧ (cnd D T nt (q v)).1 ≤ 6 := fun v hv => by
    obtain ⟨c1, c2, c3⟩ := cnd_bd (hq v hv).1
    exact ⟨c1, c2⟩
  have sB : sDg D (fun v => (cnd D T nt (q v)).1) ≤ 16 ∧ ∀ i : Nat, (i : Int) < D → 0 ≤ sDg D (fun v => (cnd D T nt (q v)).1) - (cnd D T nt (q i)).1 ∧ sDg D (fun v => (cnd D T nt (q v)).1) - (cnd D T nt (q i)).1 ≤ 15 := by
    unfold sDg
    have p0 := dg 0 (by omega)
    have p1 := dg 1 (by omega)
    rcases hD with e | e
    · rw [e] at p0 p1 ⊢
      have es : sg (Int.toNat 2) (fun v => (cnd 2 T nt (q v)).1) = 0 + (cnd 2 T nt (q 0)).1 + (cnd 2 T nt (q 1)).1 := rfl
      rw [es]
      refine ⟨by omega, fun i hi => ?_⟩
      have : i = 0 ∨ i = 1 := by omega
      rcases this with w | w <;> (rw [w]; omega)
    · have p2 := dg 2 (by omega)
      rw [e] at p0 p1 p2 ⊢
      have es : sg (Int.toNat 3) (fun v => (cnd 3 T nt (q v)).1) = 0 + (cnd 3 T nt (q 0)).1 + (cnd 3 T nt (q 1)).1 + (cnd 3 T nt (q 2)).1 := rfl
      rw [es]
      refine ⟨by omega, fun i hi => ?_⟩
      have : i = 0 ∨ i = 1 ∨ i = 2 := by omega
      rcases this with w | w | w <;> (rw [w]; omega)
  refine zcI_mono (t_isSpanning (d := d) hz hg hS b2 b1.2.2.2.2.2.2.1 (P := fun v => cndP D T nt (q v)) (dg := fun v => (cnd D T nt (q v)).1) (fun i hi => pcO_of b1 b6 (hq i hi).1 (hq i hi).2) (Or.inl sB.1) sB.2) fun r I1 z1 ⟨k1, k2, k3, k4, k5, k6, k7, k8, k9, k10, k11⟩ => ?_
  have i85 : I1 185 = I 185 := k8 185 (by omega) (by decide) (gw_64 hg (by decide) (by decide))
  have F : srF z I z1 I1 := ⟨zg_mono k3 (by simp), k4, k5, k6, k11, fun c hc hn hq' => k8 c hc (nin_sub hn (by simp [sM])) hq', fun j _ => by rw [i85]⟩
  have fx : ∀ c, c < 248 → 189 < c → I1 c = I c := fun c h1 h2 => k8 c (by omega) (by simp; omega) (gw_64 hg h1 (by omega))
  refine ⟨srG_fr h k1 k2 k7 F, F, fun w' e' w3 he' hp => pcC_fr he' hp (by rw [k3.1 _ (by omega) (by simp; omega)]) k5 (fx _ (by omega) (by omega)) (by rw [fx 190 (by decide) (by decide)]) (by rw [fx 191 (by decide) (by decide)]), i85, k9, k10⟩
end WSG
