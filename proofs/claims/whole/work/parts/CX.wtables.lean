/-! the class begins again; the call tables of the class -/
section WC8
variable {d : Nat} {z z1 : cm_Z} {I I1 : cm_I} {D : Int} {sh mb : Nat} {T : Nat → cMat} {nt n : Nat} {L : Nat → cMat} {K K' : Int → Int → Int} {B B' : Int → Int} {tp tp' : Int} {rf : Option (Int → Int)}
theorem bsE_fr4 (h : bsE D sh mb T nt n L z I) (hS : shOk D sh I1) (hM : ∀ c, mb ≤ c → c ≤ mb + 8 → I1 c = I c) (hf : ∀ c, 50 < c → I1 c = I c) : bsE D sh mb T nt n L z I1 := by
  obtain ⟨⟨a1, a2, a3, a4, a5, a6, a7, a8, a9, a10, a11⟩, h2, h3, h4, h5, h6, h7, h8, h9⟩ := h
  have gr : ∀ k, k < 97 → 50 < gR z k := fun k hk => by
    have := gI_fix k hk
    rcases (h2.2.1 k hk).1 with e | e <;> omega
  have O1 : mvO I1 := by
    unfold mvO at a11 ⊢
    rw [hf 54 (by decide), hf 58 (by decide), hf 59 (by decide), hf 60 (by decide)]
    exact a11
  have q0 : I1 (z.1 63 2) = I (z.1 63 2) := hf _ (gr 0 (by decide))
  refine ⟨⟨a1, hS, a3, a4, a5, a6, a7, mbOk_fr a8 hM, a9, a10, O1⟩, h2, h3, h4, h5, by rw [hf 69 (by decide)]; exact h6, by rw [q0]; exact h7, by rw [hf 67 (by decide)]; exact h8, fun t t15 => ?_⟩
  exact bsG_fr (h9 t t15) rfl rfl rfl rfl (hf _ (gr (1 + 6 * t + 0) (by omega))) (hf _ (gr (1 + 6 * t + 1) (by omega))) fun j _ _ => by rw [hf _ (by omega)]
/-- tables were read into the spare members -/
theorem wI_sp (h : wI D T nt n L K B tp rf sh mb z I) (hf : ∀ c, c ∉ [1, 49, 50] → ¬ (68 - mb ≤ c ∧ c ≤ 68 - mb + 9) → I1 c = I c) (e1 : I1 1 1 = 0) (hm : memO I1) (h50 : ∀ t, 0 ≤ t → t < 4 → 0 ≤ I1 50 t ∧ I1 50 t ≤ 400) : wI D T nt n L K B 0 rf sh mb z I1 := by
  obtain ⟨⟨hB, y2, e3, alt⟩, y, hT, hZ, hK, hw0, hR⟩ := h
  have hg := hB.2.1
  have pm : mb = 29 ∨ mb = 39 := hB.1.2.2.2.2.2.2.1
  have hi : ∀ c, 50 < c → I1 c = I c := fun c hc => hf c (by simp; omega) (by omega)
  have lo : ∀ c, 1 < c → c < 29 → I1 c = I c := fun c h1 h2 => hf c (by simp; omega) (by omega)
  have gr : ∀ k, k < 97 → 50 < gR z k := fun k hk => by
    have := gI_fix k hk
    rcases (hg.2.1 k hk).1 with e | e <;> omega
  have row : ∀ t j, t < 16 → j < 6 → gG z t j = gG z t j ∧ z.2.1 (gG z t j) = z.2.1 (gG z t j) ∧ I1 (gG z t j) = I (gG z t j) := fun t j ht hj => ⟨rfl, rfl, hi _ (gr (1 + 6 * t + j) (by omega))⟩
  have ob : ∀ t, t < 16 → I1 (73 + 7 * t) = I (73 + 7 * t) := fun t ht => hi _ (by omega)
  have hs := hB.1.2.1
  have hsh : sh = 11 ∨ sh = 20 := shOk_sh hs
  have S1 : shOk D sh I1 := shOk_fr hs (lo _ (by omega) (by omega)) (lo _ (by omega) (by omega)) (lo _ (by omega) (by omega)) (lo _ (by omega) (by omega)) (lo _ (by omega) (by omega))
  have E1 : bsE D sh mb T nt n L z I1 := bsE_fr4 hB S1 (fun c h1 h2 => hf c (by simp; omega) (by omega)) hi
  obtain ⟨⟨s1, s2⟩, h3, h4, h5, _, h7, h8⟩ := hw0
  refine ⟨⟨E1, y2, by rw [hi 185 (by decide)]; exact e3, ?_⟩, y, fun t ht => by rw [(row t 4 ht (by decide)).2.2]; exact hT t ht, hZ, fun i i0 i1 => by rw [lo (4 + i.toNat) (by omega) (by omega)]; exact hK i i0 i1, ⟨⟨shOk_fr s1 (lo _ (by decide) (by decide)) (lo _ (by decide) (by decide)) (lo _ (by decide) (by decide)) (lo _ (by decide) (by decide)) (lo _ (by decide) (by decide)), shOk_fr s2 (lo _ (by decide) (by decide)) (lo _ (by decide) (by decide)) (lo _ (by decide) (by decide)) (lo _ (by decide) (by decide)) (lo _ (by decide) (by decide))⟩, by unfold tpR; rw [lo 2 (by decide) (by decide)]; exact h3, ⟨e1, by decide, by decide⟩, h5, hm, ?_, h50⟩, rwZ_fr hR E1 rfl (fun x hx => hi x (by simp at hx; omega)) row ob⟩
  · unfold pmK at alt ⊢
    rw [hi 185 (by decide), hi 190 (by decide), hi 191 (by decide)]
    rcases alt with w | ⟨w1, w2⟩
    · exact Or.inl w
    · refine Or.inr ⟨w1, ?_⟩
      rcases w2 with w2 | ⟨q, q1, q2, q3, q4, q5⟩
      · exact Or.inl w2
      · exact Or.inr ⟨q, q1, q2, q3, q4, fun t h1 h2 => by rw [ob t (by omega)]; exact q5 t h1 h2⟩
  · rcases h7 with v | ⟨v1, v2, v3, v4, v5, v6⟩
    · exact Or.inl v
    · exact Or.inr ⟨v1, v2, v3, v4, v5, fun i hi' => by rw [hi _ (by omega)]; exact v6 i hi'⟩
/-- what does not rest on the group, of the bases -/
def wS (z : cm_Z) (J : cm_I) : Prop := gw z ∧ mvO J ∧ (∀ p : Int, 0 ≤ p → p < 136 → J 69 p = 0) ∧ okR (J (z.1 63 2)) ∧ (∀ t, t < 16 → J (73 + 7 * t) 0 = (t : Int) ∧ okR (J (gG z t 0))) ∧ oT z J
theorem wI_S (h : wI D T nt n L K B tp rf sh mb z I) : wS z I := by
  obtain ⟨⟨hB, _⟩, _, hT, _⟩ := h
  exact ⟨hB.2.1, hB.1.2.2.2.2.2.2.2.2.2.2, hB.2.2.2.2.2.1, hB.2.2.2.2.2.2.1, fun t ht => ⟨(hB.2.2.2.2.2.2.2.2 t ht).1, (hB.2.2.2.2.2.2.2.2 t ht).2.1⟩, hT⟩
theorem gO_sa : ∀ k, k < 97 → gO k ∉ [53, 66, 185, 198] := by decide
theorem zr_other {z : cm_Z} {a b : Nat} {i : Int} {v : Nat} (h : b ≠ a) : (zr z a i v).1 b = z.1 b := by
  have := (zf_zr (z := z) (z1 := zr z a i v) rfl).1.1 b
  exact this (nin1 h)
theorem t_startAgain (hz : wz z) (hW : wS z I) (y6 : z.1 1 6 = sh) (y7 : z.1 1 7 = mb) (hS : shOk D sh I) (pm : isMb mb) (hM : mbOk D T nt n L mb I) (hI : ∀ t, t < nt → mDet (T t) ≠ 0) (hTM : ∀ t, t < nt → isM (T t)) (hZ : ∀ t, t < nt → isZ D (T t)) (hEx : ∀ t : Nat, t ≤ 15 → ∃ R X, isBs D T nt t R X) : zcU (d + 5) m_Works_startAgain [vR 11 1] z I fun I1 z1 => zf [53, 66, 185, 198] z z1 ∧ (∀ c, c ∉ [67, 185, 198] → (∀ t, t < 16 → c ≠ 73 + 7 * t) → I1 c = I c) ∧ seE D sh mb T nt n L z1 I1 ∧ z1.1 198 2 = sh ∧ oT z1 I1 ∧ rwZ D sh mb T nt n L none z1 I1 := by
  obtain ⟨hg, hO, h69, h63, hgr, hT⟩ := hW
  have w6 : 248 ≤ zN z := hz.2.2.2.2.2
  have hD := shOk_D hS
  have hs : sh = 11 ∨ sh = 20 := shOk_sh hS
  have hm : mb = 29 ∨ mb = 39 := pm
  have hTD : ∀ g, g < nt → isD D (T g) := fun g hg' => isZ_D (hZ g hg')
  obtain ⟨R, hR⟩ : ∃ R : Nat → Nat, ∀ t : Nat, t ≤ 15 → ∃ X, isBs D T nt t (R t) X := by
    refine ⟨fun t => bsRows D T nt t, fun t ht => ?_⟩
    obtain ⟨r, X, h⟩ := hEx t ht
    exact ⟨_, (bsX_ok h).1⟩
  have hB : ∀ t : Nat, t ≤ 15 → isBs D T nt t (bsRows D T nt t) (bsX D T nt t).2 := fun t ht => by
    obtain ⟨r, X, h⟩ := hEx t ht
    exact (bsX_ok h).1
  refine wr_Works_startAgain hz y6 y7 (wr_Mover_begin hz fun Z1 e1 Z2 e2 => ⟨I, Z2, rfl, rfl, ?_⟩)
  have f1 := zf_zr e1
  have f2 := zf_zr e2
  have f12 : zf [53] z Z2 := zf_trans f1.1 f2.1
  have y530 : Z2.1 53 0 = sh := by rw [e2, zr_ne (by decide)]; exact f1.2
  have y531 : Z2.1 53 1 = mb := f2.2
  have o53 : ∀ j : Nat, j ≠ 0 → j ≠ 1 → Z2.1 53 (j : Int) = z.1 53 (j : Int) := fun j j0 j1 => by
    rw [e2, zr_ne (by omega), e1, zr_ne (by omega)]
  have wz2 : wz Z2 := by
    refine wz_keep hz (fun a j ha hj hA => ?_) (f12.1 3 (by decide)) (f12.1 68 (by decide)) (f12.1 189 (by decide)) (fun a _ => by rw [f12.2]) (by rw [zN, zN, f12.2]; exact Nat.le_refl _)
    by_cases e : a = 53
    · rw [e] at hA ⊢
      refine o53 j (fun w => ?_) (fun w => ?_)
      · rw [w] at hA; exact hA (by decide)
      · rw [w] at hA; exact hA (by decide)
    · rw [f12.1 a (nin1 e)]
  refine ⟨wz2, by rw [f12.1 1 (by decide)]; exact y6, by rw [f12.1 1 (by decide)]; exact y7, ?_⟩
  refine zcU_mono (t_basesBegin (d := d) wz2 hS pm hM hTD hTM (R := fun t => bsRows D T nt t) (B := fun t => (bsX D T nt t).2) hB) fun I6 Z7 ⟨k1, k2, k3, k4, k5, k6, k7⟩ => ?_
  have c1 : Z7.1 1 = z.1 1 := by rw [k2.1 1 (by decide), f12.1 1 (by decide)]
  refine ⟨k1, by rw [c1]; exact y6, by rw [c1]; exact y7, zcU_mono (t_searchBegin (d := d + 3) k1 (sh := sh) (mb := mb) pm) fun I11 Z12 ⟨s1, s2, s3, s4, s5, s6⟩ => ?_⟩
  have f185 := zf_zr s1
  have wz12 : wz Z12 := by
    refine wz_keep k1 (fun a j ha hj hA => ?_) (f185.1.1 3 (by decide)) (f185.1.1 68 (by decide)) (f185.1.1 189 (by decide)) (fun a _ => by rw [f185.1.2]) (by rw [zN, zN, f185.1.2]; exact Nat.le_refl _)
    by_cases e : a = 185
    · rw [e] at hA ⊢
      rw [s1, zr_ne (fun w => by
        have : j = 2 := by omega
        rw [this] at hA; exact hA (by decide))]
    · rw [f185.1.1 a (nin1 e)]
  refine ⟨wz12, by rw [f185.1.1 1 (by decide), c1]; exact y6, wr_Rewriter_begin wz12 fun Z13 e13 I2 g2 I3 g3 I4 g4 I5 g5 I6' g6 => ⟨I6', Z13, rfl, rfl, kU_mk ?_⟩⟩
  have f198 := zf_zr e13
  have wz13 : wz Z13 := by
    refine wz_keep wz12 (fun a j ha hj hA => ?_) (f198.1.1 3 (by decide)) (f198.1.1 68 (by decide)) (f198.1.1 189 (by decide)) (fun a _ => by rw [f198.1.2]) (by rw [zN, zN, f198.1.2]; exact Nat.le_refl _)
    by_cases e : a = 198
    · rw [e] at hA ⊢
      rw [e13, zr_ne (fun w => by
        have : j = 2 := by omega
        rw [this] at hA; exact hA (by decide))]
    · rw [f198.1.1 a (nin1 e)]
  obtain ⟨h2f, h2⟩ := fr_eq_iu g2
  obtain ⟨h3f, h3⟩ := fr_eq_iu g3
  obtain ⟨h4f, h4⟩ := fr_eq_iu g4
  obtain ⟨h5f, h5⟩ := fr_eq_iu g5
  obtain ⟨h6f, h6⟩ := fr_eq_iu g6
  have f198I : fr [198] I11 I6' := fr_trans h2f (fr_trans h3f (fr_trans h4f (fr_trans h5f h6f)))
  have v198 : ∀ j, I6' 198 j = if j = 10 then -1 else if j = 9 then -1 else if j = 7 then -1 else if j = 4 then -1 else if j = 3 then 0 else I11 198 j := by
    intro j
    rw [h6]
    show (if j = 10 then (-1 : Int) else I5 198 j) = _
    rw [h5]
    show (if j = 10 then (-1 : Int) else if j = 9 then -1 else I4 198 j) = _
    rw [h4]
    show (if j = 10 then (-1 : Int) else if j = 9 then -1 else if j = 7 then -1 else I3 198 j) = _
    rw [h3]
    show (if j = 10 then (-1 : Int) else if j = 9 then -1 else if j = 7 then -1 else if j = 4 then -1 else I2 198 j) = _
    rw [h2]
  have ZF : zf [53, 66, 185, 198] z Z13 := zf_trans (zf_mono f12 (by simp)) (zf_trans (zf_mono k2 (by simp)) (zf_trans (zf_mono f185.1 (by simp)) (zf_mono f198.1 (by simp))))
  have FI : ∀ c, c ∉ [67, 185, 198] → (∀ t, t < 16 → c ≠ 73 + 7 * t) → I6' c = I c := fun c hc ht => by
    simp at hc
    rw [f198I c (nin1 hc.2.2), s2 c (nin1 hc.2.1), k5 c hc.1 ht]
  have hg1 : gw Z13 := gw_zf ZF gO_sa (by decide) hg
  have gr : ∀ k, k < 97 → gR Z13 k = gR z k := fun k hk => gR_zf ZF (gO_sa k hk)
  have gI' : ∀ k, k < 97 → I6' (gR z k) = I (gR z k) := fun k hk => by
    refine FI _ ?_ fun t ht => gw_gr hg ht hk
    have a := gw_fix hg (c := 67) (by decide) (by decide) (by decide) hk
    have b := gw_fix hg (c := 185) (by decide) (by decide) (by decide) hk
    have c := gw_fix hg (c := 198) (by decide) (by decide) (by decide) hk
    simp
    exact ⟨fun e => a e.symm, fun e => b e.symm, fun e => c e.symm⟩
  have lo : ∀ c, c < 67 → I6' c = I c := fun c hc => FI c (by simp; omega) fun t ht => by omega
  have S1 : shOk D sh I6' := shOk_fr hS (lo _ (by omega)) (lo _ (by omega)) (lo _ (by omega)) (lo _ (by omega)) (lo _ (by omega))
  have O1 : mvO I6' := by
    unfold mvO at hO ⊢
    rw [lo 54 (by decide), lo 58 (by decide), lo 59 (by decide), lo 60 (by decide)]
    exact hO
  have i185 : I6' 185 = I11 185 := f198I 185 (by decide)
  have y53 : Z13.1 53 = Z2.1 53 := by rw [f198.1.1 53 (by decide), f185.1.1 53 (by decide), k2.1 53 (by decide)]
  have E1 : bsE D sh mb T nt n L Z13 I6' := by
    refine ⟨⟨wz13, S1, by rw [ZF.1 1 (by decide)]; exact y6, by rw [ZF.1 1 (by decide)]; exact y7, by rw [y53]; exact y530, by rw [y53]; exact y531, pm, mbOk_fr hM (fun c c1 c2 => lo c (by omega)), hI, hTM, O1⟩, hg1, hTD, by rw [f198.1.1 66 (by decide), f185.1.1 66 (by decide)]; exact k3, by rw [f198.1.1 66 (by decide), f185.1.1 66 (by decide)]; exact k4, by rw [FI 69 (by decide) (fun t ht => by omega)]; exact h69, ?_, fun t ht => ⟨bsRows D T nt t, (bsX D T nt t).2, hB t (by omega), ?_⟩, fun t ht => ⟨?_, ?_, Or.inl ?_⟩⟩
    · have e : Z13.1 63 2 = z.1 63 2 := gr 0 (by decide)
      rw [e]
      have := gI' 0 (by decide)
      rw [show I6' (z.1 63 2) = I (z.1 63 2) from this]
      exact h63
    · rw [f198I 67 (by decide), s2 67 (by decide), k7 t (by omega)]
    · rw [f198I _ (nin1 (by omega)), s2 _ (nin1 (by omega)), k6 t ht]
      show (if (0 : Int) = 1 then 0 else I (73 + 7 * t) 0) = _
      rw [if_neg (by decide)]
      exact (hgr t ht).1
    · rw [show gG Z13 t 0 = gG z t 0 from gr (1 + 6 * t + 0) (by omega), show I6' (gG z t 0) = I (gG z t 0) from gI' (1 + 6 * t + 0) (by omega)]
      exact (hgr t ht).2
    · rw [f198I _ (nin1 (by omega)), s2 _ (nin1 (by omega)), k6 t ht]
      exact if_pos rfl
  have em : I6 mb 2 = (n : Int) := by rw [k5 mb (by omega) (fun t ht => by omega)]; exact hM.2.2.2.2.2.2.2.2.2.2.1
  refine ⟨ZF, FI, ⟨E1, by rw [f198.1.1 185 (by decide)]; exact f185.2, by rw [i185, s3]; exact em, Or.inl ⟨by rw [i185]; exact s4, by rw [i185]; exact s5⟩⟩, f198.2, fun t ht => ?_, Or.inl ⟨rfl, ?_, ?_, ?_, ?_⟩⟩
  · rw [show gG Z13 t 4 = gG z t 4 from gr (1 + 6 * t + 4) (by omega), show I6' (gG z t 4) = I (gG z t 4) from gI' (1 + 6 * t + 4) (by omega)]
    exact hT t ht
  · rw [v198]; rfl
  · rw [v198]; rfl
  · rw [v198]; rfl
  · rw [v198]; rfl
end WC8
