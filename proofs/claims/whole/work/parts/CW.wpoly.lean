/-! the calls feed and polynomial of the class -/
section WC7
variable {d : Nat} {z z1 : cm_Z} {I I1 : cm_I} {D : Int} {sh mb : Nat} {T : Nat → cMat} {nt n : Nat} {L : Nat → cMat} {K K' : Int → Int → Int} {B B' : Int → Int} {tp tp' : Int} {rf : Option (Int → Int)}
def lowL : List Nat := [1, 2, 4, 5, 6, 7, 8, 9, 10, 49, 50]
theorem wI_low (h : wI D T nt n L K B tp rf sh mb z I) (hf : fr lowL I I1) (hK : kpW D K' I1) (hW : wB B' tp' mb z I1) : wI D T nt n L K' B' tp' rf sh mb z I1 := by
  obtain ⟨⟨hB, y2, e3, alt⟩, y, hT, hZ, _, hw0, hR⟩ := h
  have hg := hB.2.1
  have fx : ∀ x, (10 < x ∧ x < 49 ∨ 50 < x) → I1 x = I x := fun x hx => hf x (by simp [lowL]; omega)
  have gr : ∀ k, k < 97 → 50 < gR z k := fun k hk => by
    have := gI_fix k hk
    rcases (hg.2.1 k hk).1 with e | e <;> omega
  have row : ∀ t j, t < 16 → j < 6 → gG z t j = gG z t j ∧ z.2.1 (gG z t j) = z.2.1 (gG z t j) ∧ I1 (gG z t j) = I (gG z t j) := fun t j ht hj => ⟨rfl, rfl, fx _ (Or.inr (gr (1 + 6 * t + j) (by omega)))⟩
  have ob : ∀ t, t < 16 → I1 (73 + 7 * t) = I (73 + 7 * t) := fun t ht => fx _ (by omega)
  have hs := hB.1.2.1
  have hsh : sh = 11 ∨ sh = 20 := shOk_sh hs
  have S1 : shOk D sh I1 := shOk_fr hs (fx _ (by omega)) (fx _ (by omega)) (fx _ (by omega)) (fx _ (by omega)) (fx _ (by omega))
  have O1 : mvO I1 := by
    have := hB.1.2.2.2.2.2.2.2.2.2.2
    unfold mvO at this ⊢
    rw [fx 54 (by decide), fx 58 (by decide), fx 59 (by decide), fx 60 (by decide)]
    exact this
  have q0 : I1 (z.1 63 2) = I (z.1 63 2) := fx _ (Or.inr (gr 0 (by decide)))
  have E1 : bsE D sh mb T nt n L z I1 := bsE_fr3 hB hB.1.1 hg S1 (fun x h1 h2 => fx x (by omega)) O1 rfl rfl rfl (fun t j ht hj => row t j ht (by omega)) (by rw [q0]; exact hB.2.2.2.2.2.2.1) (fx 67 (by decide)) (fx 69 (by decide)) fun t ht j _ _ => by rw [ob t ht]
  refine ⟨⟨E1, y2, by rw [fx 185 (by decide)]; exact e3, ?_⟩, y, fun t ht => by rw [(row t 4 ht (by decide)).2.2]; exact hT t ht, hZ, hK, hW, rwZ_fr hR E1 rfl (fun x hx => fx x (by simp at hx; omega)) row ob⟩
  unfold pmK at alt ⊢
  rw [fx 185 (by decide), fx 190 (by decide), fx 191 (by decide)]
  rcases alt with w | ⟨w1, w2⟩
  · exact Or.inl w
  · refine Or.inr ⟨w1, ?_⟩
    rcases w2 with w2 | ⟨q, q1, q2, q3, q4, q5⟩
    · exact Or.inl w2
    · exact Or.inr ⟨q, q1, q2, q3, q4, fun t h1 h2 => by rw [ob t (by omega)]; exact q5 t h1 h2⟩
/-- cells 1, 2, 49 alone -/
theorem wI_tp (h : wI D T nt n L K B tp rf sh mb z I) (hf : fr [1, 2, 49] I I1) (e1 : I1 1 1 = tp') (t0 : 0 ≤ tp') (t4 : tp' ≤ 400) (hT : tpR B' I1) : wI D T nt n L K B' tp' rf sh mb z I1 := by
  refine wI_low h (fr_mono hf (by simp [lowL])) (fun i i0 i1 => by rw [hf _ (by simp; omega)]; exact h.2.2.2.2.1 i i0 i1) ?_
  obtain ⟨⟨h1, h2⟩, h3, h4, h5, ⟨o1, o2, o3, o4, o5, o6⟩, h7, h8⟩ := h.2.2.2.2.2.1
  have fx : ∀ x, 10 < x → x ≠ 49 → I1 x = I x := fun x a b => hf x (by simp; omega)
  refine ⟨⟨shOk_fr h1 (fx _ (by decide) (by decide)) (fx _ (by decide) (by decide)) (fx _ (by decide) (by decide)) (fx _ (by decide) (by decide)) (fx _ (by decide) (by decide)), shOk_fr h2 (fx _ (by decide) (by decide)) (fx _ (by decide) (by decide)) (fx _ (by decide) (by decide)) (fx _ (by decide) (by decide)) (fx _ (by decide) (by decide))⟩, hT, ⟨e1, t0, t4⟩, h5, ⟨by rw [fx 30 (by decide) (by decide)]; exact o1, by rw [fx 31 (by decide) (by decide)]; exact o2, by rw [fx 38 (by decide) (by decide)]; exact o3, by rw [fx 40 (by decide) (by decide)]; exact o4, by rw [fx 41 (by decide) (by decide)]; exact o5, by rw [fx 48 (by decide) (by decide)]; exact o6⟩, ?_, by rw [fx 50 (by decide) (by decide)]; exact h8⟩
  rcases h7 with v | ⟨v1, v2, v3, v4, v5, v6⟩
  · exact Or.inl v
  · exact Or.inr ⟨v1, v2, v3, v4, v5, fun i hi => by rw [fx _ (by omega) (by omega)]; exact v6 i hi⟩
theorem c_putBytes (h : wI D T nt n L K B tp rf sh mb z I) (v : Int) (t4 : tp + 4 ≤ 400) : mU (d + 1) m_Works_putBytes [vR 11 1, vI v] z I fun I1 => wI D T nt n L K (putF B tp v) (tp + 4) rf sh mb z I1 := by
  obtain ⟨hD, hz, _⟩ := wI_get h
  obtain ⟨_, hT, ⟨e1, t0, _⟩, _⟩ := id h.2.2.2.2.2.1
  -- one byte
  have step : ∀ (J : cm_I) (s p : Int) (C : Int → Int) (Q : cm_Q), fr [1, 2] I J → J 1 1 = p → 0 ≤ p → p < 400 → (∀ k, 0 ≤ k → k < 400 → J 2 k = C k) → 0 ≤ s → s < 32 → (∀ J1 : cm_I, fr [1, 2] I J1 → J1 1 1 = p + 1 → (∀ k, 0 ≤ k → k < 400 → J1 2 k = if k = p then bOf v s else C k) → cw d cd_Works_putBytes Q 3 [some (vR 11 1), some (vI v), some (vI (s + (-8)))] [] (J1, z)) → cw d cd_Works_putBytes Q 3 [some (vR 11 1), some (vI v), some (vI s)] [] (J, z) := by
    intro J s p C Q hf ep p0 p4 hc s0 s32 H
    have bb := bOf_bd v s
    unfold bOf at bb
    refine wr_Works_putBytes_3 hz ?_
    rw [ep]
    refine ⟨fun w => by omega, fun _ => ⟨⟨s0, s32⟩, ⟨p0, p4⟩, bb, fun I4 e4 => ?_⟩⟩
    obtain ⟨f4, g4⟩ := fr_eq_iu e4
    rw [f4 1 (by decide), ep]
    refine ⟨by unfold cm_i; omega, fun I6 e6 => ⟨by unfold cm_i; omega, H I6 ?_ ?_ fun k k0 k1 => ?_⟩⟩
    · obtain ⟨f6, g6⟩ := fr_eq_iu e6
      exact fr_trans hf (fr_trans (fr_mono f4 (by simp)) (fr_mono f6 (by simp)))
    · obtain ⟨f6, g6⟩ := fr_eq_iu e6
      rw [g6]
      exact if_pos rfl
    · obtain ⟨f6, g6⟩ := fr_eq_iu e6
      rw [f6 2 (by decide), g4]
      show (if k = p then _ else J 2 k) = _
      by_cases w : k = p
      · rw [if_pos w, if_pos w]; rfl
      · rw [if_neg w, if_neg w]; exact hc k k0 k1
  refine wr_Works_putBytes hz (step I 24 tp B _ (fr_refl _ _) e1 t0 (by omega) (fun k k0 k1 => (hT k k0 k1).1) (by decide) (by decide) fun J1 a1 a2 a3 => ?_)
  refine step J1 (24 + (-8)) (tp + 1) _ _ a1 a2 (by omega) (by omega) a3 (by decide) (by decide) fun J2 b1 b2 b3 => ?_
  refine step J2 (24 + (-8) + (-8)) (tp + 1 + 1) _ _ b1 b2 (by omega) (by omega) b3 (by decide) (by decide) fun J3 c1 c2 c3 => ?_
  refine step J3 (24 + (-8) + (-8) + (-8)) (tp + 1 + 1 + 1) _ _ c1 c2 (by omega) (by omega) c3 (by decide) (by decide) fun J4 d1 d2 d3 => ?_
  refine wr_Works_putBytes_3 hz ⟨fun _ => qU_mk (wI_tp h (fr_mono d1 (by simp)) (by rw [d2]; omega) (by omega) (by omega) fun k k0 k1 => ?_), fun w => by omega⟩
  have e24 : (24 : Int) + -8 = 16 := by decide
  have e8 : (24 : Int) + -8 + -8 = 8 := by decide
  have e0 : (24 : Int) + -8 + -8 + -8 = 0 := by decide
  have val : J4 2 k = putF B tp v k := by
    rw [d3 k k0 k1]
    unfold putF
    rw [e0, e8, e24, show tp + 1 + 1 + 1 = tp + 3 by omega, show tp + 1 + 1 = tp + 2 by omega]
    by_cases w0 : k = tp
    · rw [if_neg (by omega), if_neg (by omega), if_neg (by omega), if_pos w0, if_pos w0]
    · rw [if_neg w0, if_neg w0]
      by_cases w1 : k = tp + 1
      · rw [if_neg (by omega), if_neg (by omega), if_pos w1, if_pos w1]
      · rw [if_neg w1, if_neg w1]
        by_cases w2 : k = tp + 2
        · rw [if_neg (by omega), if_pos w2, if_pos w2]
        · rw [if_neg w2, if_neg w2]
  refine ⟨val, ?_⟩
  unfold putF
  have a := bOf_bd v 24
  have b := bOf_bd v 16
  have c := bOf_bd v 8
  have e := bOf_bd v 0
  have f := (hT k k0 k1).2
  split
  · exact a
  · split
    · exact b
    · split
      · exact c
      · split
        · exact e
        · exact f
def fedF (B : Int → Int) (tp a b c e f : Int) : Int → Int := putF (putF (putF (putF (putF B tp a) (tp + 4) b) (tp + 8) c) (tp + 12) e) (tp + 16) f
theorem c_feed (h : wI D T nt n L K B tp rf sh mb z I) (a b c e f : Int) : mI (d + 2) m_Works_feed [vR 11 1, vI a, vI b, vI c, vI e, vI f] z I fun r I1 => (tp + 20 ≤ 400 ∧ wI D T nt n L K (fedF B tp a b c e f) (tp + 20) rf sh mb z I1 ∧ r = tp + 20) ∨ (400 < tp + 20 ∧ I1 = I ∧ r = -1) := by
  obtain ⟨hD, hz, _⟩ := wI_get h
  obtain ⟨_, hT, ⟨e1, t0, t4⟩, _⟩ := id h.2.2.2.2.2.1
  refine wr_Works_feed hz ?_
  rw [e1]
  refine ⟨by unfold cm_i; omega, fun le => ?_, fun gt => qI_mk (Or.inr ⟨gt, rfl, rfl⟩)⟩
  refine mU_mono (c_putBytes (d := d) h a (by omega)) fun I2 W2 => mU_mono (c_putBytes (d := d) W2 b (by omega)) fun I3 W3 => mU_mono (c_putBytes (d := d) W3 c (by omega)) fun I4 W4 => mU_mono (c_putBytes (d := d) W4 e (by omega)) fun I5 W5 => mU_mono (c_putBytes (d := d) W5 f (by omega)) fun I6 W6 => qI_mk (Or.inl ⟨le, ?_, ?_⟩)
  · unfold fedF
    rw [show tp + 4 + 4 + 4 + 4 + 4 = tp + 20 by omega, show tp + 4 + 4 + 4 + 4 = tp + 16 by omega, show tp + 4 + 4 + 4 = tp + 12 by omega, show tp + 4 + 4 = tp + 8 by omega] at W6
    exact W6
  · have := W6.2.2.2.2.2.1.2.2.1.1
    rw [this]; omega
/-- a polynomial was read -/
theorem wI_ra (h : wI D T nt n L K B tp rf sh mb z I) {f : Int → Int} {a : Nat} (hr : raP2 D sh B' f z I a I1 z1) : wI D T nt n L K B tp rf sh mb z1 I1 ∧ usW z z1 := by
  obtain ⟨r1, r2, r3, r4, r5, r6, r7, r8, r9, r10, r11⟩ := hr
  obtain ⟨⟨hB, y2, e3, alt⟩, y, hT, hZ, hK, hw0, hR⟩ := h
  have hg := hB.2.1
  have w6 : 248 ≤ zN z := hB.1.1.2.2.2.2.2
  have hs := hB.1.2.1
  have hsh : sh = 11 ∨ sh = 20 := shOk_sh hs
  have zc : ∀ x, x < zN z → x ≠ 51 → x ≠ sh + 3 → x ≠ sh + 5 → z1.1 x = z.1 x := fun x h1 h2 h3 h4 => r3.1 x h1 (by simp; omega)
  have gOb : ∀ k, k < 97 → gO k = 63 ∨ (73 ≤ gO k ∧ gO k < 185) := by decide
  have gr : ∀ k, k < 97 → gR z1 k = gR z k := fun k hk => by
    unfold gR
    have := gOb k hk
    rw [zc (gO k) (by omega) (by omega) (by omega) (by omega)]
  have lr : ∀ k, k < 97 → z1.2.1 (gR z k) = z.2.1 (gR z k) := fun k hk => r3.2.1 _ (hg.2.1 k hk).2.1
  have fx : ∀ x, x < 248 → x ≠ 49 → x ≠ 51 → x ≠ sh + 3 → x ≠ sh + 5 → I1 x = I x := fun x h1 h2 h3 h4 h5 => r6 x (by omega) h2 h3 h4 h5 fun i _ hh => by omega
  have gd : ∀ k, k < 97 → I1 (gR z k) = I (gR z k) := fun k hk => by
    have b := gI_fix k hk
    have c := (hg.2.1 k hk).1
    refine r6 _ (hg.2.1 k hk).2.1 (by rcases c with e | e <;> omega) (by rcases c with e | e <;> omega) (by rcases c with e | e <;> omega) (by rcases c with e | e <;> omega) fun i hi hh => ?_
    have := hg.2.2.2 k (1 + i) hk (by omega) hh
    rw [show z.1 51 2 + 1 + i = z.1 51 2 + (1 + i) by omega]
    exact this
  have hg1 : gw z1 := by
    refine ⟨fun hh => ?_, fun k hk => ?_, fun k k' hk hk' ne => by rw [gr k hk, gr k' hk']; exact hg.2.2.1 k k' hk hk' ne, fun k i hk hi hh => ?_⟩
    · rcases r2 with ⟨v, _⟩ | ⟨_, v, _⟩
      · omega
      · exact v
    · rw [gr k hk, lr k hk]
      have := hg.2.1 k hk
      exact ⟨this.1, by have := r3.2.2; omega, this.2.2⟩
    · rw [gr k hk]
      rcases r11 with e | e
      · rw [e]
        exact hg.2.2.2 k i hk hi (by rw [← e]; exact hh)
      · have := (hg.2.1 k hk).2.1
        omega
  have row : ∀ t j, t < 16 → j < 6 → gG z1 t j = gG z t j ∧ z1.2.1 (gG z t j) = z.2.1 (gG z t j) ∧ I1 (gG z t j) = I (gG z t j) := fun t j ht hj => ⟨gr (1 + 6 * t + j) (by omega), lr (1 + 6 * t + j) (by omega), gd (1 + 6 * t + j) (by omega)⟩
  have ob : ∀ t, t < 16 → I1 (73 + 7 * t) = I (73 + 7 * t) := fun t ht => fx _ (by omega) (by omega) (by omega) (by omega) (by omega)
  have S1 : shOk D sh I1 := shOk_fr hs (fx _ (by omega) (by omega) (by omega) (by omega) (by omega)) (fx _ (by omega) (by omega) (by omega) (by omega) (by omega)) (fx _ (by omega) (by omega) (by omega) (by omega) (by omega)) (fx _ (by omega) (by omega) (by omega) (by omega) (by omega)) (fx _ (by omega) (by omega) (by omega) (by omega) (by omega))
  have O1 : mvO I1 := by
    have := hB.1.2.2.2.2.2.2.2.2.2.2
    unfold mvO at this ⊢
    rw [fx 54 (by decide) (by decide) (by decide) (by omega) (by omega), fx 58 (by decide) (by decide) (by decide) (by omega) (by omega), fx 59 (by decide) (by decide) (by decide) (by omega) (by omega), fx 60 (by decide) (by decide) (by decide) (by omega) (by omega)]
    exact this
  have q0 : z1.1 63 2 = z.1 63 2 := gr 0 (by decide)
  have E1 : bsE D sh mb T nt n L z1 I1 := bsE_fr3 hB r1 hg1 S1 (fun x h1 h2 => fx x (by omega) (by omega) (by omega) (by omega) (by omega)) O1 (zc 1 (by omega) (by decide) (by omega) (by omega)) (zc 53 (by omega) (by decide) (by omega) (by omega)) (zc 66 (by omega) (by decide) (by omega) (by omega)) (fun t j ht hj => row t j ht (by omega)) (by
    rw [q0]
    have := gd 0 (by decide)
    rw [show I1 (z.1 63 2) = I (z.1 63 2) from this]
    exact hB.2.2.2.2.2.2.1) (fx 67 (by decide) (by decide) (by decide) (by omega) (by omega)) (fx 69 (by decide) (by decide) (by decide) (by omega) (by omega)) fun t ht j _ _ => by rw [ob t ht]
  have fh : ∀ x, x < 248 → 185 ≤ x → I1 x = I x := fun x h1 h2 => fx x h1 (by omega) (by omega) (by omega) (by omega)
  refine ⟨⟨⟨E1, by rw [zc 185 (by omega) (by decide) (by omega) (by omega)]; exact y2, by rw [fh 185 (by decide) (by decide)]; exact e3, ?_⟩, by rw [zc 198 (by omega) (by decide) (by omega) (by omega)]; exact y, fun t ht => by rw [(row t 4 ht (by decide)).1, (row t 4 ht (by decide)).2.2]; exact hT t ht, hZ, fun i i0 i1 => by rw [fx (4 + i.toNat) (by omega) (by omega) (by omega) (by omega) (by omega)]; exact hK i i0 i1, wB_fr hw0 r2 (by rw [zc 1 (by omega) (by decide) (by omega) (by omega)]) fun x h1 h2 => fx x (by omega) (by simp at h2; omega) (by omega) (by simp at h2; omega) (by simp at h2; omega), rwZ_fr hR E1 (zc 198 (by omega) (by decide) (by omega) (by omega)) (fun x hx => fh x (by simp at hx; omega) (by simp at hx; omega)) row ob⟩, ?_⟩
  · unfold pmK at alt ⊢
    rw [fh 185 (by decide) (by decide), fh 190 (by decide) (by decide), fh 191 (by decide) (by decide)]
    rcases alt with w | ⟨w1, w2⟩
    · exact Or.inl w
    · refine Or.inr ⟨w1, ?_⟩
      rcases w2 with w2 | ⟨q, q1, q2, q3, q4, q5⟩
      · exact Or.inl w2
      · exact Or.inr ⟨q, q1, q2, q3, q4, fun t h1 h2 => by rw [ob t (by omega)]; exact q5 t h1 h2⟩
  · have pc : potC z1 = potC z := psN_congr fun k hk => by
      show ptC _ _ (z1.2.1 (gR z1 k)).toNat = ptC _ _ (z.2.1 (gR z k)).toNat
      rw [gr k hk, lr k hk]
    have ps : potS z1 = potS z := psN_congr fun k hk => by
      show ptS _ _ (z1.2.1 (gR z1 k)).toNat = ptS _ _ (z.2.1 (gR z k)).toNat
      rw [gr k hk, lr k hk]
    unfold usW
    rw [pc, ps]
    exact ⟨by omega, by omega⟩
theorem pAll_20 (hD : D = 2 ∨ D = 3) {f : Int → Int} (hp : pIn f) : 0 ≤ (pAll D B f).2.1 20 ∧ (pAll D B f).2.1 20 ≤ 4000 := by
  have kp := pLev_kp (D := D) (B := B) hD 9 f hp
  unfold pAll
  split
  · rename_i w
    show 0 ≤ rBad (pLev D B 9 f).2.1 1 20 ∧ rBad (pLev D B 9 f).2.1 1 20 ≤ 4000
    have ro := kp.1
    unfold rOk at ro
    unfold rBad
    rw [if_pos rfl, if_pos (kp.2.2.2.1.1 w.1)]
    omega
  · exact kp.2.2.2.1.2
/-- what polynomial answers -/
def aPoly (D : Int) (B f : Int → Int) (n : Int) : Int := if (pAll D B (pl0 B n f)).1 = false then -2 - (pAll D B (pl0 B n f)).2.1 20 else if (pAll D B (pl0 B n f)).2.1 28 ≠ 0 then -5 else mDeg D (pAll D B (pl0 B n f)).2.2 0
theorem c_polynomial (h : wI D T nt n L K B tp rf sh mb z I) {f : Int → Int} (f0 : 0 ≤ f 19) (f9 : f 19 ≤ 9999) (k m : Int) : zcI (d + 50) m_Works_polynomial [vR 11 1, vI k, vI m] z I fun r I1 z1 => usW z z1 ∧ ((kFit k ∧ 0 ≤ m ∧ m ≤ tp) ∧ r = aPoly D B f m ∧ wI D T nt n L (if (pAll D B (pl0 B m f)).1 = true ∧ (pAll D B (pl0 B m f)).2.1 28 = 0 then kSet K k (pAll D B (pl0 B m f)).2.2 else K) B 0 rf sh mb z1 I1 ∨ ¬ (kFit k ∧ 0 ≤ m ∧ m ≤ tp) ∧ r = -1 ∧ wI D T nt n L K B tp rf sh mb z1 I1) := by
  obtain ⟨hD, hz, hg, hs, pm, y6, y7, hS, hM, hE⟩ := wI_get h
  obtain ⟨m0, m1⟩ := m816 hD
  obtain ⟨_, hT, ⟨e1, t0, t4⟩, _⟩ := id h.2.2.2.2.2.1
  have no : ∀ J : cm_I, J = I → ¬ (kFit k ∧ 0 ≤ m ∧ m ≤ tp) → kI (fun r I1 z1 => usW z z1 ∧ ((kFit k ∧ 0 ≤ m ∧ m ≤ tp) ∧ r = aPoly D B f m ∧ wI D T nt n L (if (pAll D B (pl0 B m f)).1 = true ∧ (pAll D B (pl0 B m f)).2.1 28 = 0 then kSet K k (pAll D B (pl0 B m f)).2.2 else K) B 0 rf sh mb z1 I1 ∨ ¬ (kFit k ∧ 0 ≤ m ∧ m ≤ tp) ∧ r = -1 ∧ wI D T nt n L K B tp rf sh mb z1 I1)) (some (vI (-1))) (J, z) := fun J e q => kI_mk ⟨usW_refl z, Or.inr ⟨q, rfl, by rw [e]; exact h⟩⟩
  refine wr_Works_polynomial hz y6 hs (mI_mono (t_isKept (d := d + 48) hz k) fun r0 I0 ⟨e0, b0⟩ => ?_)
  rw [e0, e1]
  refine ⟨fun w => no I rfl fun q => by rw [if_pos q.1] at b0; omega, fun w => ⟨fun w1 => no I rfl fun q => by omega, fun w1 => ⟨fun w2 I3 e3 => ?_, fun w2 => no I rfl fun q => by omega⟩⟩⟩
  have hk : kFit k := Classical.byContradiction fun x => w (by rw [b0, if_neg x])
  have hk' : 0 ≤ k ∧ k ≤ 5 := hk
  have all : kFit k ∧ 0 ≤ m ∧ m ≤ tp := ⟨hk, w1, w2⟩
  obtain ⟨f3, g3⟩ := fr_eq_iu e3
  have T3 : tpR B I3 := by unfold tpR; rw [f3 2 (by decide)]; exact hT
  obtain ⟨p1, p2, p3, p4, p5⟩ := pl0_ok (B := B) (f := f) (n := m) w1 (by omega) f0 f9
  refine mU_mono (t_open (d := d + 45) hz T3 (n := m) w1 (by omega) (g := st1 (st1 (st1 (st1 (st1 f 0 0) 15 m) 14 0) 17 0) 20 0) rfl rfl rfl) fun I4 ⟨f4, rd⟩ => ?_
  have fA : fr [1, 2, 49] I I4 := fr_trans (fr_mono f3 (by simp)) (fr_mono f4 (by simp))
  have W4 : wI D T nt n L K B 0 rf sh mb z I4 := wI_tp h fA (by rw [f4 1 (by decide), g3]; rfl) (by decide) (by decide) rd.1
  obtain ⟨_, _, _, _, _, _, _, hS4, _, _⟩ := wI_get W4
  have rd4 : rdF B (pl0 B m f) I4 := ⟨rd, p1.1.1, (tok_ok B (f := st1 (st1 (st1 (st1 (st1 f 0 0) 15 m) 14 0) 17 0) 20 0) (show (0 : Int) ≤ 0 by omega) (show (0 : Int) ≤ m from w1) (show m ≤ 400 by omega) f0 f9).2.2.2⟩
  refine zcA_mono (t_readAll2 (d := d) hz hS4 W4.2.2.2.2.2.1.2.2.2.2.2.1 rd4 p1 rfl rfl) fun v7 I5 Z6 ra => ?_
  obtain ⟨W5, U5⟩ := wI_ra W4 ra
  obtain ⟨r1, r2, r3, r4, r5, r6, r7, r8, r9, r10, r11⟩ := id ra
  obtain ⟨_, hz5, _, _, _, y65, _, hS5, _, _⟩ := wI_get W5
  have v7p : 248 < v7 := by omega
  refine ⟨hz5, fun e0 => ?_, fun n0 => ?_⟩
  · rcases r10 with ⟨x1, x2, x3⟩ | ⟨x1, x2, x3⟩ | ⟨x1, x2, x3, x4, x5⟩
    · exact absurd e0 x3
    · rw [e0] at x3; exact absurd x3 (by decide)
    · have e16 : I5 sh 1 = mFrom D 16 := hS5.2.2.1
      rw [e16]
      refine ⟨⟨hk'.1, by omega⟩, y65, by omega, ⟨by decide, by decide, m0, by omega, by omega⟩, fun I13 e13 => ?_⟩
      obtain ⟨f13, g13⟩ := fr_eq_iw e13
      have hK13 : kpW D (kSet K k (pAll D B (pl0 B m f)).2.2) I13 := by
        intro i i0 i1
        unfold kSet
        by_cases e : i = k
        · rw [if_pos e, e, g13]
          refine ⟨fun j j0 j1 => ?_, x5⟩
          show (if 0 ≤ j ∧ j < 0 + mFrom D 16 then I5 v7 (0 + (j - 0)) else _) = _
          rw [if_pos ⟨j0, by omega⟩, show (0 : Int) + (j - 0) = j by omega]
          exact x4 j j0 j1
        · rw [if_neg e, f13 _ (by simp; omega)]
          exact W5.2.2.2.2.1 i i0 i1
      have W13 := wI_k9 W5 (fr_mono f13 (by simp [k9]; omega)) hK13
      obtain ⟨kr, kv⟩ := hK13 k hk'.1 (by omega)
      have ek : kSet K k (pAll D B (pl0 B m f)).2.2 k = (pAll D B (pl0 B m f)).2.2 := kSet_at _ _ _
      rw [ek] at kr kv
      refine mI_mono (t_degreeOf (d := d + 48) hz5 (wI_get W13).2.2.2.2.2.2.2.1 (by omega) (by rw [kept_len hz5 hk'.1 (by omega)]; exact m1) kr kv) fun r15 I14 ⟨e14, b14⟩ => kI_mk ⟨U5, Or.inl ⟨all, ?_, ?_⟩⟩
      · unfold aPoly
        rw [if_neg (by rw [x1]; simp), if_neg (by rw [x2]; simp), b14]
      · rw [if_pos ⟨x1, x2⟩, e14]
        exact W13
  · rcases r10 with ⟨x1, x2, x3⟩ | ⟨x1, x2, x3⟩ | ⟨x1, x2, x3, x4, x5⟩
    · have kp := pAll_20 (B := B) hD (f := pl0 B m f) p1
      refine ⟨by rw [x2]; unfold cm_i; omega, kI_mk ⟨U5, Or.inl ⟨all, ?_, ?_⟩⟩⟩
      · unfold aPoly
        rw [if_pos x1, x2]
      · rw [if_neg fun q => by rw [x1] at q; exact absurd q.1 (by decide)]; exact W5
    · refine ⟨by rw [x3]; unfold cm_i; omega, kI_mk ⟨U5, Or.inl ⟨all, ?_, ?_⟩⟩⟩
      · unfold aPoly
        rw [if_neg (by rw [x1]; simp), if_pos x2, x3]
        rfl
      · rw [if_neg fun q => x2 q.2]; exact W5
    · exact absurd x3 n0
end WC7
