/-! THE REFERENCE rewrites one degree -/
/-- the state in which it rewrites -/
def rwSt (D : Int) (T : Nat → cMat) (nt : Nat) (v : Nat → Int → Int) (dg : Nat → Int) (I : cm_I) : Prop := I 209 1 = D ∧ mMon I ∧ (okR (I 214) ∧ okR (I 216)) ∧ okR (I 226) ∧ bsOk T nt I ∧ 16 ≤ I 209 37 ∧ prSt D v dg I ∧ seSt (seAll D T nt v dg 16) I
def rwFr (I I1 : cm_I) : Prop := fr [209, 214, 216, 226, 227, 241, 242, 243, 244, 246, 247] I I1 ∧ ∀ s, s ≠ 53 → s ≠ 60 → I1 209 s = I 209 s
theorem rwFr_refl (I : cm_I) : rwFr I I := ⟨fr_refl _ _, fun _ _ _ => rfl⟩
theorem rwFr_trans {I I1 I2 : cm_I} (h : rwFr I I1) (h' : rwFr I1 I2) : rwFr I I2 := ⟨fr_trans h.1 h'.1, fun s a b => by rw [h'.2 s a b, h.2 s a b]⟩
theorem rwSt_fr {D : Int} {T : Nat → cMat} {nt : Nat} {v : Nat → Int → Int} {dg : Nat → Int} {I I1 : cm_I} (h : rwSt D T nt v dg I) (f : rwFr I I1) (o4 : okR (I1 214) ∧ okR (I1 216)) (o6 : okR (I1 226)) : rwSt D T nt v dg I1 := by
  obtain ⟨h1, h2, h3, h4, h5, h6, h7, h8⟩ := h
  have e1 := f.2 1 (by decide) (by decide)
  have e37 := f.2 37 (by decide) (by decide)
  refine ⟨by rw [e1]; exact h1, ?_, o4, o6, bsOk_fr h5 f.1 (by decide) (by decide) (by decide) e1 e37 o6, by rw [e37]; exact h6, ?_, ?_⟩
  · unfold mMon at h2 ⊢
    rw [e1, f.1 210 (by decide), f.1 211 (by decide), f.1 212 (by decide)]
    exact h2
  · unfold prSt at h7 ⊢
    rw [f.1 234 (by decide), f.1 236 (by decide)]
    exact h7
  · unfold seSt at h8 ⊢
    rw [f.2 50 (by decide) (by decide), f.1 239 (by decide), f.1 240 (by decide)]
    exact h8
section SD
variable {d : Nat} {z : cm_Z} {D : Int} {T : Nat → cMat} {nt n : Nat} {L : Nat → cMat} {v : Nat → Int → Int} {dg : Nat → Int} {I : cm_I}
theorem s_solvesDegree (hz : mz z) (S : sx_S D T nt n L v dg) (hR : rwSt D T nt v dg I) {a : Nat} (ha : mA a) (a4 : a ≠ 214) (a6 : a ≠ 216) (a26 : a ≠ 226) (a27 : a ≠ 227) (a41 : a ≠ 241) (a42 : a ≠ 242) (a43 : a ≠ 243) (a44 : a ≠ 244) (a47 : a ≠ 247) (a9 : a ≠ 209) (oka : okR (I a)) {x : Int} (x0 : 0 ≤ x) (x1 : x + 1140 ≤ mLen a) (x2 : x ≤ 1000000) {f : Int → Int} (hf : isRow (I a) x f) {q : tup4 → cF} (hq : rwK D T nt v dg (seAll D T nt v dg 16) f q) {t : Nat} (t1 : t ≤ 15) {F : List (tup4 × Int)} (bd : F.length + (mMany D t).toNat ≤ 816) (hF : fdSt 246 F I) (h60 : I 209 60 = (F.length : Int)) : mU (d + 7) m_Model_solvesDegree [vR 12 209, vR 20 a, vI x, vI (t : Int)] z I fun I1 => rwFr I I1 ∧ (okR (I1 214) ∧ okR (I1 216)) ∧ okR (I1 226) ∧ fdSt 246 (F ++ rwL q (sx_X D dg (seAll D T nt v dg 16) t)) I1 ∧ I1 209 60 = ((F ++ rwL q (sx_X D dg (seAll D T nt v dg 16) t)).length : Int) := by
  obtain ⟨eD, r2, r3, r4, r5, r6, r7, r8⟩ := hR
  subst eD
  have hD := S.1
  have fb := from_bds hD (t := (t : Int)) (by omega) (by omega)
  have ok := seAll_ok (D := I 209 1) (T := T) (nt := nt) (v := v) (dg := dg) 16 (Nat.le_refl _)
  have hE := sx_hE S (Nat.le_refl 16) ok.1 ok.2
  have l216 := sx_216 S (Nat.le_refl 16) ok.1 ok.2
  have xl := sx_len S ok.1.1 hE t1
  generalize hl : seAll (I 209 1) T nt v dg 16 = l at *
  have en : mMany (I 209 1) t = (((mMany (I 209 1) t).toNat : Nat) : Int) := by omega
  refine mr_solvesDegree hz (mI_mono (s_many (d := d + 5) hz (by omega) (by omega)) fun v2 I1 ⟨g1, g2⟩ => ?_)
  subst g1
  rw [en] at g2
  subst g2
  have tj := tJ_X S r7 r8 (t : Int)
  have prb := prB_of S rfl r2 r7 r5 r6 ok.1.1 (by omega) r8
  have sp := s_laysProducts (d := d) hz prb r3 r4 (t := (t : Int)) (by omega) (by omega) (by rw [tj]; omega)
  rw [tj] at sp
  refine mU_mono sp fun J2 p2 => ?_
  obtain ⟨pf, p9, po4, po6, pp⟩ := id p2
  have s9 : ∀ s, s ≠ 53 → J2 209 s = I1 209 s := fun s hs => by rw [p9]; exact if_neg hs
  have m53 : J2 209 53 = ((sx_X (I1 209 1) dg l t).length : Int) := by rw [p9]; exact if_pos rfl
  have vec : ∀ i, i < (sx_X (I1 209 1) dg l t).length → ∀ c, c < (mMany (I1 209 1) t).toNat → mx (J2 226) i c = sx_w (I1 209 1) T nt v dg l t i c := fun i hi c hc => prS_vec S ok.1.1 rfl r8 t1 p2 hi hc
  refine s_sd15 hz (n := (mMany (I1 209 1) t).toNat) (m := (sx_X (I1 209 1) dg l t).length) (by omega) (by omega) m53 (fun J3 z6 z7 z8 z9 f3 c3 => ?_) none none none none
  have D3 : J3 209 1 = I1 209 1 := by rw [f3 209 (by decide), s9 1 (by decide)]
  have a3 : J3 a = I1 a := by rw [f3 a (by simp [a47]), pf a (by simp [a9, a4, a6, a26, a41, a42, a43, a44])]
  refine s_sd76 (d := d + 5) hz ha a26 (n := (mMany (I1 209 1) t).toNat) (m := (sx_X (I1 209 1) dg l t).length) (by omega) (by omega) (by rw [f3 209 (by decide)]; exact m53) (by omega) (by omega) x0 x2 (by rw [D3]; omega) (by rw [D3]; omega) (by rw [D3]; omega) (by rw [f3 226 (by decide)]; exact po6) (by rw [a3]; exact oka) (fun p k hp hk => by rw [c3 p k hp hk]; exact po6 _) (fun J4 z6 z7 z8 z9 f4 o4 c4 => ?_) z6 z7 z8 z9
  refine mr_solvesDegree_76 hz ⟨fun _ => ?_, fun w => by omega⟩
  have m53' : J4 209 53 = ((sx_X (I1 209 1) dg l t).length : Int) := by rw [f4 209 (by decide), f3 209 (by decide)]; exact m53
  have st := s_steps (d := d + 4) (I := J4) hz o4 (m := (mMany (I1 209 1) t).toNat) (cols := (sx_X (I1 209 1) dg l t).length) (by omega) (by omega)
  rw [← m53'] at st
  refine mI_mono st fun r5' J5 h5 => ?_
  obtain ⟨f5, o5, -, done, p, e5, s5, sp5, pv5⟩ := h5
  subst e5
  have A1 : ∀ k, k < (mMany (I1 209 1) t).toNat → ∀ c, c < (sx_X (I1 209 1) dg l t).length → mx (J4 226) k c = sx_w (I1 209 1) T nt v dg l t c k := by
    intro k hk c hc
    rw [← vec c hc k hk]
    unfold mx
    rw [(c4 k hk).1 c hc, c3 c k hc hk]
  have A2 : ∀ k, k < (mMany (I1 209 1) t).toNat → mx (J4 226) k (sx_X (I1 209 1) dg l t).length = toF (f (mFrom (I1 209 1) t + k)) := by
    intro k hk
    unfold mx
    rw [(c4 k hk).2, a3, D3, show x + mFrom (I1 209 1) (t : Int) + (k : Int) = x + (mFrom (I1 209 1) (t : Int) + k) by omega, hf _ (by omega) (by omega)]
  have sol := solve_at (by omega) s5 sp5 (fun c hc => sx_ind S ok.1.1 hE t1 c fun k hk => by
      rw [← hc k hk]
      unfold lc
      exact gs_congr fun i hi => by rw [A1 k hk i hi]; exact el_g4 _ _) (c := fun i => q (sx_at4 (sx_X (I1 209 1) dg l t) i)) (fun k hk => by
      rw [A2 k hk, hq.1 t t1 k hk]
      unfold lc
      exact gs_congr fun i hi => by rw [A1 k hk i hi]; exact el_g4 _ _)
  obtain ⟨dn, sol⟩ := sol
  rw [dn]
  have g35 : fr [226, 227, 247] J2 J5 := fr_trans (fr_mono f3 (by decide)) (fr_trans (fr_mono f4 (by decide)) (fr_mono f5 (by decide)))
  have e9 : J5 209 = J2 209 := g35 209 (by decide)
  have e46 : J5 246 = I1 246 := by rw [g35 246 (by decide), pf 246 (by decide)]
  refine s_sd183 hz (q := q) (X := sx_X (I1 209 1) dg l t) (F := F) (by omega) (by rw [e9]; exact m53) (by omega) (fun i hi => ?_) (fun i hi => ?_) (fun i hi => ?_) (fun J hf' hs' hF' h60' => qU_mk ⟨⟨?_, fun s a b => ?_⟩, ?_, ?_, hF', h60'⟩) (sx_X (I1 209 1) dg l t).length 0 J5 _ _ _ _ _ _ _ (by omega) (fr_refl _ _) (fun _ _ => rfl) (by rw [List.take_zero]; show fdSt 246 (F ++ []) J5; rw [List.append_nil]; exact fdSt_fr hF e46) (by rw [List.take_zero]; show _ = ((F ++ []).length : Int); rw [List.append_nil, e9, s9 60 (by decide)]; exact h60)
  · rw [pv5 i (by omega), (sol i hi).1]
  · have e := (sol i hi).2
    unfold mx at e
    rw [← e, fi_toF]
    have := o5 (160 * (i : Int) + ((sx_X (I1 209 1) dg l t).length : Int))
    omega
  · obtain ⟨b1, b2, b3, b4, -⟩ := pp i _ (sx_at4_mem hi).2
    rw [g35 241 (by decide), g35 242 (by decide), g35 243 (by decide), g35 244 (by decide)]
    exact ⟨b1, b2, b3, b4⟩
  · exact fr_trans (fr_mono pf (by decide)) (fr_trans (fr_mono g35 (by decide)) (fr_mono hf' (by decide)))
  · rw [hs' s b, e9, s9 s a]
  · rw [hf' 214 (by decide), g35 214 (by decide), hf' 216 (by decide), g35 216 (by decide)]; exact po4
  · rw [hf' 226 (by decide)]; exact o5
end SD
