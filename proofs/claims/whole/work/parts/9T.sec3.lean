/-! THE REFERENCE finds the secondary ones -/
section SL
variable {d : Nat} {z : cm_Z} {D : Int} {T : Nat → cMat} {nt n : Nat} {L : Nat → cMat} {v : Nat → Int → Int} {dg : Nat → Int} {I : cm_I}
/-- products are laid and reduced -/
theorem prS_sl {l : List (Int × Nat)} {t : Int} {eta : Int → Int → Int} {v0 v1 v2 : Int → Int} {J J1 : cm_I} {X : List tup4} (h : slSt D T nt l I J) (p : prS t eta v0 v1 v2 J J1 X) : slSt D T nt l I J1 := by
  obtain ⟨⟨h1, h2, h3, h4⟩, h5, h6, h7, h8⟩ := h
  obtain ⟨p1, p2, p3, p4, p5⟩ := p
  have s9 : ∀ s, s ≠ 53 → J1 209 s = J 209 s := fun s hs => by rw [p2]; exact if_neg hs
  refine ⟨⟨fr_trans h1 (fr_mono p1 (by decide)), fun s a b c => by rw [s9 s c]; exact h2 s a b c, p3, p4⟩, bsOk_fr h5 p1 (by decide) (by decide) (by decide) (s9 1 (by decide)) (s9 37 (by decide)) p4, by rw [s9 37 (by decide)]; exact h6, ?_, by rw [p1 224 (by decide)]; exact h8⟩
  unfold seSt at h7 ⊢
  rw [s9 50 (by decide), p1 239 (by decide), p1 240 (by decide)]
  exact h7
theorem prS_vec (S : sx_S D T nt n L v dg) {l : List (Int × Nat)} (hl : sx_L D T nt l) {J J1 : cm_I} (eD : J 209 1 = D) (hS : seSt l J) {t : Nat} (t1 : t ≤ 15) (p : prS t (prE T nt J) (v 0) (v 1) (v 2) J J1 (sx_X D dg l t)) {i c : Nat} (hi : i < (sx_X D dg l t).length) (hc : c < (mMany D t).toNat) : mx (J1 226) i c = sx_w D T nt v dg l t i c := by
  have fb := from_bds S.1 (t := (t : Int)) (by omega) (by omega)
  obtain ⟨x1, x2⟩ := sx_at4_mem hi
  have := (p.2.2.2.2 i _ x2).2.2.2.2 (c : Int) (by omega) (by omega)
  unfold mx sx_w
  rw [this, eD, if_pos (by omega), prX_vec S eD hl hS t1 x1 hc]
theorem s_ls13 (hz : mz z) {Q : cm_Q} (S : sx_S D T nt n L v dg) (eD : I 209 1 = D) (hm : mMon I) (hP : prSt D v dg I) (H : ∀ J : cm_I, slSt D T nt (seAll D T nt v dg 16) I J → Q none (J, z)) : ∀ (k t : Nat) (J : cm_I) (z2 z3 z4 z5 : Option cm_V), t + k = 16 → slSt D T nt (seAll D T nt v dg t) I J → cw (d + 6) cd_Model_laysSecondary Q 13 [some (vR 12 209), some (vI (t : Int)), z2, z3, z4, z5] [] (J, z) := by
  subst eD
  have hD := S.1
  intro k
  induction k with
  | zero =>
    intro t J z2 z3 z4 z5 et hS
    rw [show t = 16 by omega] at hS ⊢
    exact mr_laysSecondary_13 hz ⟨fun _ => H J hS, fun q => absurd q (by omega)⟩
  | succ k ih =>
    intro t J z2 z3 z4 z5 et hS
    have t1 : t ≤ 15 := by omega
    have fb := from_bds hD (t := (t : Int)) (by omega) (by omega)
    have ok := seAll_ok (D := I 209 1) (T := T) (nt := nt) (v := v) (dg := dg) t (by omega)
    have l216 := sx_216 S (by omega) ok.1 ok.2
    have e1 := slSt_D hS
    have xl := sx_len S ok.1.1 (sx_hE S (by omega) ok.1 ok.2) t1
    refine mr_laysSecondary_13 hz ⟨fun q => by omega, fun _ => ?_⟩
    refine mI_mono (s_many (d := d + 5) hz (by omega) (by omega)) fun v2 J1 ⟨g1, g2⟩ => ?_
    subst g1
    rw [e1] at g2
    subst g2
    have hPJ := slSt_pr hS hP
    have tj := tJ_X S hPJ hS.2.2.2.1 (t : Int)
    have prb := prB_of S e1 (slSt_mon hS hm) hPJ hS.2.1 hS.2.2.1 ok.1.1 (by omega) hS.2.2.2.1
    have sp := s_laysProducts (d := d) hz prb hS.1.2.2.1 hS.1.2.2.2 (t := (t : Int)) (by omega) (by omega) (by rw [e1, tj]; omega)
    rw [e1, tj] at sp
    refine mU_mono sp fun J2 p2 => ?_
    have hS2 := prS_sl hS p2
    have m53 : J2 209 53 = ((sx_X (I 209 1) dg (seAll (I 209 1) T nt v dg t) t).length : Int) := by rw [p2.2.1]; exact if_pos rfl
    have st := s_steps (d := d + 4) (I := J2) hz p2.2.2.2.1 (m := (sx_X (I 209 1) dg (seAll (I 209 1) T nt v dg t) t).length) (cols := (mMany (I 209 1) t).toNat) (by omega) (by omega)
    rw [show (((mMany (I 209 1) t).toNat : Nat) : Int) = mMany (I 209 1) t by omega, ← m53] at st
    refine mI_mono st fun r3 J3 h3 => ?_
    obtain ⟨f3, o3, -, done, p, e3, s3, sp3, -⟩ := h3
    subst e3
    have hS3 := slSt_fr hS2 f3 o3
    have n160 : (mMany (I 209 1) t).toNat ≤ 160 := by omega
    refine s_ls43 (d := d + 4) hz S rfl t1 (fun J4 x2 x3 x4 z5 h4 => ih (t + 1) J4 _ _ _ z5 (by omega) h4) (bsRows (I 209 1) T nt t) 0 done J3 z5 (by omega) hS3 ?_
    refine ⟨fun w => ?_, gSt_ind s3, slMx_le (gSt_ind s3)⟩
    rw [sx_span' S (l := seRow (I 209 1) T nt v dg t 0 (seAll (I 209 1) T nt v dg t)) ok.1.1 t1 (sv_zrow hD t1 w), ← inS_short s3.1 (fun q k h1 h2 h3 => s3.2.2.2.2.2.2.2 q k h1 h2 h3)]
    have vec : ∀ i, i < (sx_X (I 209 1) dg (seAll (I 209 1) T nt v dg t) t).length → ∀ c, c < (mMany (I 209 1) t).toNat → mx (J2 226) i c = sx_w (I 209 1) T nt v dg (seAll (I 209 1) T nt v dg t) t i c := fun i hi c hc => prS_vec S ok.1.1 e1 hS.2.2.2.1 t1 p2 hi hc
    constructor
    · intro a
      refine inS_congr (inS_trans a fun i hi => ?_) fun k hk => sv_crow hD t1 w hk
      exact inS_trans (inS_cut n160 (sp3.1 i hi)) fun j hj => inS_congr (inS_row hj) fun k hk => vec j hj k hk
    · intro a
      refine inS_congr (inS_trans a fun i hi => ?_) fun k hk => (sv_crow hD t1 w hk).symm
      refine inS_congr (inS_cut n160 (sp3.2 i hi)) fun k hk => (vec i hi k hk).symm
theorem s_laysSecondary (hz : mz z) (S : sx_S D T nt n L v dg) (eD : I 209 1 = D) (hO : mvOk I) (eT : mTab I = T) (hnt : I 209 9 = nt) (hn4 : nt ≤ 4) (hB : bsOk T nt I) (o14 : okR (I 214) ∧ okR (I 216)) (hP : prSt D v dg I) : mU (d + 7) m_Model_laysSecondary [vR 12 209] z I fun I1 => slSt D T nt (seAll D T nt v dg 16) I I1 := by
  refine mr_laysSecondary hz ?_
  subst eT
  refine mU_mono (s_laysBases (d := d + 1) hz hO hnt hn4 hB (up := 15) (by omega) (by omega)) fun I1 h1 => ?_
  obtain ⟨f1, o4, s9, b1, b2, b3⟩ := h1
  intro I2 e2
  obtain ⟨f2, g2⟩ := fr_eq_iu e2
  have t9 : ∀ s, s ≠ 50 → I2 209 s = I1 209 s := fun s hs => by rw [g2]; exact if_neg hs
  have f12 : fr [209, 224, 226, 227, 228, 229, 230, 231, 232] I I2 := fr_trans f1 (fr_mono f2 (by decide))
  have o26 : okR (I2 226) := by rw [f2 226 (by decide)]; exact b3.2.2.1
  refine s_ls13 hz S eD hO.2.1 hP (fun J hJ => qU_mk hJ) 16 0 I2 none none none none rfl ⟨⟨fr_mono f12 (by decide), fun s a b c => by rw [t9 s b]; exact s9 s a, by rw [f12 214 (by decide), f12 216 (by decide)]; exact o14, o26⟩, bsOk_fr b3 f2 (by decide) (by decide) (by decide) (t9 1 (by decide)) (t9 37 (by decide)) o26, by rw [t9 37 (by decide)]; omega, ⟨?_, fun j hj => absurd hj (Nat.not_lt_zero j)⟩, by rw [f2 224 (by decide)]; exact o4⟩
  rw [g2]
  exact if_pos rfl
end SL
