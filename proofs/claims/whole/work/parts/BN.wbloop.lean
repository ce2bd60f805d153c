/-! Bases.build: the loop, and the rows taken over -/
def bll : List Nat := [53, 54, 55, 56, 57, 58, 59, 60, 63, 65, 70]
def blo : List Nat := [53, 54, 55, 56, 57, 58, 59, 60, 63, 65, 66, 67, 69, 70, 71]
theorem gI_blo : ∀ k, k < 97 → gI k ∉ blo ∧ 48 ≤ gI k := by decide
theorem gw_blo {z : cm_Z} (hg : gw z) {k : Nat} (hk : k < 97) : gR z k ∉ blo ∧ 48 ≤ gR z k := by
  rcases (hg.2.1 k hk).1 with e | e
  · rw [e]; exact gI_blo k hk
  · refine ⟨fun m => ?_, by omega⟩
    have : ∀ x, x ∈ blo → x < 248 := by decide
    have := this _ m
    omega
theorem rb_cong {D : Int} {T : Nat → cMat} {nt : Nat} {t : Int} {N r : Nat} {h : Nat → Nat} {B B' : Nat → Nat → cF} (hN : N = (mMany D t).toNat) (a : isRB N r h B (iV D T nt t)) (e : ∀ s k, s < r → k < N → B' s k = B s k) : isRB N r h B' (iV D T nt t) := by
  obtain ⟨a1, a2, a3, a4, a5, a6, a7⟩ := a
  refine ⟨a1, a2, fun i hi => by rw [e i _ hi (a2 i hi)]; exact a3 i hi, fun i j hi hj ne => by rw [e i _ hi (a2 j hj)]; exact a4 i j hi hj ne, fun i c hi hc => by rw [e i c hi (by have := a2 i hi; omega)]; exact a5 i c hi hc, fun i hi => iV_cong (a6 i hi) (by rw [← hN]; exact fun k hk => e i k hi hk), fun v hv k hk => ?_⟩
  rw [a7 v hv k hk]
  exact gs_congr fun i hi => by rw [e i k hi hk]
/-- the base of a degree stands at the arrays qr (rows) and qh (first columns) -/
def gdR (D : Int) (T : Nat → cMat) (nt : Nat) (t N R qr qh : Nat) (J : cm_I) : Prop := okR (J qr) ∧ ∃ h, isRB N R h (fun s k => toF (J qr ((N : Int) * s + k))) (iV D T nt t) ∧ ∀ s : Nat, s < R → J qh (s : Int) = h s
def blE (D : Int) (T : Nat → cMat) (nt t N R q qr qh a : Nat) (I I1 : cm_I) : Prop := (∀ c, c ∉ bll → c ≠ q → c ≠ qr → c ≠ qh → c ≠ a → I1 c = I c) ∧ mvO I1 ∧ okR (I1 q) ∧ I1 a = (fun j => if j = 1 then 1 else I a j) ∧ gdR D T nt t N R qr qh I1
section WBL
variable {d : Nat} {z : cm_Z} {I : cm_I} {D : Int} {sh mb : Nat} {T : Nat → cMat} {nt n : Nat} {L : Nat → cMat}
theorem t_bloop (hE : mvE D sh mb T nt n L z I) (hg : gw z) (hTD : ∀ g, g < nt → isD D (T g)) (y3 : z.1 66 3 = mb) (y71 : z.1 71 0 = 69) {t N R q qr qh a : Nat} (t15 : t < 16) (ea : a = 73 + 7 * t) (eq : z.1 63 2 = q) (eqr : gG z t 0 = qr) (eqh : gG z t 1 = qh) (hN : N = (mMany D t).toNat) (e1 : I 71 1 = 0) (e2 : I 71 2 = (t : Int)) (e69 : ∀ p : Int, 0 ≤ p → p < 136 → I 69 p = 0) (hEc : ecS N 0 (fun _ => 0) q I) (ql : (N : Int) * N ≤ z.2.1 q) (ea2 : I a 2 = (N : Int)) (ea3 : I a 3 = (R : Int)) (lr : (N : Int) * R ≤ z.2.1 qr) (lh : (R : Int) ≤ z.2.1 qh) (okr : okR (I qr)) {hd : Nat → Nat} {B : Nat → Nat → cF} (hB : isRB N R hd B (iV D T nt t)) {z2 z5 : Option cm_V} {Q : cm_Q} (K : ∀ I1, blE D T nt t N R q qr qh a I I1 → Q none (I1, z)) : cw (d + 6) cd_Bases_build Q 68 [some (vR 0 66), some (vR 2 a), z2, some (vI (N : Int)), some (vI 0), z5] [] (I, z) := by
  obtain ⟨hz, hS, c3, c4, y0, y1, pm, hM, hdet, hisM, hO⟩ := id hE
  obtain ⟨hD, b2, b3, b4, b5, b6, G, b8, Gr, n48, en, b9⟩ := id hM
  have hL := mvE_D hE
  have mN := mMany_136 hD (t := t) (by omega)
  have N153 : N ≤ 153 := by omega
  have NI : (N : Int) = mMany D t := by omega
  have c0 : 1 + 6 * t + 0 < 97 := by omega
  have c1 : 1 + 6 * t + 1 < 97 := by omega
  obtain ⟨w1, w2⟩ := gw_blo hg (k := 0) (by decide)
  have eq' : gR z 0 = q := eq
  rw [eq'] at w1 w2
  obtain ⟨w3, w4⟩ := gw_blo hg c0
  have eqr' : gR z (1 + 6 * t + 0) = qr := eqr
  rw [eqr'] at w3 w4
  obtain ⟨w5, w6⟩ := gw_blo hg c1
  have eqh' : gR z (1 + 6 * t + 1) = qh := eqh
  rw [eqh'] at w5 w6
  have nqr : qr ≠ q := by rw [← eq', ← eqr']; exact hg.2.2.1 _ _ c0 (by decide) (by omega)
  have nqh : qh ≠ q := by rw [← eq', ← eqh']; exact hg.2.2.1 _ _ c1 (by decide) (by omega)
  have nrh : qr ≠ qh := by rw [← eqr', ← eqh']; exact hg.2.2.1 _ _ c0 c1 (by omega)
  have aq : q ≠ a := by rw [← eq', ea]; exact gw_gr hg t15 (by decide)
  have aqr : qr ≠ a := by rw [← eqr', ea]; exact gw_gr hg t15 c0
  have aqh : qh ≠ a := by rw [← eqh', ea]; exact gw_gr hg t15 c1
  have abl : a ∉ blo := by rw [ea]; simp [blo]; omega
  have a4 : z.1 a 4 = qr := by rw [ea, ← gG_4 t15]; exact eqr
  have a5 : z.1 a 5 = qh := by rw [ea, ← gG_5 t15]; exact eqh
  have l70 : z.2.1 70 = 136 := wz_L hz 70 136 rfl (by decide)
  have q2 : q ∉ [63, 65] := nin_sub w1 (by simp [blo])
  -- the end
  have E175 : ∀ (r i : Nat) (p : Nat → Nat) (J : cm_I) (y2 y3 y4 y5 : Option cm_V), (N ≤ i ∨ R ≤ r) → (∀ c, c ∉ bll → c ≠ q → J c = I c) → mvO J → ecS N r p q J → (∀ j, j < r → iV D T nt t (ecM J q N j)) → (∀ k, k < i → inS N r (ecM J q N) (bP D L n t k)) → cw (d + 6) cd_Bases_build Q 175 [some (vR 0 66), some (vR 2 a), y2, y3, y4, y5] [] (J, z) := by
    intro r i p J y2 y3 y4 y5 hst hf hOJ hEJ hV hs
    obtain ⟨er, all⟩ := bo_end hN hD (by omega) (by omega) G hL hTD hB hEJ hV hs hst
    have eJ : J a = I a := hf a (nin_sub abl (by simp [bll, blo])) (Ne.symm aq)
    have eJr : J qr = I qr := hf qr (nin_sub w3 (by simp [bll, blo])) nqr
    refine wr_Bases_build_175 hz (by omega) (mU_mono (t_finish (d := d + 3) hz eq (by omega) N153 q2 hEJ ql) fun I1 ⟨f1, f2, f3, f4⟩ => ?_)
    have hV1 : ∀ j, j < r → iV D T nt t (ecM I1 q N j) := fun j hj => iV_inS hV (by rw [← hN]; exact f3 j hj)
    have hs1 : ∀ v, iV D T nt t v → inS N r (ecM I1 q N) v := fun v hv => inS_trans (all v hv) f4
    have f1a : I1 a = I a := (f1 a (by simpa using Ne.symm aq)).trans eJ
    have f1r : I1 qr = I qr := (f1 qr (by simpa using nqr)).trans eJr
    refine mU_mono (t_takeBase (d := d + 5) hz (by omega) eq a4 a5 (by omega) (by omega) (by omega) (by
      simp
      exact ⟨fun m => w3 (by rw [m]; simp [blo]), fun m => w3 (by rw [m]; simp [blo]), nqr, aqr, nrh⟩) (by
      simp
      exact ⟨fun m => w5 (by rw [m]; simp [blo]), fun m => w5 (by rw [m]; simp [blo]), nqh, aqh, Ne.symm nrh⟩) N153 f2.1 ql (by rw [f1a]; exact ea2) (by rw [f1a, er]; exact ea3) (by rw [er]; exact lr) (by rw [er]; exact lh) (by rw [f1r]; exact okr)) fun I2 ⟨g1, g2, σ, h, g3, g4, g5⟩ I3 e3 => K I3 ?_
    obtain ⟨k1, k2⟩ := fr_eq_iu e3
    have o2 : ∀ c, c ≠ qr → c ≠ qh → I2 c = I1 c := fun c h1 h2 => g1 c (by simp; exact ⟨h1, h2⟩)
    have k3 : ∀ c, c ≠ a → I3 c = I2 c := fun c hc => k1 c (by simpa using hc)
    have out : ∀ c, c ≠ q → c ≠ qr → c ≠ qh → c ≠ a → I3 c = J c := fun c h1 h2 h3 h4 => by rw [k3 c h4, o2 c h2 h3, f1 c (by simpa using h1)]
    have qq : I3 q = I1 q := by rw [k3 q aq, o2 q (Ne.symm nqr) (Ne.symm nqh)]
    have far : ∀ c, c ∈ blo → I3 c = J c := fun c hc => out c (fun m => w1 (m ▸ hc)) (fun m => w3 (m ▸ hc)) (fun m => w5 (m ▸ hc)) (fun m => abl (m ▸ hc))
    have RB := ec_RB f2 hV1 hs1 (σ := σ) (hd := h) (fun i hi => ⟨(g3 i hi).1, (g3 i hi).2.1, (g3 i hi).2.2.1⟩) g4
    rw [er] at RB
    refine ⟨fun c h0 h1 h2 h3 h4 => (out c h1 h2 h3 h4).trans (hf c h0 h1), ?_, ?_, ?_, ?_, h, ?_, fun s hs => ?_⟩
    · unfold mvO
      rw [far 54 (by decide), far 58 (by decide), far 59 (by decide), far 60 (by decide)]
      exact hOJ
    · rw [qq]; exact f2.1.2.2.1
    · rw [k2, o2 a (Ne.symm aqr) (Ne.symm aqh), f1a]
    · rw [k3 qr aqr]; exact g2
    · refine rb_cong hN RB fun s k hs hk => ?_
      show toF (I3 qr _) = toF (I1 q _)
      rw [k3 qr aqr, (g3 s (by omega)).2.2.2.2 k hk]
    · rw [k3 qh aqh]
      exact (g3 s (by omega)).2.2.2.1
  have Lp : ∀ (u i r : Nat) (p : Nat → Nat) (J : cm_I) (y5 : Option cm_V), i + u = N → (∀ c, c ∉ bll → c ≠ q → J c = I c) → mvO J → ecS N r p q J → (∀ j, j < r → iV D T nt t (ecM J q N j)) → (∀ k, k < i → inS N r (ecM J q N) (bP D L n t k)) → cw (d + 6) cd_Bases_build Q 68 [some (vR 0 66), some (vR 2 a), z2, some (vI (N : Int)), some (vI (i : Int)), y5] [] (J, z) := by
    intro u
    induction u with
    | zero =>
      intro i r p J y5 ei hf hOJ hEJ hV hs
      exact wr_Bases_build_68 hz (by omega) ⟨fun _ => E175 r i p J _ _ _ _ (Or.inl (by omega)) hf hOJ hEJ hV hs, fun w => by omega⟩
    | succ u ih =>
      intro i r p J y5 ei hf hOJ hEJ hV hs
      have eJ : J a = I a := hf a (nin_sub abl (by simp [bll, blo])) (Ne.symm aq)
      refine wr_Bases_build_68 hz (by omega) ⟨fun w => by omega, fun _ => ⟨fun w => E175 r i p J _ _ _ _ (Or.inr ?_) hf hOJ hEJ hV hs, fun _ => ?_⟩⟩
      · rw [eJ, ea3, hEJ.2.1] at w
        omega
      refine mU_mono (t_fill (d := d + 5) hz (by decide) l70 (by decide) (by decide)) fun J1 k1 => ⟨⟨by omega, by omega⟩, fun J2 k2 => ?_⟩
      obtain ⟨f1, g1⟩ := fr_eq_iw k1
      obtain ⟨f2, g2⟩ := fr_eq_iu k2
      have o2 : ∀ c, c ≠ 69 → c ≠ 70 → J2 c = J c := fun c h1 h2 => by rw [f2 c (by simpa using h1), f1 c (by simpa using h2)]
      have nq : ∀ x, x ∈ blo → x ≠ q := fun x hx m => w1 (m ▸ hx)
      have i69 : J 69 = I 69 := hf 69 (by decide) (nq 69 (by decide))
      have i71 : J 71 = I 71 := hf 71 (by decide) (nq 71 (by decide))
      have o2q : J2 q = J q := o2 q (Ne.symm (nq 69 (by decide))) (Ne.symm (nq 70 (by decide)))
      have hE2 : mvE D sh mb T nt n L z J2 := by
        refine mvE_keep hE hz rfl rfl (fun c h1 h2 => ?_) ?_
        · rw [o2 c (by omega) (by omega)]
          exact hf c (by simp [bll]; omega) (by omega)
        · unfold mvO
          rw [o2 54 (by decide) (by decide), o2 58 (by decide) (by decide), o2 59 (by decide) (by decide), o2 60 (by decide) (by decide)]
          exact hOJ
      refine t_bsum (d := d) hE2 y3 y71 (t := t) (i := i) (by omega) (by omega) (by rw [o2 71 (by decide) (by decide), i71]; exact e1) (by rw [o2 71 (by decide) (by decide), i71]; exact e2) (fun x h0 h1 => ?_) (fun x h0 h1 => ?_) fun J3 hJ3 J4 k4 => ?_
      · rw [g2, f1 69 (by decide), i69]
        show (if x = (i : Int) then 1 else I 69 x) = _
        rw [e69 x h0 h1]
      · rw [f2 70 (by decide), g1]
        exact if_pos ⟨h0, by omega⟩
      · obtain ⟨f4, g4⟩ := fr_eq_iu k4
        obtain ⟨j1, j2, j3⟩ := hJ3
        have o3 : ∀ c, c ∉ bsl → c ≠ 69 → J4 c = J c := fun c h1 h2 => by
          rw [f4 c (by simpa using h2), j1 c h1, o2 c h2 (fun m => h1 (by rw [m]; decide))]
        have q4 : J4 q = J q := o3 q (nin_sub w1 (by simp [bsl, blo])) (Ne.symm (nq 69 (by decide)))
        have s4 : ∀ x, J4 69 x = I 69 x := fun x => by
          rw [g4]
          show (if x = (i : Int) then 0 else J3 69 x) = _
          rw [j1 69 (by decide), g2]
          show (if x = (i : Int) then 0 else if x = (i : Int) then 1 else J1 69 x) = _
          by_cases w : x = (i : Int)
          · rw [if_pos w, w, e69 _ (by omega) (by omega)]
          · rw [if_neg w, if_neg w, f1 69 (by decide), i69]
        have e70 : J4 70 = J3 70 := f4 70 (by decide)
        have em : ecM J4 q N = ecM J q N := by
          funext j k
          show toF (J4 q _) = toF (J q _)
          rw [q4]
        have hE4 : ecS N r p q J4 := by
          unfold ecS
          rw [em, q4, o3 63 (by decide) (by decide), o3 65 (by decide) (by decide)]
          exact hEJ
        refine mU_mono (t_insert (d := d + 3) hz eq (by omega) N153 q2 hE4 ql (a := 70) (by decide) (by simp; exact nq 70 (by decide)) (by rw [l70]; omega) (fun k h0 h1 => ?_)) fun J5 ⟨m1, m2⟩ => ?_
        · obtain ⟨o, eo⟩ : ∃ o : Nat, (o : Int) = k := ⟨k.toNat, by omega⟩
          rw [e70, ← eo]
          have := j3 o (by omega)
          omega
        · obtain ⟨r1, p1, x1, x2, x3⟩ := bo_step (i := i) (n := n) (L := L) hN hE4 (by rw [em]; exact hV) (by rw [em]; exact hs) (fun k hk => by
            show toF (J4 70 (k : Int)) = gs n fun g => imgM D (L g) t i k
            rw [e70]
            exact (j3 k (by omega)).2.2) (pj_in hD (by omega) (by omega) G Gr hL hTD hisM (by omega)) m2
          have := ih (i + 1) r1 p1 J5 (some (vI (n : Int))) (by omega) (fun c h1 h2 => ?_) ?_ x1 x2 x3
          · exact this
          · have c70 : c ≠ 70 := fun m => h1 (by rw [m]; decide)
            rw [m1 c (by simp; exact ⟨fun m => h1 (by rw [m]; decide), fun m => h1 (by rw [m]; decide), h2, c70⟩)]
            by_cases w : c = 69
            · rw [w]; exact funext s4
            · rw [o3 c (nin_sub h1 (by simp [bll, bsl])) w]
              exact hf c h1 h2
          · have mm : ∀ c, c ∈ [54, 58, 59, 60] → J5 c = J3 c := fun c hc => by
              have cb : ∀ x, x ∈ [54, 58, 59, 60] → x ∈ blo ∧ x ≠ 63 ∧ x ≠ 65 ∧ x ≠ 70 ∧ x ≠ 69 := by decide
              obtain ⟨d1, d2, d3, d4, d5⟩ := cb c hc
              rw [m1 c (by simp; exact ⟨d2, d3, nq c d1, d4⟩), f4 c (by simpa using d5)]
            unfold mvO
            rw [mm 54 (by decide), mm 58 (by decide), mm 59 (by decide), mm 60 (by decide)]
            exact j2
  have := Lp N 0 0 (fun _ => 0) I z5 (by omega) (fun _ _ _ => rfl) hO hEc (fun j hj => absurd hj (by omega)) (fun k hk => absurd hk (by omega))
  exact this
end WBL
