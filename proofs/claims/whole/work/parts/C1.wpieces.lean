/-! the bases stand while the search goes on; the pieces that are chosen -/
def sL : List Nat := [63, 65, 185, 186, 187, 188, 190, 191, 192, 194, 196]
theorem gI_sL : ∀ k, k < 97 → gI k ∉ sL := by decide
theorem gw_sL {z : cm_Z} (hg : gw z) {k : Nat} (hk : k < 97) : gR z k ∉ sL := by
  rcases (hg.2.1 k hk).1 with e | e
  · rw [e]; exact gI_sL k hk
  · intro m
    have : ∀ x, x ∈ sL → x < 248 := by decide
    have := this _ m
    omega
theorem gw_64 {z : cm_Z} (hg : gw z) {c : Nat} (h : c < 248) (h' : c ≠ 64) : c ≠ z.1 63 2 := by
  have e0 : gR z 0 = z.1 63 2 := rfl
  have e1 : gI 0 = 64 := by decide
  rcases (hg.2.1 0 (by decide)).1 with e | e
  · omega
  · omega
section WPC
variable {d : Nat} {z z1 : cm_Z} {I I1 : cm_I} {D : Int} {sh mb : Nat} {T : Nat → cMat} {nt n : Nat} {L : Nat → cMat}
theorem bsE_fr (h : bsE D sh mb T nt n L z I) (hz1 : wz z1) (hg1 : gw z1) {l : List Nat} (hzg : zg l z z1) (l1 : 1 ∉ l) (l53 : 53 ∉ l) (l66 : 66 ∉ l) (hgr : ∀ k', k' < 97 → k' ≠ 0 → gR z1 k' = gR z k') (ok1 : okR (I1 (z1.1 63 2))) (hf : ∀ c, c < zN z → c ∉ sL → c ≠ z.1 63 2 → I1 c = I c) : bsE D sh mb T nt n L z1 I1 := by
  obtain ⟨h1, h2, h3, h4, h5, h6, h7, h8, h9⟩ := h
  have hz := h1.1
  have w6 : 248 ≤ zN z := hz.2.2.2.2.2
  have low : ∀ c, c < 185 → c ∉ [63, 64, 65] → I1 c = I c := fun c hc hn => by
    simp at hn
    exact hf c (by omega) (by simp [sL]; omega) (gw_64 h2 (by omega) hn.2.1)
  have z66 : z1.1 66 = z.1 66 := hzg.1 66 (by omega) l66
  refine ⟨mvE_keep h1 hz1 (hzg.1 1 (by omega) l1) (hzg.1 53 (by omega) l53) (fun c c1 c2 => low c (by omega) (by simp; omega)) ?_, hg1, h3, by rw [z66]; exact h4, by rw [z66]; exact h5, by rw [low 69 (by decide) (by decide)]; exact h6, ok1, by rw [low 67 (by decide) (by decide)]; exact h8, fun t t15 => ?_⟩
  · have := h1.2.2.2.2.2.2.2.2.2.2
    unfold mvO at this ⊢
    rw [low 54 (by decide) (by decide), low 58 (by decide) (by decide), low 59 (by decide) (by decide), low 60 (by decide) (by decide)]
    exact this
  · have row : ∀ j, j < 2 → gG z1 t j = gG z t j ∧ z1.2.1 (gG z t j) = z.2.1 (gG z t j) ∧ I1 (gG z t j) = I (gG z t j) := by
      intro j hj
      have cj : 1 + 6 * t + j < 97 := by omega
      have lt : gG z t j < zN z := (h2.2.1 _ cj).2.1
      exact ⟨hgr _ cj (by omega), hzg.2.1 _ lt, hf _ lt (gw_sL h2 cj) (h2.2.2.1 _ 0 cj (by decide) (by omega))⟩
    obtain ⟨r1, r2, r3⟩ := row 0 (by decide)
    obtain ⟨s1, s2, s3⟩ := row 1 (by decide)
    have ia : I1 (73 + 7 * t) = I (73 + 7 * t) := low _ (by omega) (by simp; omega)
    exact bsG_fr (h9 t t15) r1 s1 r2 s2 r3 s3 fun j _ _ => by rw [ia]
/-- the bases, by choice -/
theorem bsE_bs (h : bsE D sh mb T nt n L z I) {t : Nat} (t15 : t < 16) : isBs D T nt t (bsRows D T nt t) (bsX D T nt t).2 ∧ I 67 (t : Int) = (bsRows D T nt t : Int) := by
  obtain ⟨R, B, hB, e⟩ := h.2.2.2.2.2.2.2.1 t t15
  obtain ⟨x, y, _⟩ := bsX_ok hB
  refine ⟨x, ?_⟩
  show _ = (((bsX D T nt t).1 : Nat) : Int)
  rw [y]; exact e
theorem gd_get (h : bsE D sh mb T nt n L z I) {t : Nat} (t15 : t < 16) (b : I (73 + 7 * t) 1 = 1) : I (73 + 7 * t) 0 = (t : Int) ∧ I (73 + 7 * t) 2 = mMany D t ∧ I (73 + 7 * t) 3 = (bsRows D T nt t : Int) ∧ bsRows D T nt t ≤ (mMany D t).toNat ∧ mMany D t * (bsRows D T nt t : Int) ≤ z.2.1 (gG z t 0) ∧ (bsRows D T nt t : Int) ≤ z.2.1 (gG z t 1) ∧ okR (I (gG z t 0)) ∧ (∀ i k : Nat, i < bsRows D T nt t → k < (mMany D t).toNat → I (gG z t 0) (mMany D t * i + k) = fi ((bsX D T nt t).2 i k)) ∧ ∃ hd, isRB (mMany D t).toNat (bsRows D T nt t) hd (bsX D T nt t).2 (iV D T nt t) ∧ ∀ s : Nat, s < bsRows D T nt t → I (gG z t 1) (s : Int) = hd s := by
  have hD := shOk_D h.1.2.1
  have mN := mMany_136 hD (t := t) (by omega)
  obtain ⟨g1, g2, g3⟩ := h.2.2.2.2.2.2.2.2 t t15
  rcases g3 with g3 | ⟨_, N, R, a1, a2, a3, a4, a5, a6, hd, a7, a8⟩
  · rw [b] at g3; exact absurd g3 (by decide)
  have NI : mMany D t = (N : Int) := by omega
  rw [a1] at a7
  obtain ⟨x, y, w⟩ := bsX_ok ⟨hd, a7⟩
  have yR : bsRows D T nt t = R := y
  rw [yR, NI, Int.toNat_natCast]
  rw [← a1] at a7 w
  refine ⟨g1, a2, a3, RB_le a7, a4, a5, a6, fun i k hi hk => ?_, hd, ?_, a8⟩
  · rw [w i hi k hk, fi_toF]
    have := a6 ((N : Int) * i + k)
    omega
  · exact rb_cong a1 a7 fun s k hs hk => w s hs k hk
/-- piece w is the e-th of those that may be primary -/
def pcC (D : Int) (T : Nat → cMat) (nt : Nat) (z : cm_Z) (J : cm_I) (w e : Nat) : Prop := z.1 (192 + 2 * w) 0 = gG z (cnd D T nt e).1.toNat 0 ∧ J (192 + 2 * w) 1 = mMany D (cnd D T nt e).1 * ((cnd D T nt e).2 : Int) ∧ J (192 + 2 * w) 2 = (cnd D T nt e).1 ∧ J 190 (w : Int) = (cnd D T nt e).1 ∧ J 191 (w : Int) = ((cnd D T nt e).2 : Int)
theorem cnd_bd {e : Nat} (he : e < cndN D T nt) : 1 ≤ (cnd D T nt e).1 ∧ (cnd D T nt e).1 ≤ 6 ∧ (cnd D T nt e).2 < bsRows D T nt (cnd D T nt e).1 := by
  obtain ⟨a, b, c⟩ := cDR_bd (bsRows D T nt) 6 1 e he
  exact ⟨a, by show (cDR (bsRows D T nt) 6 1 e).1 ≤ 6; omega, c⟩
theorem cnd_room (h : bsE D sh mb T nt n L z I) (hb : ∀ t, 1 ≤ t → t ≤ 6 → I (73 + 7 * t) 1 = 1) {e : Nat} (he : e < cndN D T nt) : mMany D (cnd D T nt e).1 * ((cnd D T nt e).2 : Int) + mMany D (cnd D T nt e).1 ≤ z.2.1 (gG z (cnd D T nt e).1.toNat 0) ∧ 0 ≤ mMany D (cnd D T nt e).1 * ((cnd D T nt e).2 : Int) ∧ z.2.1 (gG z (cnd D T nt e).1.toNat 0) ≤ 23409 := by
  obtain ⟨c1, c2, c3⟩ := cnd_bd he
  have hD := shOk_D h.1.2.1
  obtain ⟨g, hg⟩ : ∃ g : Nat, (g : Int) = (cnd D T nt e).1 := ⟨(cnd D T nt e).1.toNat, by omega⟩
  rw [← hg] at c1 c2 c3 ⊢
  obtain ⟨_, _, _, _, a5, _⟩ := gd_get h (t := g) (by omega) (hb g (by omega) (by omega))
  rw [Int.toNat_natCast]
  have mN := mMany_136 hD (t := g) (by omega)
  refine ⟨Int.le_trans ?_ a5, Int.mul_nonneg (by omega) (by omega), (h.2.1.2.1 _ (by omega)).2.2.2⟩
  rw [show mMany D g * ((cnd D T nt e).2 : Int) + mMany D g = mMany D g * (((cnd D T nt e).2 : Int) + 1) by rw [Int.mul_add, Int.mul_one]]
  exact Int.mul_le_mul_of_nonneg_left (by omega) (by omega)
theorem pcO_of (h : bsE D sh mb T nt n L z I) (hb : ∀ t, 1 ≤ t → t ≤ 6 → I (73 + 7 * t) 1 = 1) {w e : Nat} (he : e < cndN D T nt) (hp : pcC D T nt z I w e) : pcO D z I w (cndP D T nt e) (cnd D T nt e).1 := by
  obtain ⟨c1, c2, c3⟩ := cnd_bd he
  obtain ⟨r1, r2, r3⟩ := cnd_room h hb he
  obtain ⟨p1, p2, p3, p4, p5⟩ := hp
  have hD := shOk_D h.1.2.1
  have hg := h.2.1
  unfold cndP
  generalize (cnd D T nt e).2 = ρ at *
  obtain ⟨g, hgg⟩ : ∃ g : Nat, (g : Int) = (cnd D T nt e).1 := ⟨(cnd D T nt e).1.toNat, by omega⟩
  rw [← hgg] at c1 c2 c3 r1 r2 r3 p1 p2 p3 p4 ⊢
  rw [Int.toNat_natCast] at p1 r1 r3
  obtain ⟨_, _, _, _, _, _, a7, a8, _⟩ := gd_get h (t := g) (by omega) (hb g (by omega) (by omega))
  have ck : 1 + 6 * g + 0 < 97 := by omega
  obtain ⟨b1, b2, b3, b4, b5, b6⟩ := from_bds hD (t := (g : Int)) (by omega) (by omega)
  have nL : gG z g 0 ∉ sL := gw_sL hg ck
  refine ⟨gG z g 0, _, p1, gw_pos hg ck, (hg.2.1 _ ck).2.1, nin_sub nL (by simp [sL]), hg.2.2.1 _ 0 ck (by decide) (by omega), p2, p3, c1, by omega, r2, by omega, by rw [fF_many]; exact r1, fun k k0 k1 => ?_⟩
  rw [fF_many] at k1
  have e1 : bRow D g ((bsX D T nt g).2 ρ) (mFrom D g + k) = fi ((bsX D T nt g).2 ρ k.toNat) := by
    unfold bRow
    rw [if_pos ⟨by omega, by omega⟩, show (mFrom D g + k - mFrom D g).toNat = k.toNat by omega]
  rw [e1]
  have := a8 ρ k.toNat c3 (by omega)
  rw [show ((k.toNat : Nat) : Int) = k by omega] at this
  exact ⟨this, (fi_bd _).1, (fi_bd _).2⟩
end WPC
