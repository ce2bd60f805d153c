/-! Bases.build -/
theorem gR_zf {l : List Nat} {z z1 : cm_Z} (h : zf l z z1) {k : Nat} (hl : gO k ∉ l) : gR z1 k = gR z k := by
  unfold gR
  rw [h.1 _ hl]
theorem gw_zf {l : List Nat} {z z1 : cm_Z} (h : zf l z z1) (hl : ∀ k, k < 97 → gO k ∉ l) (h51 : 51 ∉ l) (hg : gw z) : gw z1 := by
  obtain ⟨g0, g1, g2, g3⟩ := hg
  have r : ∀ k, k < 97 → gR z1 k = gR z k := fun k hk => gR_zf h (hl k hk)
  have e51 : z1.1 51 = z.1 51 := h.1 51 h51
  have eN : zN z1 = zN z := by rw [zN, h.2]
  have eL : z1.2.1 = z.2.1 := by rw [h.2]
  refine ⟨by rw [e51, eN]; exact g0, fun k hk => by rw [r k hk, eN, eL]; exact g1 k hk, fun k k' hk hk' ne => by rw [r k hk, r k' hk']; exact g2 k k' hk hk' ne, fun k i hk hi => by rw [e51, r k hk]; exact g3 k i hk hi⟩
theorem us_zf {l : List Nat} {z z1 : cm_Z} (h : zf l z z1) (hl : ∀ k, k < 97 → gO k ∉ l) : us z z1 := by
  have e1 : potC z1 = potC z := psN_congr fun k hk => by
    show ptC _ _ (z1.2.1 (gR z1 k)).toNat = ptC _ _ (z.2.1 (gR z k)).toNat
    rw [gR_zf h (hl k hk), h.2]
  have e2 : potS z1 = potS z := psN_congr fun k hk => by
    show ptS _ _ (z1.2.1 (gR z1 k)).toNat = ptS _ _ (z.2.1 (gR z k)).toNat
    rw [gR_zf h (hl k hk), h.2]
  unfold us
  rw [e1, e2, zC, zS, h.2]
  exact ⟨Nat.le_refl _, Nat.le_refl _⟩
theorem gO_71 : ∀ k, k < 97 → gO k ∉ [71] := by decide
theorem gO_66 : ∀ k, k < 97 → gO k ∉ [66] := by decide
theorem N_eq {D : Int} (hD : D = 2 ∨ D = 3) {t : Nat} (h : t < 16) : (D = 2 ∧ (mMany D (t : Int)).toNat = t + 1) ∨ (D = 3 ∧ (mMany D (t : Int)).toNat = (t + 1) * (t + 2) / 2) := by
  have k2 : ∀ t : Nat, t < 16 → (mMany 2 (t : Int)).toNat = t + 1 := by decide
  have k3 : ∀ t : Nat, t < 16 → (mMany 3 (t : Int)).toNat = (t + 1) * (t + 2) / 2 := by decide
  rcases hD with e | e
  · exact Or.inl ⟨e, by rw [e]; exact k2 t h⟩
  · exact Or.inr ⟨e, by rw [e]; exact k3 t h⟩
/-- a base that stands -/
def gdA (D : Int) (T : Nat → cMat) (nt t : Nat) (z : cm_Z) (J : cm_I) : Prop := ∃ N R : Nat, N = (mMany D t).toNat ∧ J (73 + 7 * t) 2 = (N : Int) ∧ J (73 + 7 * t) 3 = (R : Int) ∧ (N : Int) * R ≤ z.2.1 (gG z t 0) ∧ (R : Int) ≤ z.2.1 (gG z t 1) ∧ gdR D T nt t N R (gG z t 0) (gG z t 1) J
/-- the growing rows are those that were there, or new -/
def grS (z z1 : cm_Z) : Prop := ∀ k, k < 97 → gR z1 k = gR z k ∨ zN z ≤ gR z1 k
theorem grS_refl (z : cm_Z) : grS z z := fun _ _ => Or.inl rfl
/-- what changes when the base of degree t is built -/
def gdP (t : Nat) (z : cm_Z) (I I1 : cm_I) (z1 : cm_Z) : Prop := zg [63, 71, 73 + 7 * t] z z1 ∧ us z z1 ∧ (∀ k', k' < 97 → k' ≠ 0 → k' ≠ 1 + 6 * t + 0 → k' ≠ 1 + 6 * t + 1 → gR z1 k' = gR z k') ∧ (∀ s, s ≠ 4 → s ≠ 5 → z1.1 (73 + 7 * t) s = z.1 (73 + 7 * t) s) ∧ (∀ s, s ≠ 2 → z1.1 63 s = z.1 63 s) ∧ (∀ c, c < zN z → c ∉ bll → c ≠ 71 → c ≠ 73 + 7 * t → c ≠ z.1 63 2 → c ≠ gG z t 0 → c ≠ gG z t 1 → I1 c = I c) ∧ (∀ j, j ≠ 1 → j ≠ 2 → j ≠ 3 → I1 (73 + 7 * t) j = I (73 + 7 * t) j) ∧ grS z z1
section WBU
variable {d : Nat} {z : cm_Z} {I : cm_I} {D : Int} {sh mb : Nat} {T : Nat → cMat} {nt n : Nat} {L : Nat → cMat}
theorem t_build (hE : mvE D sh mb T nt n L z I) (hg : gw z) (hTD : ∀ g, g < nt → isD D (T g)) (y2 : z.1 66 2 = sh) (y3 : z.1 66 3 = mb) {t : Nat} (t15 : t < 16) (ea0 : I (73 + 7 * t) 0 = (t : Int)) {R : Nat} {B : Nat → Nat → cF} (hB : isBs D T nt t R B) (e67 : I 67 (t : Int) = (R : Int)) (e69 : ∀ p : Int, 0 ≤ p → p < 136 → I 69 p = 0) (okq : okR (I (z.1 63 2))) (okr : okR (I (gG z t 0))) : zcU (d + 7) m_Bases_build [vR 0 66, vR 2 (73 + 7 * t)] z I fun I1 z1 => gw z1 ∧ mvE D sh mb T nt n L z1 I1 ∧ okR (I1 (z1.1 63 2)) ∧ I1 (73 + 7 * t) 1 = 1 ∧ gdA D T nt t z1 I1 ∧ gdP t z I I1 z1 := by
  obtain ⟨hz, hS, c3, c4, y0, y1, pm, hM, hdet, hisM, hO⟩ := id hE
  have hD := shOk_D hS
  have hsh := shOk_sh hS
  have hs : sh = 11 ∨ sh = 20 := hsh
  have w6 : 248 ≤ zN z := hz.2.2.2.2.2
  have mN := mMany_136 hD (t := t) (by omega)
  obtain ⟨N, hN⟩ : ∃ N, N = (mMany D t).toNat := ⟨_, rfl⟩
  have NI : mMany D t = (N : Int) := by omega
  obtain ⟨hd, hRB⟩ := id hB
  rw [← hN] at hRB
  have RN : R ≤ N := RB_le hRB
  have hNt := N_eq hD t15
  rw [← hN] at hNt
  have eF : I (sh + 1) ((t : Int) + 1) = (N : Int) := by
    rw [hS.2.2.2.1 _ (by omega) (by omega), fF_many]; exact NI
  have c0 : 1 + 6 * t + 0 < 97 := by omega
  have c1 : 1 + 6 * t + 1 < 97 := by omega
  have z0N : z.1 63 2 < zN z := (hg.2.1 0 (by decide)).2.1
  have rN : gG z t 0 < zN z := (hg.2.1 _ c0).2.1
  have hN1 : gG z t 1 < zN z := (hg.2.1 _ c1).2.1
  have q0a : z.1 63 2 ≠ 73 + 7 * t := gw_gr hg t15 (k := 0) (by decide)
  have q0r : z.1 63 2 ≠ gG z t 0 := hg.2.2.1 0 _ (by decide) c0 (by omega)
  refine wr_Bases_build hz (by omega) y2 hsh ?_
  rw [ea0, eF, e67]
  refine ⟨by unfold cm_i; omega, ⟨by omega, by omega⟩, ⟨by omega, by omega⟩, ?_⟩
  refine zcU_mono (t_beginBase (d := d + 4) hz hg (many := N) (size := R) t15 (by rcases hNt with h | h; exact Or.inl h.2; exact Or.inr h.2) RN okr (fun k hk => gw_gr hg t15 hk)) fun I4 Z5 ⟨a1, a2, a3, a4, a5, a6, a7, a8, a9, a10, a11, a12, a13⟩ => ?_
  have N5 : zN z ≤ zN Z5 := a3.2.2
  have z5 : ∀ c, c < 248 → c ≠ 73 + 7 * t → Z5.1 c = z.1 c := fun c hc hn => a3.1 c (by omega) (by simpa using hn)
  have e5 : Z5.1 63 2 = z.1 63 2 := by rw [z5 63 (by decide) (by omega)]
  have ok5 : okR (I4 (Z5.1 63 2)) := by
    rw [e5, a9 _ z0N q0a]; exact okq
  have body : ∀ x : Int, ((x = 0 ∧ N ≤ 153) ∨ (x = 1 ∧ N ≤ 18)) → cw (d + 6) cd_Bases_build (kU fun I1 z1 => gw z1 ∧ mvE D sh mb T nt n L z1 I1 ∧ okR (I1 (z1.1 63 2)) ∧ I1 (73 + 7 * t) 1 = 1 ∧ gdA D T nt t z1 I1 ∧ gdP t z I I1 z1) 49 [some (vR 0 66), some (vR 2 (73 + 7 * t)), some (vI (t : Int)), some (vI (N : Int)), none, none] [vI x, vI (N : Int), vR 1 63] (I4, Z5) := by
    intro x hx
    refine wr_Bases_build_49 a1 (zcU_mono (t_ecBegin (d := d + 4) a1 a2 hx ok5) fun I5 Z6 ⟨b1, b2, b3, b4, b5, b6, b7, b8, b9, b10⟩ => ⟨b1, ?_⟩)
    refine zcU_mono (t_put (d := d + 5) b1 (by decide) 0 (t : Int)) fun I7 Z7 ⟨p1, p2, p3, p4, p5⟩ => ?_
    have N6 : zN Z5 ≤ zN Z6 := b3.2.2
    have hz7 : wz Z7 := wz_zf b1 p1 fun c m => by rw [List.mem_singleton] at m; rw [m]; decide
    have hg7 : gw Z7 := gw_zf p1 gO_71 (by decide) b2
    have r7 : ∀ k, k < 97 → gR Z7 k = gR Z6 k := fun k hk => gR_zf p1 (gO_71 k hk)
    have L7 : ∀ c, Z7.2.1 c = Z6.2.1 c := fun c => by rw [p1.2]
    have z7 : ∀ c, c < 248 → c ≠ 63 → c ≠ 71 → c ≠ 73 + 7 * t → Z7.1 c = z.1 c := fun c hc h1 h2 h3 => by
      rw [p1.1 c (by simpa using h2), b3.1 c (by omega) (by simpa using h1), z5 c hc h3]
    have G0 : gG Z7 t 0 = gG Z5 t 0 := (r7 _ c0).trans (b5 _ c0 (by omega))
    have G1 : gG Z7 t 1 = gG Z5 t 1 := (r7 _ c1).trans (b5 _ c1 (by omega))
    have E0 : Z7.1 63 2 = Z6.1 63 2 := by rw [p1.1 63 (by decide)]
    have r5N : gG Z5 t 0 < zN Z5 := (a2.2.1 _ c0).2.1
    have h5N : gG Z5 t 1 < zN Z5 := (a2.2.1 _ c1).2.1
    have o7 : ∀ c, c < zN z → c ∉ [63, 65] → c ≠ 71 → c ≠ 73 + 7 * t → I7 c = I c := fun c hc h1 h2 h3 => by
      rw [p3 c (by simpa using h2), b8 c (by omega) h1, a9 c hc h3]
    have oa : I7 (73 + 7 * t) = I4 (73 + 7 * t) := by
      rw [p3 _ (by simp; omega), b8 _ (by omega) (by simp; omega)]
    have g5o := gw_blo a2 c0
    have ok7 : okR (I7 (gG Z5 t 0)) := by
      have e1 : gG Z5 t 0 ∉ blo := g5o.1
      rw [p3 _ (by simp; exact fun m => e1 (by rw [m]; decide)), b8 _ r5N (nin_sub e1 (by simp [blo]))]
      exact a11
    have hE7 : mvE D sh mb T nt n L Z7 I7 := by
      refine mvE_keep hE hz7 (z7 1 (by decide) (by decide) (by decide) (by omega)) (z7 53 (by decide) (by decide) (by decide) (by omega)) (fun c h1 h2 => o7 c (by omega) (by simp; omega) (by omega) (by omega)) ?_
      unfold mvO
      rw [o7 54 (by omega) (by decide) (by decide) (by omega), o7 58 (by omega) (by decide) (by decide) (by omega), o7 59 (by omega) (by decide) (by decide) (by omega), o7 60 (by omega) (by decide) (by decide) (by omega)]
      exact hO
    have hEc : ecS N 0 (fun _ => 0) (Z7.1 63 2) I7 := by
      rw [E0]
      have qo : Z6.1 63 2 ∉ blo := (gw_blo b2 (k := 0) (by decide)).1
      have q71 : Z6.1 63 2 ≠ 71 := fun m => qo (by rw [m]; decide)
      have em : ecM I7 (Z6.1 63 2) N = ecM I5 (Z6.1 63 2) N := by
        funext j k
        show toF (I7 _ _) = toF (I5 _ _)
        rw [p3 _ (by simpa using q71)]
      unfold ecS
      rw [em, p3 63 (by decide), p3 65 (by decide), p3 (Z6.1 63 2) (by simpa using q71)]
      exact b9
    have v2 : I7 (73 + 7 * t) 2 = (N : Int) := by
      rw [oa, a10]
      show (if (2 : Int) = 3 then (R : Int) else if (2 : Int) = 2 then (N : Int) else _) = _
      rw [if_neg (by decide), if_pos rfl]
    have v3 : I7 (73 + 7 * t) 3 = (R : Int) := by
      rw [oa, a10]
      exact if_pos rfl
    have LR : (N : Int) * R ≤ Z7.2.1 (gG Z7 t 0) := by
      rw [G0, L7, b3.2.1 _ r5N]; exact a6
    have LH : (R : Int) ≤ Z7.2.1 (gG Z7 t 1) := by
      rw [G1, L7, b3.2.1 _ h5N]; exact a7
    refine t_bloop (d := d) hE7 hg7 hTD (by rw [z7 66 (by decide) (by decide) (by decide) (by omega)]; exact y3) p2 t15 rfl rfl rfl rfl hN p4 p5 (fun p h0 h1 => by rw [o7 69 (by omega) (by decide) (by decide) (by omega)]; exact e69 p h0 h1) hEc (by rw [E0, L7]; exact b7) v2 v3 LR LH (by rw [G0]; exact ok7) hRB fun I1 ⟨k1, k2, k3, k4, k5⟩ => kU_mk ?_
    have gdo : ∀ k, k < 97 → ∀ c, c ∈ blo → gR Z7 k ≠ c := fun k hk c hc m => (gw_blo hg7 hk).1 (m ▸ hc)
    have big : ∀ k, k < 97 → 48 ≤ gR Z7 k := fun k hk => (gw_blo hg7 hk).2
    have I1c : ∀ c, c < zN z → c ∉ bll → c ≠ 71 → c ≠ 73 + 7 * t → c ≠ Z7.1 63 2 → c ≠ gG Z7 t 0 → c ≠ gG Z7 t 1 → I1 c = I c := fun c hc h1 h2 h3 h4 h5 h6 => by
      rw [k1 c h1 h4 h5 h6 h3, o7 c hc (nin_sub h1 (by simp [bll])) h2 h3]
    refine ⟨hg7, mvE_keep hE7 hz7 rfl rfl (fun c h1 h2 => k1 c (by simp [bll]; omega) (by have := big 0 (by decide); have e : gR Z7 0 = Z7.1 63 2 := rfl; omega) (by have := big _ c0; have e : gR Z7 (1 + 6 * t + 0) = gG Z7 t 0 := rfl; omega) (by have := big _ c1; have e : gR Z7 (1 + 6 * t + 1) = gG Z7 t 1 := rfl; omega) (by omega)) k2, k3, by rw [k4]; exact if_pos rfl, ⟨N, R, hN, ?_, ?_, LR, LH, k5⟩, ?_⟩
    · rw [k4]
      show (if (2 : Int) = 1 then 1 else I7 (73 + 7 * t) 2) = _
      rw [if_neg (by decide)]; exact v2
    · rw [k4]
      show (if (3 : Int) = 1 then 1 else I7 (73 + 7 * t) 3) = _
      rw [if_neg (by decide)]; exact v3
    · refine ⟨zg_trans (zg_trans (zg_mono a3 (by simp)) (zg_mono b3 (by simp))) (zg_mono (zg_zf p1) (by simp)), us_trans (us_trans a5 b6) (us_zf p1 gO_71), fun k' hk n0 n1 n2 => ?_, fun s s4 s5 => ?_, fun s s2 => ?_, fun c hc h1 h2 h3 h4 h5 h6 => ?_, fun j j1 j2 j3 => ?_, fun k hk => ?_⟩
      · rw [r7 k' hk, b5 k' hk n0, a8 k' hk n1 n2]
      · rw [p1.1 _ (by simp; omega), b3.1 _ (by omega) (by simp; omega)]
        exact a4 s s4 s5
      · rw [p1.1 63 (by decide), b4 s s2, z5 63 (by decide) (by omega)]
      · refine I1c c hc h1 h2 h3 ?_ ?_ ?_
        · rw [E0]
          rcases b10 with e | e
          · rw [e, e5]; exact h4
          · omega
        · rw [G0]
          rcases a12 with e | e
          · rw [e]; exact h5
          · omega
        · rw [G1]
          rcases a13 with e | e
          · rw [e]; exact h6
          · omega
      · rw [k4]
        show (if j = 1 then 1 else I7 (73 + 7 * t) j) = _
        rw [if_neg j1, oa, a10]
        show (if j = 3 then (R : Int) else if j = 2 then (N : Int) else I (73 + 7 * t) j) = _
        rw [if_neg j3, if_neg j2]
      · by_cases k0 : k = 0
        · rw [k0]
          show Z7.1 63 2 = z.1 63 2 ∨ zN z ≤ Z7.1 63 2
          rw [E0]
          rcases b10 with e | e
          · rw [e, e5]; exact Or.inl rfl
          · exact Or.inr (by omega)
        · rw [r7 k hk, b5 k hk k0]
          by_cases k1 : k = 1 + 6 * t + 0
          · rw [k1]; exact a12
          · by_cases k2 : k = 1 + 6 * t + 1
            · rw [k2]; exact a13
            · exact Or.inl (a8 k hk k1 k2)
  refine ⟨a1, by rw [z5 66 (by decide) (by omega)]; exact y2, fun w => body 0 (Or.inl ⟨rfl, by omega⟩), fun w => body 1 (Or.inr ⟨rfl, ?_⟩)⟩
  have e : I4 sh 0 = D := by rw [a9 sh (by omega) (by omega)]; exact hS.2.1
  rcases hNt with h | h
  · omega
  · omega
end WBU
