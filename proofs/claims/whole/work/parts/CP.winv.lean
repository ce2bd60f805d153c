/-! THE CLASS between calls: one invariant -/
/-- rows taken: growing ones and those of the reader of polynomials -/
def usW (z z1 : cm_Z) : Prop := zC z1 + (potC z + smC z) ≤ zC z + (potC z1 + smC z1) ∧ zS z1 + (potS z + smS z) ≤ zS z + (potS z1 + smS z1)
theorem usW_refl (z : cm_Z) : usW z z := ⟨Nat.le_refl _, Nat.le_refl _⟩
theorem usW_trans {z z1 z2 : cm_Z} (h : usW z z1) (h' : usW z1 z2) : usW z z2 := by
  obtain ⟨a, b⟩ := h
  obtain ⟨c, e⟩ := h'
  exact ⟨by omega, by omega⟩
def kpW (D : Int) (K : Int → Int → Int) (J : cm_I) : Prop := ∀ i : Int, 0 ≤ i → i < 6 → wRow D (J (4 + i.toNat)) (K i) ∧ vOk D (K i)
def memO (J : cm_I) : Prop := okR (J 30) ∧ okR (J 31) ∧ okR (J 38) ∧ okR (J 40) ∧ okR (J 41) ∧ okR (J 48)
/-- what is rewritten -/
def tdZ (D : Int) (T : Nat → cMat) (nt : Nat) (q : Nat × Nat × Nat) (k : Nat) (rf : Option (Int → Int)) (z : cm_Z) (J : cm_I) : Prop := (rf = none ∧ J 198 7 = -1) ∨ ∃ f, rf = some f ∧ vOk D f ∧ isInv D T nt f ∧ J 198 7 = ((pmF D T nt q f).length : Int) ∧ fcR D T nt (pmV D T nt q) (pmD D T nt q) (rwQ D T nt (pmV D T nt q) (pmD D T nt q) f) (fun t i => lab (J (gG z t 3)) i) k (J 201) ∧ ∀ t : Nat, k ≤ t → t < 16 → ∀ x, pxX D T nt (pmV D T nt q) (pmD D T nt q) t x → rwQ D T nt (pmV D T nt q) (pmD D T nt q) f x = 0
/-- the last product of two that was asked for -/
def rlZ (D : Int) (T : Nat → cMat) (nt : Nat) (q : Nat × Nat × Nat) (k : Nat) (z : cm_Z) (J : cm_I) : Prop := J 198 9 = -1 ∨ ∃ i h : Nat, J 198 9 = (i : Int) ∧ J 198 10 = (h : Int) ∧ i < (pmL D T nt q).length ∧ h < (pmL D T nt q).length ∧ sx_d (pmL D T nt q) i + sx_d (pmL D T nt q) h < k ∧ rlF D T nt (pmV D T nt q) (pmD D T nt q) i h z J
def rwZ (D : Int) (sh mb : Nat) (T : Nat → cMat) (nt n : Nat) (L : Nat → cMat) (rf : Option (Int → Int)) (z : cm_Z) (J : cm_I) : Prop := (rf = none ∧ J 198 3 = 0 ∧ J 198 4 = -1 ∧ J 198 7 = -1 ∧ J 198 9 = -1) ∨ ∃ (q : Nat × Nat × Nat) (k : Nat), pmRes D T nt n = some q ∧ J 185 4 = 1 ∧ rwE D sh mb T nt n L (pmV D T nt q) (pmD D T nt q) k z J ∧ seAll D T nt (pmV D T nt q) (pmD D T nt q) k = pmL D T nt q ∧ tdZ D T nt q k rf z J ∧ rlZ D T nt q k z J
/-- what does not rest on the group -/
def wB (B : Int → Int) (tp : Int) (mb : Nat) (z : cm_Z) (J : cm_I) : Prop := (shOk 2 11 J ∧ shOk 3 20 J) ∧ tpR B J ∧ (J 1 1 = tp ∧ 0 ≤ tp ∧ tp ≤ 400) ∧ z.1 1 8 = 68 - mb ∧ memO J ∧ smV z J ∧ ∀ t, 0 ≤ t → t < 4 → 0 ≤ J 50 t ∧ J 50 t ≤ 400
def wI (D : Int) (T : Nat → cMat) (nt n : Nat) (L : Nat → cMat) (K : Int → Int → Int) (B : Int → Int) (tp : Int) (rf : Option (Int → Int)) (sh mb : Nat) (z : cm_Z) (J : cm_I) : Prop := seE D sh mb T nt n L z J ∧ z.1 198 2 = sh ∧ oT z J ∧ (∀ t, t < nt → isZ D (T t)) ∧ kpW D K J ∧ wB B tp mb z J ∧ rwZ D sh mb T nt n L rf z J
theorem mI_zc {d k : Nat} {as : List cm_V} {z : cm_Z} {I : cm_I} {P : Int → cm_I → Prop} (h : mI d k as z I P) : zcI d k as z I fun r I1 z1 => z1 = z ∧ P r I1 := cm_call_mono h fun _ _ ⟨v, I1, e1, e2, p⟩ => ⟨v, I1, z, e1, e2, rfl, p⟩
theorem mU_zc {d k : Nat} {as : List cm_V} {z : cm_Z} {I : cm_I} {P : cm_I → Prop} (h : mU d k as z I P) : zcU d k as z I fun I1 z1 => z1 = z ∧ P I1 := cm_call_mono h fun _ _ ⟨I1, e1, e2, p⟩ => ⟨I1, z, e1, e2, rfl, p⟩
section WIV
variable {d : Nat} {z z1 : cm_Z} {I I1 : cm_I} {D : Int} {sh mb : Nat} {T : Nat → cMat} {nt n : Nat} {L : Nat → cMat} {K : Int → Int → Int} {B : Int → Int} {tp : Int} {rf : Option (Int → Int)}
/-- the bases stand, though the mover worked -/
theorem bsE_fr3 (h : bsE D sh mb T nt n L z I) (hz1 : wz z1) (hg1 : gw z1) (hS : shOk D sh I1) (hM : ∀ c, 29 ≤ c → c ≤ 47 → I1 c = I c) (hO : mvO I1) (z1e : z1.1 1 = z.1 1) (z53 : z1.1 53 = z.1 53) (z66 : z1.1 66 = z.1 66) (hgr : ∀ t j, t < 16 → j < 2 → gG z1 t j = gG z t j ∧ z1.2.1 (gG z t j) = z.2.1 (gG z t j) ∧ I1 (gG z t j) = I (gG z t j)) (ok1 : okR (I1 (z1.1 63 2))) (e67 : I1 67 = I 67) (e69 : I1 69 = I 69) (hj : ∀ t, t < 16 → ∀ j : Int, 0 ≤ j → j ≤ 3 → I1 (73 + 7 * t) j = I (73 + 7 * t) j) : bsE D sh mb T nt n L z1 I1 := by
  obtain ⟨⟨a1, a2, a3, a4, a5, a6, a7, a8, a9, a10, a11⟩, h2, h3, h4, h5, h6, h7, h8, h9⟩ := h
  have hm : mb = 29 ∨ mb = 39 := a7
  refine ⟨⟨hz1, hS, by rw [z1e]; exact a3, by rw [z1e]; exact a4, by rw [z53]; exact a5, by rw [z53]; exact a6, a7, mbOk_fr a8 (fun c c1 c2 => hM c (by omega) (by omega)), a9, a10, hO⟩, hg1, h3, by rw [z66]; exact h4, by rw [z66]; exact h5, by rw [e69]; exact h6, ok1, by rw [e67]; exact h8, fun t t15 => ?_⟩
  obtain ⟨r1, r2, r3⟩ := hgr t 0 t15 (by decide)
  obtain ⟨s1, s2, s3⟩ := hgr t 1 t15 (by decide)
  exact bsG_fr (h9 t t15) r1 s1 r2 s2 r3 s3 (hj t t15)
def kM : List Nat := [10, 14, 16, 23, 25, 53, 54, 55, 56, 57, 58, 59, 60, 61, 63, 65, 188, 192, 194, 196]
theorem gI_kM : ∀ k, k < 97 → gI k ∉ kM := by decide
theorem gw_kM {z : cm_Z} (hg : gw z) {k : Nat} (hk : k < 97) : gR z k ∉ kM := by
  rcases (hg.2.1 k hk).1 with e | e
  · rw [e]; exact gI_kM k hk
  · intro m
    have : ∀ x, x ∈ kM → x < 248 := by decide
    have := this _ m
    omega
/-- the reader of polynomials is left alone -/
theorem smV_fr {M S : List Nat} (h : smV z I) (hg : gw z) (hw : wF M S z I z1 I1) (e : z1.1 51 = z.1 51) (w6 : 248 ≤ zN z) (hM : ∀ x, x ∈ M → x < 248) : smV z1 I1 := by
  obtain ⟨⟨a1, a2, a3⟩, b, c, f⟩ := hw
  rcases h with ⟨h1, h2⟩ | ⟨h1, h2, h3, h4, ⟨len, h5, h6⟩, h7⟩
  · left
    rw [e]
    exact ⟨h1, by rw [a2 52 (by omega)]; exact h2⟩
  · right
    rw [e]
    have nM : ∀ i : Nat, z.1 51 2 + i ∉ M := fun i m => by have := hM _ m; omega
    refine ⟨h1, by omega, ?_, by rw [a2 _ (by omega)]; exact h4, ⟨len, h5, fun i hi => by rw [a2 _ (by omega)]; exact h6 i hi⟩, fun i hi => ?_⟩
    · unfold isRws at h3 ⊢
      rw [a1 (z.1 51 2) (by omega) (nM 0), a2 _ (by omega)]
      exact h3
    · rw [f _ (by omega) (by rw [show z.1 51 2 + 1 + i = z.1 51 2 + (1 + i) by omega]; exact nM _) fun k hk _ => ?_]
      · exact h7 i hi
      · have := hg.2.2.2 k (1 + i) hk (by omega) h1
        rw [show z.1 51 2 + 1 + i = z.1 51 2 + (1 + i) by omega]
        exact Ne.symm this
theorem smC_fr (hl : ∀ a, a < zN z → z1.2.1 a = z.2.1 a) (e : z1.1 51 = z.1 51) (h : smV z I) : smC z1 = smC z ∧ smS z1 = smS z := by
  unfold smC smS
  rw [e]
  rcases h with ⟨h1, h2⟩ | ⟨h1, h2, h3, h4, ⟨len, h5, h6⟩, h7⟩
  · rw [if_pos h1, if_pos h1, if_pos h1, if_pos h1]
    exact ⟨rfl, rfl⟩
  · rw [hl _ (by omega)]
    exact ⟨rfl, rfl⟩
theorem us_usW (h : us z z1) (hl : ∀ a, a < zN z → z1.2.1 a = z.2.1 a) (e : z1.1 51 = z.1 51) (hv : smV z I) : usW z z1 := by
  obtain ⟨a, b⟩ := h
  obtain ⟨c, f⟩ := smC_fr hl e hv
  unfold usW
  rw [c, f]
  exact ⟨by omega, by omega⟩
theorem wB_fr {mb' : Nat} (h : wB B tp mb' z I) (hV : smV z1 I1) (e1 : z1.1 1 8 = z.1 1 8) (hf : ∀ c, c ≤ 50 → c ∉ [3, 4, 5, 6, 7, 8, 9, 10, 14, 16, 23, 25, 49] → I1 c = I c) : wB B tp mb' z1 I1 := by
  obtain ⟨⟨h1, h2⟩, h3, h4, h5, ⟨o1, o2, o3, o4, o5, o6⟩, _, h8⟩ := h
  refine ⟨⟨shOk_fr h1 (hf _ (by decide) (by decide)) (hf _ (by decide) (by decide)) (hf _ (by decide) (by decide)) (hf _ (by decide) (by decide)) (hf _ (by decide) (by decide)), shOk_fr h2 (hf _ (by decide) (by decide)) (hf _ (by decide) (by decide)) (hf _ (by decide) (by decide)) (hf _ (by decide) (by decide)) (hf _ (by decide) (by decide))⟩, ?_, by rw [hf 1 (by decide) (by decide)]; exact h4, by rw [e1]; exact h5, ⟨by rw [hf 30 (by decide) (by decide)]; exact o1, by rw [hf 31 (by decide) (by decide)]; exact o2, by rw [hf 38 (by decide) (by decide)]; exact o3, by rw [hf 40 (by decide) (by decide)]; exact o4, by rw [hf 41 (by decide) (by decide)]; exact o5, by rw [hf 48 (by decide) (by decide)]; exact o6⟩, hV, by rw [hf 50 (by decide) (by decide)]; exact h8⟩
  unfold tpR
  rw [hf 2 (by decide) (by decide)]
  exact h3
/-- the search and the rewriter stay, if their rows do -/
theorem rwZ_fr (h : rwZ D sh mb T nt n L rf z I) (E1 : bsE D sh mb T nt n L z1 I1) (e198 : z1.1 198 = z.1 198) (hf : ∀ c, c ∈ [185, 190, 191, 198, 199, 200, 201, 202] → I1 c = I c) (hr : ∀ t j, t < 16 → j < 6 → gG z1 t j = gG z t j ∧ z1.2.1 (gG z t j) = z.2.1 (gG z t j) ∧ I1 (gG z t j) = I (gG z t j)) (ho : ∀ t, t < 16 → I1 (73 + 7 * t) = I (73 + 7 * t)) : rwZ D sh mb T nt n L rf z1 I1 := by
  rcases h with h | ⟨q, k, h1, h2, ⟨r1, r2, r3, r4, r5, r6, r7, r8⟩, h4, h5, h6⟩
  · left
    rw [hf 198 (by decide)]
    exact h
  · refine Or.inr ⟨q, k, h1, by rw [hf 185 (by decide)]; exact h2, ⟨E1, by rw [e198]; exact r2, fun τ hτ => ?_, fun t ht => by rw [(hr t 4 ht (by decide)).1, (hr t 4 ht (by decide)).2.2]; exact r4 t ht, r5, by rw [hf 198 (by decide)]; exact r6, ?_, fun t ht => grC_fr (r8 t ht) (fun j _ j6 => hr t j (by omega) j6) (by rw [ho t (by omega)]) (by rw [ho t (by omega)])⟩, h4, ?_, ?_⟩
    · obtain ⟨ρ, q1, q2, q3, q4, q5⟩ := r3 τ hτ
      refine ⟨ρ, by rw [hf 190 (by decide)]; exact q1, by rw [hf 191 (by decide)]; exact q2, q3, q4, ?_⟩
      by_cases w : (pmD D T nt q τ).toNat < 16
      · rw [ho _ w]; exact q5
      · exfalso
        have hD := shOk_D E1.1.2.1
        have : pmD D T nt q τ ≤ 6 ∨ 16 ≤ pmD D T nt q τ := by omega
        rw [pmD_at hτ] at w
        unfold cnd at w
        have bd : ∀ (nn : Nat) (t : Int) (e : Nat), 0 ≤ t → (cDR (bsRows D T nt) nn t e).1 ≤ t + nn := by
          intro nn
          induction nn with
          | zero => intro t e h; show t ≤ t + 0; omega
          | succ nn ih =>
            intro t e h
            show (if e < bsRows D T nt t then (t, e) else cDR (bsRows D T nt) nn (t + 1) (e - bsRows D T nt t)).1 ≤ _
            split
            · show t ≤ _; omega
            · have := ih (t + 1) (e - bsRows D T nt t) (by omega)
              omega
        have := bd 6 1 (sel3n q.1 q.2.1 q.2.2 τ) (by decide)
        omega
    · unfold scK
      rw [hf 198 (by decide), hf 199 (by decide), hf 200 (by decide)]
      exact r7
    · have lb : ∀ t, t < 16 → I1 (gG z1 t 3) = I (gG z t 3) := fun t ht => by rw [(hr t 3 ht (by decide)).1]; exact (hr t 3 ht (by decide)).2.2
      rcases h5 with h5 | ⟨f, f1, f2, f3, f4, f5, f6⟩
      · left; rw [hf 198 (by decide)]; exact h5
      · refine Or.inr ⟨f, f1, f2, f3, by rw [hf 198 (by decide)]; exact f4, ?_, f6⟩
        rw [hf 201 (by decide)]
        refine ⟨fun t ht i hi => ?_, f5.2⟩
        show _ = if i < bsRows D T nt t then fi (rwQ D T nt _ _ f (lab (I1 (gG z1 t 3)) i)) else 0
        rw [lb t (by omega)]
        exact f5.1 t ht i hi
    · rcases h6 with h6 | ⟨i, h', g1, g2, g3, g4, g5, g6⟩
      · left; rw [hf 198 (by decide)]; exact h6
      · refine Or.inr ⟨i, h', by rw [hf 198 (by decide)]; exact g1, by rw [hf 198 (by decide)]; exact g2, g3, g4, g5, ?_⟩
        intro c hc
        rw [hf 202 (by decide), g6 c hc, (hr _ 3 (by
          have : sx_d (pmL D T nt q) i + sx_d (pmL D T nt q) h' < 16 := by omega
          exact this) (by decide)).1, (hr _ 3 (by
          have : sx_d (pmL D T nt q) i + sx_d (pmL D T nt q) h' < 16 := by omega
          exact this) (by decide)).2.2]
/-- the mover, the echelon, the pieces worked -/
theorem wI_kM (h : wI D T nt n L K B tp rf sh mb z I) (hz1 : wz z1) (hg1 : gw z1) (hw : wF kM [0] z I z1 I1) (z53 : z1.1 53 = z.1 53) (hO : mvO I1) (ok1 : okR (I1 (z1.1 63 2))) : wI D T nt n L K B tp rf sh mb z1 I1 ∧ usW z z1 := by
  obtain ⟨⟨hB, y2, e3, alt⟩, y, hT, hZ, hK, hw0, hR⟩ := h
  have hg := hB.2.1
  have w6 : 248 ≤ zN z := hB.1.1.2.2.2.2.2
  obtain ⟨⟨a1, a2, a3⟩, b, c, f⟩ := id hw
  have zc : ∀ x, x < 248 → x ∉ kM → z1.1 x = z.1 x := fun x h1 h2 => a1 x (by omega) h2
  have fx : ∀ x, x < 248 → x ≠ 64 → x ∉ kM → I1 x = I x := fun x h1 h2 h3 => f x (by omega) h3 fun k hk hS => by
    rw [List.mem_singleton.mp hS]
    exact gw_64 hg h1 h2
  have row : ∀ t j, t < 16 → j < 6 → gG z1 t j = gG z t j ∧ z1.2.1 (gG z t j) = z.2.1 (gG z t j) ∧ I1 (gG z t j) = I (gG z t j) := by
    intro t j ht hj
    have kt : 1 + 6 * t + j < 97 := by omega
    have lt : gG z t j < zN z := (hg.2.1 _ kt).2.1
    refine ⟨?_, a2 _ lt, f _ lt (gw_kM hg kt) fun k hk hS => ?_⟩
    · rcases c _ kt with w | ⟨w, _⟩
      · exact w
      · have := List.mem_singleton.mp w; omega
    · rw [List.mem_singleton.mp hS]
      exact gw_ne hg kt (by decide) (by omega)
  have ob : ∀ t, t < 16 → I1 (73 + 7 * t) = I (73 + 7 * t) := fun t ht => f _ (by omega) (by simp [kM]; omega) fun k hk hS => by
    rw [List.mem_singleton.mp hS]
    exact Ne.symm (gw_gr hg ht (by decide))
  have z51 : z1.1 51 = z.1 51 := zc 51 (by decide) (by decide)
  have V1 := smV_fr hw0.2.2.2.2.2.1 hg hw z51 w6 (by decide)
  have W1 : wB B tp mb z1 I1 := wB_fr hw0 V1 (by rw [zc 1 (by decide) (by decide)]) fun x h1 h2 => fx x (by omega) (by omega) (by simp at h2; simp [kM]; omega)
  have S1 : shOk D sh I1 := by
    have hs := hB.1.2.1
    have hsh : sh = 11 ∨ sh = 20 := shOk_sh hs
    refine shOk_fr hs ?_ ?_ ?_ ?_ ?_ <;> (rcases hsh with e | e <;> (rw [e]; exact fx _ (by decide) (by decide) (by decide)))
  have E1 : bsE D sh mb T nt n L z1 I1 := bsE_fr3 hB hz1 hg1 S1 (fun x h1 h2 => fx x (by omega) (by omega) (by simp [kM]; omega)) hO (zc 1 (by decide) (by decide)) z53 (zc 66 (by decide) (by decide)) (fun t j ht hj => row t j ht (by omega)) ok1 (fx 67 (by decide) (by decide) (by decide)) (fx 69 (by decide) (by decide) (by decide)) fun t ht j _ _ => by rw [ob t ht]
  have f185 : I1 185 = I 185 := fx 185 (by decide) (by decide) (by decide)
  refine ⟨⟨⟨E1, by rw [zc 185 (by decide) (by decide)]; exact y2, by rw [f185]; exact e3, ?_⟩, by rw [zc 198 (by decide) (by decide)]; exact y, fun t ht => by rw [(row t 4 ht (by decide)).1, (row t 4 ht (by decide)).2.2]; exact hT t ht, hZ, fun i i0 i1 => ?_, W1, rwZ_fr hR E1 (zc 198 (by decide) (by decide)) (fun x hx => ?_) row ob⟩, us_usW b a2 z51 hw0.2.2.2.2.2.1⟩
  · rw [f185]
    rcases alt with w | ⟨w1, w2⟩
    · exact Or.inl w
    · refine Or.inr ⟨w1, ?_⟩
      unfold pmK at w2 ⊢
      rw [f185, fx 190 (by decide) (by decide) (by decide), fx 191 (by decide) (by decide) (by decide)]
      rcases w2 with w2 | ⟨q, q1, q2, q3, q4, q5⟩
      · exact Or.inl w2
      · exact Or.inr ⟨q, q1, q2, q3, q4, fun t h1 h2 => by rw [ob t (by omega)]; exact q5 t h1 h2⟩
  · have : I1 (4 + i.toNat) = I (4 + i.toNat) := fx _ (by omega) (by omega) (by simp [kM]; omega)
    rw [this]
    exact hK i i0 i1
  · simp at hx
    exact fx x (by omega) (by omega) (by simp [kM]; omega)
end WIV
