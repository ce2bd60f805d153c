/-! Bases.build: what the rows span -/
section WBP
variable {D : Int} {T : Nat → cMat} {nt n : Nat} {L : Nat → cMat} {t : Int}
theorem iV_cong {u w : Nat → cF} (h : iV D T nt t u) (e : ∀ k, k < (mMany D t).toNat → w k = u k) : iV D T nt t w := by
  intro g hg o ho
  rw [e o ho, ← h g hg o ho]
  exact gs_congr fun k hk => by rw [e k hk]
theorem iV_0 : iV D T nt t (fun _ => 0) := fun g hg o ho => gs_zero fun k _ => gs_z1 _
theorem iV_lc {c : Nat → cF} {M : Nat → Nat → cF} : ∀ {r : Nat}, (∀ i, i < r → iV D T nt t (M i)) → iV D T nt t (lc r c M)
  | 0, _ => iV_0
  | r + 1, h => iV_add (iV_lc fun i hi => h i (by omega)) (iV_smul (c r) (h r (by omega)))
theorem iV_inS {M : Nat → Nat → cF} {r : Nat} {v : Nat → cF} (h : ∀ i, i < r → iV D T nt t (M i)) (hv : inS (mMany D t).toNat r M v) : iV D T nt t v := by
  obtain ⟨c, hc⟩ := hv
  exact iV_cong (iV_lc (c := c) h) hc
/-- a monomial, moved by all members and summed -/
def bP (D : Int) (L : Nat → cMat) (n : Nat) (t : Int) (k : Nat) : Nat → cF := fun o => gs n fun g => imgM D (L g) t k o
theorem bo_g1 {R : Type} [Lean.Grind.CommRing R] {x e w l e' : R} (h : x = e * (w + l)) (h' : e * e' = 1) : w = e' * x + -1 * l := by grind
theorem bo_step {N r q i : Nat} {p : Nat → Nat} {w : Nat → cF} {I I1 : cm_I} (hN : N = (mMany D t).toNat) (hE : ecS N r p q I) (hV : ∀ j, j < r → iV D T nt t (ecM I q N j)) (hs : ∀ k, k < i → inS N r (ecM I q N) (bP D L n t k)) (hw : ∀ k, k < N → w k = bP D L n t i k) (hP : iV D T nt t (bP D L n t i)) (h : inP N r q p w I I1) : ∃ r1 p1, ecS N r1 p1 q I1 ∧ (∀ j, j < r1 → iV D T nt t (ecM I1 q N j)) ∧ ∀ k, k < i + 1 → inS N r1 (ecM I1 q N) (bP D L n t k) := by
  rcases h with ⟨h1, h2, h3⟩ | ⟨c, hc, h1, h2, e, e', l, h3, h4⟩
  · have em : ecM I1 q N = ecM I q N := by
      funext j k
      show toF (I1 q _) = toF (I q _)
      rw [h2]
    refine ⟨r, p, h1, by rw [em]; exact hV, fun k hk => ?_⟩
    rw [em]
    by_cases w' : k = i
    · rw [w']
      exact inS_congr h3 fun k hk => (hw k hk).symm
    · exact hs k (by omega)
  · have old : ∀ j, j < r → inS N (r + 1) (ecM I1 q N) (ecM I q N j) := fun j hj => inS_congr (inS_row (i := j) (by omega)) fun k hk => (h2 j k hj hk).symm
    have hw' : iV D T nt t w := iV_cong hP (by rw [← hN]; exact hw)
    refine ⟨r + 1, _, h1, fun j hj => ?_, fun k hk => ?_⟩
    · by_cases q' : j = r
      · rw [q']
        exact iV_cong (iV_smul e (iV_add hw' (iV_lc (c := l) hV))) (by rw [← hN]; exact h4)
      · exact iV_cong (hV j (by omega)) (by rw [← hN]; exact fun k hk => h2 j k (by omega) hk)
    · by_cases q' : k = i
      · rw [q']
        refine inS_congr (inS_add (inS_smul e' (inS_row (i := r) (by omega))) (inS_smul (-1) (inS_trans (v := lc r l (ecM I q N)) ⟨l, fun _ _ => rfl⟩ old))) fun o ho => ?_
        rw [← hw o ho]
        exact bo_g1 (h4 o ho) h3
      · exact inS_trans (hs k (by omega)) old
theorem bo_end {N r q R i : Nat} {p hd : Nat → Nat} {B : Nat → Nat → cF} {J : cm_I} (hN : N = (mMany D t).toNat) (hD : D = 2 ∨ D = 3) (t0 : 0 ≤ t) (t1 : t ≤ 15) (G : isG T nt n L) (hL : ∀ k, k < n → isD D (L k)) (hTD : ∀ g, g < nt → isD D (T g)) (hB : isRB N R hd B (iV D T nt t)) (hE : ecS N r p q J) (hV : ∀ j, j < r → iV D T nt t (ecM J q N j)) (hs : ∀ k, k < i → inS N r (ecM J q N) (bP D L n t k)) (h : N ≤ i ∨ R ≤ r) : r = R ∧ ∀ v, iV D T nt t v → inS N r (ecM J q N) v := by
  have le : r ≤ R := ind_span (ec_ind hE) fun j hj => rb_in hB (hV j hj)
  rcases h with h | h
  · have all : ∀ v, iV D T nt t v → inS N r (ecM J q N) v := by
      intro v hv
      refine inS_trans (m := N) (w := bP D L n t) ⟨fun k => v k * fInv (toF (n : Int)), fun o ho => ?_⟩ fun k hk => hs k (by omega)
      rw [pj_sum hD t0 t1 G hL hTD hv (by rw [← hN]; exact ho), ← hN]
      exact gs_congr fun k _ => (gs_z5 _ _ _).symm
    have ge : R ≤ r := ind_span (rb_ind hB) fun j hj => all _ (hB.2.2.2.2.2.1 j hj)
    exact ⟨by omega, all⟩
  · have e : r = R := by omega
    refine ⟨e, fun v hv => ?_⟩
    rw [← e] at hB
    exact ind_full (ec_ind hE) (fun j hj => rb_in hB (hV j hj)) (rb_in hB hv)
end WBP
