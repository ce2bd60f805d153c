/-! THE SETUP out of the search -/
noncomputable def pmV (D : Int) (T : Nat → cMat) (nt : Nat) (q : Nat × Nat × Nat) (i : Nat) : Int → Int := cndP D T nt (sel3n q.1 q.2.1 q.2.2 i)
noncomputable def pmD (D : Int) (T : Nat → cMat) (nt : Nat) (q : Nat × Nat × Nat) (i : Nat) : Int := if D = 2 ∧ i = 2 then 1 else (cnd D T nt (sel3n q.1 q.2.1 q.2.2 i)).1
theorem pmD_at {D : Int} {T : Nat → cMat} {nt : Nat} {q : Nat × Nat × Nat} {i : Nat} (h : (i : Int) < D) : pmD D T nt q i = (cnd D T nt (sel3n q.1 q.2.1 q.2.2 i)).1 := if_neg fun e => by omega
/-- bases are there -/
theorem bs_ex {z : cm_Z} {I : cm_I} {nt : Nat} (hz : mz z) (hO : mvOk I) (hnt : I 209 9 = nt) (hn4 : nt ≤ 4) (hB : bsOk (mTab I) nt I) : ∀ t, 0 ≤ t → t ≤ 15 → isBs (I 209 1) (mTab I) nt t (bsRows (I 209 1) (mTab I) nt t) (bsX (I 209 1) (mTab I) nt t).2 := by
  intro t t0 t1
  obtain ⟨r, h1, ⟨I1, -, -, p⟩, -⟩ := cm_call_nice 5 _ _ _ _ (s_laysBases (d := 0) hz hO hnt hn4 hB (up := 15) (by omega) (by omega))
  obtain ⟨-, -, s9, -, b2, b3⟩ := p
  have e1 := s9 1 (by decide)
  have := (bs_get (by unfold mD; rw [e1]; exact hO.1) b3 t0 (by omega)).2.2.1
  rw [e1] at this
  exact this
theorem pm_S {D : Int} {T : Nat → cMat} {nt n : Nat} {L : Nat → cMat} (hD : D = 2 ∨ D = 3) (G : isG T nt n L) (hT : ∀ t, t < nt → mDet (T t) ≠ 0) (hZ : ∀ t, t < nt → isZ D (T t)) (hB : ∀ t, 0 ≤ t → t ≤ 15 → isBs D T nt t (bsRows D T nt t) (bsX D T nt t).2) {q : Nat × Nat × Nat} (sy : isSys D T nt q.1 q.2.1 q.2.2) (hi : q.1 < cndN D T nt) (hj : q.2.1 < cndN D T nt) (hk : D = 3 → q.2.2 < cndN D T nt) : sx_S D T nt n L (pmV D T nt q) (pmD D T nt q) := by
  have sl : ∀ v : Nat, (v : Int) < D → sel3n q.1 q.2.1 q.2.2 v < cndN D T nt := by
    intro v hv
    unfold sel3n
    by_cases e0 : v = 0
    · rw [if_pos e0]; exact hi
    · rw [if_neg e0]
      by_cases e1 : v = 1
      · rw [if_pos e1]; exact hj
      · rw [if_neg e1]; exact hk (by omega)
  have info : ∀ v : Nat, (v : Int) < D → 1 ≤ (cnd D T nt (sel3n q.1 q.2.1 q.2.2 v)).1 ∧ (cnd D T nt (sel3n q.1 q.2.1 q.2.2 v)).1 ≤ 6 ∧ (cnd D T nt (sel3n q.1 q.2.1 q.2.2 v)).2 < bsRows D T nt (cnd D T nt (sel3n q.1 q.2.1 q.2.2 v)).1 := by
    intro v hv
    obtain ⟨a, b, c⟩ := cDR_bd (bsRows D T nt) 6 1 (sel3n q.1 q.2.1 q.2.2 v) (sl v hv)
    exact ⟨a, by show (cDR (bsRows D T nt) 6 1 (sel3n q.1 q.2.1 q.2.2 v)).1 ≤ 6; omega, c⟩
  have row : ∀ v : Nat, (v : Int) < D → vOk D (pmV D T nt q v) ∧ mDeg D (pmV D T nt q v) 0 = (cnd D T nt (sel3n q.1 q.2.1 q.2.2 v)).1 ∧ vOne1 D (pmV D T nt q v) ∧ isInv D T nt (pmV D T nt q v) := by
    intro v hv
    obtain ⟨p1, p2, p3⟩ := info v hv
    have b := hB (cnd D T nt (sel3n q.1 q.2.1 q.2.2 v)).1 (by omega) (by omega)
    obtain ⟨kk, hkk, nz⟩ := isBs_nz b p3
    have dg : mDeg D (pmV D T nt q v) 0 = (cnd D T nt (sel3n q.1 q.2.1 q.2.2 v)).1 := mDeg_bRow hD (by omega) (by omega) hkk nz
    refine ⟨vOk_bRow hD (by omega) (by omega) _, dg, fun k k0 k1 => ?_, ?_⟩
    · rw [dg] at k1
      show bRow D _ _ k = 0
      unfold bRow
      rw [if_neg (by omega)]
    · obtain ⟨h, -, -, -, -, -, a6, -⟩ := b
      exact (iV_inv hD (by omega) (by omega) T nt _).mp (a6 _ p3)
  refine ⟨hD, G, hT, hZ, fun i hi => ?_, ?_, ?_, hB⟩
  · obtain ⟨r1, r2, r3, r4⟩ := row i hi
    obtain ⟨p1, p2, p3⟩ := info i hi
    rw [pmD_at hi]
    exact ⟨r1, r2, r3, p1, p2, r4⟩
  · unfold pmD
    by_cases e : D = 2
    · rw [if_pos ⟨e, rfl⟩]; omega
    · rw [if_neg fun h => e h.1]
      exact (info 2 (by omega)).1
  · refine all_sys (P := pmV D T nt q) (dg := fun v => (cnd D T nt (sel3n q.1 q.2.1 q.2.2 v)).1) hD (fun i hi => ?_) ?_ (row 0 (by omega)).1 sy
    · obtain ⟨r1, r2, r3, r4⟩ := row i hi
      obtain ⟨p1, p2, p3⟩ := info i hi
      exact ⟨r2, r3, p1, by show (cnd D T nt (sel3n q.1 q.2.1 q.2.2 i)).1 ≤ 15; omega⟩
    · unfold sDg
      have p0 := info 0 (by omega)
      have p1 := info 1 (by omega)
      rcases hD with e | e
      · rw [e]
        show 1 - 2 + (0 + (cnd 2 T nt (sel3n q.1 q.2.1 q.2.2 0)).1 + (cnd 2 T nt (sel3n q.1 q.2.1 q.2.2 1)).1) ≤ 17
        rw [e] at p0 p1
        omega
      · have p2 := info 2 (by omega)
        rw [e]
        show 1 - 3 + (0 + (cnd 3 T nt (sel3n q.1 q.2.1 q.2.2 0)).1 + (cnd 3 T nt (sel3n q.1 q.2.1 q.2.2 1)).1 + (cnd 3 T nt (sel3n q.1 q.2.1 q.2.2 2)).1) ≤ 17
        rw [e] at p0 p1 p2
        omega
/-! THE REFERENCE finds primary ones -/
/-- what the search finds -/
noncomputable def pmRes (D : Int) (T : Nat → cMat) (nt n : Nat) : Option (Nat × Nat × Nat) := (KP (isSys D T nt) (fun e => (cnd D T nt e).1) D (cndN D T nt) (n : Int) (if D = 2 then 36 else 216) 217 (n : Int) (0, none)).2
/-- the search is done -/
def pmSt (T : Nat → cMat) (nt n : Nat) (I : cm_I) : Prop := (pmRes (I 209 1) T nt n = none ∧ I 209 42 = 0) ∨ ∃ q, pmRes (I 209 1) T nt n = some q ∧ (isSys (I 209 1) T nt q.1 q.2.1 q.2.2 ∧ q.1 < cndN (I 209 1) T nt ∧ q.2.1 < cndN (I 209 1) T nt ∧ (I 209 1 = 3 → q.2.2 < cndN (I 209 1) T nt)) ∧ I 209 42 = 1 ∧ prSt (I 209 1) (pmV (I 209 1) T nt q) (pmD (I 209 1) T nt q) I ∧ (∀ v : Nat, (v : Int) < I 209 1 → I 235 (v : Int) = ((cnd (I 209 1) T nt (sel3n q.1 q.2.1 q.2.2 v)).2 : Int)) ∧ 16 ≤ I 209 37 ∧ seSt (seAll (I 209 1) T nt (pmV (I 209 1) T nt q) (pmD (I 209 1) T nt q) 16) I
def pmOk (T : Nat → cMat) (nt n : Nat) (I : cm_I) : Prop := I 209 41 = 0 ∨ (I 209 41 = 1 ∧ pmSt T nt n I)
/-- what lies about -/
def pmFr (I I1 : cm_I) : Prop := fr [209, 214, 216, 224, 226, 227, 228, 229, 230, 231, 232, 233, 234, 235, 236, 237, 238, 239, 240, 241, 242, 243, 244] I I1 ∧ ∀ s, s ≠ 37 → s ≠ 41 → s ≠ 42 → s ≠ 46 → s ≠ 49 → s ≠ 50 → s ≠ 53 → I1 209 s = I 209 s
theorem pmFr_refl (I : cm_I) : pmFr I I := ⟨fr_refl _ _, fun _ _ _ _ _ _ _ _ => rfl⟩
theorem pmFr_trans {I I1 I2 : cm_I} (h : pmFr I I1) (h' : pmFr I1 I2) : pmFr I I2 := ⟨fr_trans h.1 h'.1, fun s a b c d e f g => by rw [h'.2 s a b c d e f g, h.2 s a b c d e f g]⟩
section MP
variable {d : Nat} {z : cm_Z} {T : Nat → cMat} {nt n : Nat} {L : Nat → cMat} {I : cm_I}
theorem cSum_add (rows : Int → Nat) : ∀ (k : Nat) (t : Int), cSum rows (k + 1) t = cSum rows k t + rows (t + k) := by
  intro k
  induction k with
  | zero => intro t; show rows t + 0 = 0 + rows (t + 0); rw [Int.add_zero]; omega
  | succ k ih =>
    intro t
    show rows t + cSum rows (k + 1) (t + 1) = rows t + cSum rows k (t + 1) + rows (t + ((k + 1 : Nat) : Int))
    rw [ih, show t + 1 + (k : Int) = t + ((k + 1 : Nat) : Int) by omega]
    omega
theorem cDR_at (rows : Int → Nat) : ∀ (k n : Nat) (t : Int) (e : Nat), e < rows (t + k) → k < n → cDR rows n t (cSum rows k t + e) = (t + k, e) := by
  intro k
  induction k with
  | zero =>
    intro n t e he hn
    cases n with
    | zero => omega
    | succ n =>
      show (if cSum rows 0 t + e < rows t then (t, cSum rows 0 t + e) else _) = _
      have : cSum rows 0 t + e = e := by show 0 + e = e; omega
      rw [this]
      rw [show t + ((0 : Nat) : Int) = t by omega] at he ⊢
      rw [if_pos he]
  | succ k ih =>
    intro n t e he hn
    cases n with
    | zero => omega
    | succ n =>
      show (if rows t + cSum rows k (t + 1) + e < rows t then _ else cDR rows n (t + 1) (rows t + cSum rows k (t + 1) + e - rows t)) = _
      rw [if_neg (by omega), show rows t + cSum rows k (t + 1) + e - rows t = cSum rows k (t + 1) + e by omega]
      rw [show t + ((k + 1 : Nat) : Int) = t + 1 + (k : Int) by omega] at he ⊢
      exact ih n (t + 1) e he (by omega)
theorem cSum_mono (rows : Int → Nat) (t : Int) {j k : Nat} (h : j ≤ k) : cSum rows j t ≤ cSum rows k t := by
  induction k with
  | zero => rw [show j = 0 by omega]; exact Nat.le_refl _
  | succ k ih =>
    by_cases e : j = k + 1
    · rw [e]; exact Nat.le_refl _
    · have := ih (by omega)
      rw [cSum_add]; omega
end MP
