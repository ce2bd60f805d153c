/-! PrimarySearch.isSpanning: what the rows span -/
theorem psN_le (f : Nat → Nat) {k : Nat} : ∀ {n : Nat}, k < n → psN f k + f k ≤ psN f n
  | 0, h => absurd h (by omega)
  | n + 1, h => by
    show psN f k + f k ≤ psN f n + f n
    by_cases e : k = n
    · rw [e]; exact Nat.le_refl _
    · have := psN_le f (k := k) (n := n) (by omega)
      omega
section WSN
variable {D : Int} {P : Nat → Int → Int} {dg : Nat → Int} {s : Int}
def unt (i k : Nat) : cF := if k = i then 1 else 0
theorem unt_in {N : Nat} (v : Nat → cF) : inS N N unt v := ⟨v, fun k hk => by
  unfold lc
  rw [gs_one (k := k) hk fun i _ ne => by unfold unt; rw [if_neg (fun e => ne e.symm), gs_z3]]
  unfold unt
  rw [if_pos rfl]
  exact ((el_g4 _ _).trans (gs_z2 _)).symm⟩
theorem unt_ind {N : Nat} : rInd N N unt := by
  intro c hc i hi
  have := hc i hi
  unfold lc at this
  rw [gs_one (k := i) hi fun j _ ne => by unfold unt; rw [if_neg (fun e => ne e.symm), gs_z3]] at this
  unfold unt at this
  rw [if_pos rfl] at this
  rw [← this]
  exact ((el_g4 _ _).trans (gs_z2 _)).symm
theorem all_le {N r : Nat} {M : Nat → Nat → cF} (h : ∀ v, inS N r M v) : N ≤ r := ind_span unt_ind fun i _ => h (unt i)
/-- one product more -/
def snoc (M : Nat → Nat → cF) (r : Nat) (w : Nat → cF) : Nat → Nat → cF := fun i => if i = r then w else M i
theorem snoc_at (M : Nat → Nat → cF) (r : Nat) (w : Nat → cF) : snoc M r w r = w := if_pos rfl
theorem snoc_lt (M : Nat → Nat → cF) {r i : Nat} (w : Nat → cF) (h : i < r) : snoc M r w i = M i := if_neg (by omega)
theorem snoc_in {N r : Nat} {M : Nat → Nat → cF} {w v : Nat → cF} : inS N r (snoc M r w) v ↔ inS N r M v := by
  constructor
  · exact fun h => inS_trans h fun i hi => by rw [snoc_lt M w hi]; exact inS_row hi
  · exact fun h => inS_trans h fun i hi => by rw [← snoc_lt M w hi]; exact inS_row hi
theorem sp_more {i0 m0 r : Nat} {M : Nat → Nat → cF} {w : Nat → cF} (h : ∀ v, inS (mMany D s).toNat r M v ↔ spW D P dg s i0 m0 v) (hw : ∀ j, j < (mMany D s).toNat → w j = wvz D (P i0) (dg i0) s (mFrom D (s - dg i0) + m0) j) (v : Nat → cF) : inS (mMany D s).toNat (r + 1) (snoc M r w) v ↔ spW D P dg s i0 (m0 + 1) v :=
  spW_more (M := snoc M r w) (fun v => snoc_in.trans (h v)) (fun j hj => by rw [snoc_at]; exact hw j hj) v
theorem sp_step {N i0 m0 r q : Nat} {p : Nat → Nat} {w : Nat → cF} {I I1 : cm_I} (hN : N = (mMany D s).toNat) (h : ∀ v, inS N r (ecM I q N) v ↔ spW D P dg s i0 m0 v) (hw : ∀ j, j < N → w j = wvz D (P i0) (dg i0) s (mFrom D (s - dg i0) + m0) j) (hi : inP N r q p w I I1) : ∃ r1 p1, ecS N r1 p1 q I1 ∧ ∀ v, inS N r1 (ecM I1 q N) v ↔ spW D P dg s i0 (m0 + 1) v := by
  have sm := fun v => sp_more (w := w) (by rw [← hN]; exact h) (by rw [← hN]; exact hw) v
  rw [← hN] at sm
  rcases hi with ⟨h1, h2, h3⟩ | ⟨c, hc, h1, h2, e, e', l, h3, h4⟩
  · have em : ecM I1 q N = ecM I q N := by
      funext j k
      show toF (I1 q _) = toF (I q _)
      rw [h2]
    refine ⟨r, p, h1, fun v => ?_⟩
    rw [em, ← sm v]
    constructor
    · exact fun a => inS_mono (by omega) (snoc_in.mpr a)
    · exact fun a => inS_trans a fun i hi => by
        by_cases e : i = r
        · rw [e, snoc_at]; exact h3
        · rw [snoc_lt _ _ (by omega)]; exact inS_row (by omega)
  · have old : ∀ j, j < r → inS N (r + 1) (ecM I1 q N) (ecM I q N j) := fun j hj => inS_congr (inS_row (i := j) (by omega)) fun k hk => (h2 j k hj hk).symm
    have old' : ∀ j, j < r → inS N (r + 1) (snoc (ecM I q N) r w) (ecM I q N j) := fun j hj => by
      have := inS_row (n := N) (m := r + 1) (w := snoc (ecM I q N) r w) (i := j) (by omega)
      rw [snoc_lt _ _ hj] at this
      exact this
    refine ⟨r + 1, _, h1, fun v => ?_⟩
    rw [← sm v]
    constructor
    · exact fun a => inS_trans a fun i hi => by
        by_cases x : i = r
        · rw [x]
          have rw' : inS N (r + 1) (snoc (ecM I q N) r w) w := by
            have := inS_row (n := N) (m := r + 1) (w := snoc (ecM I q N) r w) (i := r) (by omega)
            rw [snoc_at] at this
            exact this
          exact inS_congr (inS_smul e (inS_add rw' (inS_trans (v := lc r l (ecM I q N)) ⟨l, fun _ _ => rfl⟩ old'))) h4
        · exact inS_congr (old' i (by omega)) fun k hk => h2 i k (by omega) hk
    · exact fun a => inS_trans a fun i hi => by
        by_cases x : i = r
        · rw [x, snoc_at]
          refine inS_congr (inS_add (inS_smul e' (inS_row (i := r) (by omega))) (inS_smul (-1) (inS_trans (v := lc r l (ecM I q N)) ⟨l, fun _ _ => rfl⟩ old))) fun o ho => ?_
          exact bo_g1 (h4 o ho) h3
        · rw [snoc_lt _ _ (by omega)]; exact old i (by omega)
/-- what is still to come can add no more than it counts -/
theorem sp_left {N A : Nat} (hN : N = (mMany D s).toNat) (al : ∀ v, spW D P dg s A 0 v) : ∀ (u i0 m0 r : Nat) (M : Nat → Nat → cF), i0 ≤ A → (i0 < A → m0 ≤ (mMany D (s - dg i0)).toNat) → (i0 = A → m0 = 0) → (∀ v, inS N r M v ↔ spW D P dg s i0 m0 v) → psN (fun i => (mMany D (s - dg i)).toNat) i0 + m0 + u = psN (fun i => (mMany D (s - dg i)).toNat) A → N ≤ r + u := by
  have key : ∀ (k u i0 m0 r : Nat) (M : Nat → Nat → cF), i0 + k = A → (i0 < A → m0 ≤ (mMany D (s - dg i0)).toNat) → (i0 = A → m0 = 0) → (∀ v, inS N r M v ↔ spW D P dg s i0 m0 v) → psN (fun i => (mMany D (s - dg i)).toNat) i0 + m0 + u = psN (fun i => (mMany D (s - dg i)).toNat) A → N ≤ r + u := by
    intro k
    induction k with
    | zero =>
      intro u i0 m0 r M ek hm hA h e
      have eA : i0 = A := by omega
      have m0' := hA eA
      rw [eA, m0'] at h
      have := all_le fun v => (h v).mpr (al v)
      omega
    | succ k ih =>
      intro u i0 m0 r M ek hm hA h e
      have lt : i0 < A := by omega
      have inner : ∀ (y u m0 r : Nat) (M : Nat → Nat → cF), m0 + y = (mMany D (s - dg i0)).toNat → (∀ v, inS N r M v ↔ spW D P dg s i0 m0 v) → psN (fun i => (mMany D (s - dg i)).toNat) i0 + m0 + u = psN (fun i => (mMany D (s - dg i)).toNat) A → N ≤ r + u := by
        intro y
        induction y with
        | zero =>
          intro u m0 r M ey h e
          have e0 : m0 = (mMany D (s - dg i0)).toNat := by omega
          rw [e0] at h
          exact ih u (i0 + 1) 0 r M (by omega) (fun _ => by omega) (fun _ => rfl) (fun v => (h v).trans spW_next) (by
            have : psN (fun i => (mMany D (s - dg i)).toNat) (i0 + 1) = psN (fun i => (mMany D (s - dg i)).toNat) i0 + (mMany D (s - dg i0)).toNat := rfl
            omega)
        | succ y ihy =>
          intro u m0 r M ey h e
          have mono : psN (fun i => (mMany D (s - dg i)).toNat) i0 + (mMany D (s - dg i0)).toNat ≤ psN (fun i => (mMany D (s - dg i)).toNat) A := psN_le _ lt
          have := ihy (u - 1) (m0 + 1) (r + 1) (snoc M r fun j => wvz D (P i0) (dg i0) s (mFrom D (s - dg i0) + m0) j) (by omega) (by
            rw [hN] at h ⊢
            exact sp_more h fun _ _ => rfl) (by omega)
          omega
      exact inner ((mMany D (s - dg i0)).toNat - m0) u m0 r M (by have := hm lt; omega) h e
  exact fun u i0 m0 r M hi => key (A - i0) u i0 m0 r M (by omega)
end WSN
