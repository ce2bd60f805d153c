/-! PrimarySearch.isSpanning -/
section WSS
variable {d : Nat} {z : cm_Z} {I : cm_I} {D : Int} {sh : Nat}
theorem spI_bd {F : Int → Int} {m x : Int} : ∀ {k : Nat}, (∀ i : Nat, i < k → 0 ≤ F i ∧ F i < 2521) → 0 ≤ spI D F m k x ∧ spI D F m k x ≤ 2520 * k
  | 0, _ => ⟨Int.le_refl 0, Int.le_refl 0⟩
  | k + 1, h => by
    have a := spI_bd (F := F) (m := m) (x := x) (k := k) fun i hi => h i (by omega)
    have b := h k (by omega)
    have e : spI D F m (k + 1) x = spI D F m k x + (if ax D k m = x then F k else 0) := rfl
    rw [e]
    split <;> omega
theorem spI_F {F : Int → Int} {m x : Int} : ∀ {k : Nat}, toF (spI D F m k x) = gs k fun i => if ax D i m = x then toF (F i) else 0
  | 0 => rfl
  | k + 1 => by
    have e : spI D F m (k + 1) x = spI D F m k x + (if ax D k m = x then F k else 0) := rfl
    rw [e, toF_add, spI_F (k := k)]
    show _ = gs k _ + (if ax D k m = x then toF (F k) else 0)
    split <;> rfl
theorem spI_w (hD : D = 2 ∨ D = 3) {P : Int → Int} {F : Int → Int} {p s : Int} {m x : Nat} (p0 : 0 ≤ p) (p15 : p ≤ 15) (t0 : 0 ≤ s - p) (t15 : s - p ≤ 15) (s17 : s ≤ 17) (m1 : (m : Int) < fF D (s - p + 1)) (hF : ∀ k, 0 ≤ k → k < fF D (p + 1) → F k = P (mFrom D p + k)) : toF (spI D F m (fF D (p + 1)).toNat x) = wvz D P p s (mFrom D (s - p) + m) x := by
  rw [spI_F]
  unfold wvz wvn
  rw [fF_many]
  refine gs_congr fun i hi => ?_
  have mn := fF_many D p
  have A := (ax_ok2 hD (i := (i : Int)) (j := (m : Int)) (p := p) (q := s - p) (by omega) (by omega) p0 t0 p15 t15 (by omega) (by omega) m1).1
  rw [show p + (s - p) = s by omega] at A
  rw [A, hF i (by omega) (by omega)]
  by_cases w : ax D i m = x
  · rw [if_pos w, if_pos (by omega)]
  · rw [if_neg w, if_neg (by omega)]
/-- what the answer says, and what changes -/
def spP (D : Int) (P : Nat → Int → Int) (dg : Nat → Int) (z : cm_Z) (I : cm_I) (r : Int) (I1 : cm_I) (z1 : cm_Z) : Prop := wz z1 ∧ gw z1 ∧ zg [63] z z1 ∧ (∀ i, i ≠ 2 → z1.1 63 i = z.1 63 i) ∧ (∀ k', k' < 97 → k' ≠ 0 → gR z1 k' = gR z k') ∧ us z z1 ∧ okR (I1 (z1.1 63 2)) ∧ (∀ c, c < zN z → c ∉ [63, 65, 188] → c ≠ z.1 63 2 → I1 c = I c) ∧ (r = 0 ∨ r = 1) ∧ (r = 1 ↔ isAll D P dg) ∧ (z1.1 63 2 = z.1 63 2 ∨ zN z ≤ z1.1 63 2)
/-- the loop over the products -/
theorem t_sploop (hz : wz z) (hg : gw z) (hS : shOk D sh I) (y : z.1 185 2 = sh) {P : Nat → Int → Int} {dg : Nat → Int} (hP : ∀ i : Nat, (i : Int) < D → pcO D z I i (P i) (dg i)) {N q A : Nat} {s : Int} (es : s = sDg D dg) (hs : s ≤ 16 ∨ (D = 2 ∧ s ≤ 17)) (hA : (A : Int) = D) (hN : N = (mMany D s).toNat) (hd : ∀ i : Nat, (i : Int) < D → 0 ≤ s - dg i ∧ s - dg i ≤ 15) (eq : z.1 63 2 = q) (ql : (N : Int) * N ≤ z.2.1 q) (hE : ecS N 0 (fun _ => 0) q I) {Q : cm_Q} (K : ∀ (r : Int) (I1 : cm_I), okR (I1 q) → (∀ c, c ∉ [63, 65, 188] → c ≠ q → I1 c = I c) → (r = 0 ∨ r = 1) → (r = 1 ↔ isAll D P dg) → Q (some (vI r)) (I1, z)) {z5 z6 : Option cm_V} : cw (d + 3) cd_Search_isSpanning Q 137 [some (vR 6 185), some (vI s), some (vI (N : Int)), some (vI ((psN (fun i => (mMany D (s - dg i)).toNat) A : Nat) : Int)), some (vI 0), z5, z6] [] (I, z) := by
  have hD := shOk_D hS
  have hsh := shOk_sh hS
  have hs' : sh = 11 ∨ sh = 20 := hsh
  have e0 : I sh 0 = D := hS.2.1
  have s0 : 0 ≤ s := by have := (hP 0 (by omega)); obtain ⟨_, _, _, _, _, _, _, _, _, p8, _⟩ := this; have := hd 0 (by omega); omega
  have fb16 := from_bds16 hD (t := s) s0 hs
  have N153 : N ≤ 153 := by omega
  have q0 : 0 < q := by rw [← eq]; exact gw_pos hg (k := 0) (by decide)
  have qo : q ∉ [63, 65, 66, 67, 69, 70] := by rw [← eq]; exact gw_out hg (k := 0) (by decide)
  have q2 : q ∉ [63, 65] := nin_sub qo (by simp)
  have q48 : 48 ≤ q := by rw [← eq]; exact (gw_blo hg (k := 0) (by decide)).2
  have g188 : ∀ k, k < 97 → gI k ≠ 188 := by decide
  have q188 : q ≠ 188 := by
    rw [← eq]
    rcases (hg.2.1 0 (by decide)).1 with e | e
    · have e' : z.1 63 2 = gI 0 := e
      rw [e']; exact g188 0 (by decide)
    · have e' : 248 ≤ z.1 63 2 := e
      omega
  have q192 : ∀ i : Nat, i < 3 → 192 + 2 * i ≠ q := by
    intro i hi e
    rcases (hg.2.1 0 (by decide)).1 with w | w
    · have w' : z.1 63 2 = gI 0 := w
      have : gI 0 = 64 := by decide
      omega
    · have w' : 248 ≤ z.1 63 2 := w
      omega
  have l188 : z.2.1 188 = 153 := wz_L hz 188 153 rfl (by decide)
  have D3 : (A : Int) ≤ 3 ∧ 2 ≤ (A : Int) := by omega
  have AD : D.toNat = A := by omega
  have tot : ∀ (B : Nat), B ≤ A → psN (fun i => (mMany D (s - dg i)).toNat) B ≤ 153 * B := by
    intro B
    induction B with
    | zero => intro _; exact Nat.le_refl _
    | succ B ih =>
      intro h
      have := ih (by omega)
      have hb := hd B (by omega)
      have fb := from_bds16 hD (t := s - dg B) hb.1 (by omega)
      show psN _ B + (mMany D (s - dg B)).toNat ≤ _
      omega
  have tA := tot A (Nat.le_refl _)
  have Lo : ∀ (u i : Nat) (r left : Nat) (p : Nat → Nat) (J : cm_I) (z5 z6 : Option cm_V), i + u = A → ecS N r p q J → (∀ c, c ∉ [63, 65, 188] → c ≠ q → J c = I c) → left ≤ 500 → (((∀ v, inS N r (ecM J q N) v ↔ spW D P dg s i 0 v) ∧ psN (fun i => (mMany D (s - dg i)).toNat) i + left = psN (fun i => (mMany D (s - dg i)).toNat) A) ∨ (¬ isAll D P dg ∧ r + left < N)) → cw (d + 3) cd_Search_isSpanning Q 137 [some (vR 6 185), some (vI s), some (vI (N : Int)), some (vI (left : Int)), some (vI (i : Int)), z5, z6] [] (J, z) := by
    intro u
    induction u with
    | zero =>
      intro i r left p J z5 z6 ei hEJ hf l5 hm
      have js : J sh = I sh := hf sh (by simp; omega) (by omega)
      have rn := ec_rn hEJ
      refine wr_Search_isSpanning_137 hz y hsh ?_
      rw [js, e0, hEJ.2.1]
      have full : (r : Int) = N ↔ isAll D P dg := by
        rcases hm with ⟨h1, h2⟩ | ⟨h1, h2⟩
        · have iA : i = A := by omega
          rw [iA] at h1 h2
          constructor
          · intro e
            have e' : r = N := by omega
            intro v
            rw [AD, ← es]
            refine (h1 v).mp ?_
            rw [e'] at hEJ ⊢
            exact ind_full (ec_ind hEJ) (fun i _ => unt_in _) (unt_in v)
          · intro al
            have al' : ∀ v, spW D P dg s A 0 v := fun v => by have := al v; rw [AD, ← es] at this; exact this
            have := all_le fun v => (h1 v).mpr (al' v)
            omega
        · exact ⟨fun e => by omega, fun a => absurd a h1⟩
      exact ⟨fun _ => ⟨fun ne => K 0 J hEJ.2.2.1 hf (Or.inl rfl) ⟨fun w => absurd w (by decide), fun al => absurd (full.mpr al) ne⟩, fun e => K 1 J hEJ.2.2.1 hf (Or.inr rfl) ⟨fun _ => full.mp e, fun _ => rfl⟩⟩, fun w => by omega⟩
    | succ u ih =>
      intro i r left p J z5 z6 ei hEJ hf l5 hm
      have js : J sh = I sh := hf sh (by simp; omega) (by omega)
      have iD : (i : Int) < D := by omega
      obtain ⟨qp, at_, p1, p2, p3, p4, p5, p6, p7, p8, p9, p10, p11, p12, p13⟩ := hP i iD
      rw [eq] at p5
      obtain ⟨d1, d2⟩ := hd i iD
      have ti : Int.toNat (i : Int) = i := by omega
      have more : fF D (s - dg i + 1) = ((mMany D (s - dg i)).toNat : Int) := by
        rw [fF_many]
        have := from_bds16 hD (t := s - dg i) d1 (by omega)
        omega
      have mb := from_bds16 hD (t := s - dg i) d1 (by omega)
      have j1 : ∀ {J : cm_I}, (∀ c, c ∉ [63, 65, 188] → c ≠ q → J c = I c) → J (sh + 1) = I (sh + 1) := fun h => h _ (by simp; omega) (by omega)
      have jp : ∀ {J : cm_I}, (∀ c, c ∉ [63, 65, 188] → c ≠ q → J c = I c) → J (192 + 2 * i) = I (192 + 2 * i) := fun h => h _ (by simp; omega) (q192 i (by omega))
      have Li : ∀ (y_ m r left : Nat) (p : Nat → Nat) (J : cm_I), m + y_ = (mMany D (s - dg i)).toNat → ecS N r p q J → (∀ c, c ∉ [63, 65, 188] → c ≠ q → J c = I c) → left ≤ 500 → (((∀ v, inS N r (ecM J q N) v ↔ spW D P dg s i m v) ∧ psN (fun i => (mMany D (s - dg i)).toNat) i + m + left = psN (fun i => (mMany D (s - dg i)).toNat) A) ∨ (¬ isAll D P dg ∧ r + left < N)) → cw (d + 3) cd_Search_isSpanning Q 176 [some (vR 6 185), some (vI s), some (vI (N : Int)), some (vI (left : Int)), some (vI (i : Int)), some (vI ((mMany D (s - dg i)).toNat : Int)), some (vI (m : Int))] [] (J, z) := by
        intro y_
        induction y_ with
        | zero =>
          intro m r left p J em hEJ hf l5 hm
          have e : m = (mMany D (s - dg i)).toNat := by omega
          refine wr_Search_isSpanning_176 hz ⟨fun _ => ⟨by unfold cm_i; omega, ?_⟩, fun w => by omega⟩
          have := ih (i + 1) r left p J (some (vI ((mMany D (s - dg i)).toNat : Int))) (some (vI (m : Int))) (by omega) hEJ hf l5 (hm.imp (fun ⟨h1, h2⟩ => ⟨fun v => by rw [e] at h1; exact (h1 v).trans spW_next, by
            show psN _ i + (mMany D (s - dg i)).toNat + left = _
            omega⟩) id)
          exact this
        | succ y_ ihy =>
          intro m r left p J em hEJ hf l5 hm
          have rn := ec_rn hEJ
          refine wr_Search_isSpanning_176 hz ⟨fun w => by omega, fun _ => ?_⟩
          rw [hEJ.2.1, ti]
          refine ⟨by unfold cm_i; omega, fun lt => ⟨by unfold cm_i; omega, ?_⟩, fun ge => ⟨⟨by omega, by omega⟩, ?_⟩⟩
          · have stuck : ¬ isAll D P dg ∧ r + left < N := by
              refine ⟨fun al => ?_, by omega⟩
              rcases hm with ⟨h1, h2⟩ | ⟨h1, h2⟩
              · have al' : ∀ v, spW D P dg s A 0 v := fun v => by have := al v; rw [AD, ← es] at this; exact this
                have := sp_left hN al' left i m r (ecM J q N) (by omega) (fun _ => by omega) (fun w => by omega) h1 h2
                omega
              · exact h1 al
            have := ih (i + 1) r left p J (some (vI ((mMany D (s - dg i)).toNat : Int))) (some (vI (m : Int))) (by omega) hEJ hf l5 (Or.inr stuck)
            exact this
          · have hA' := hm.resolve_right fun w => by omega
            obtain ⟨h1, h2⟩ := hA'
            have le1 : 1 ≤ left := by
              have := psN_le (fun i => (mMany D (s - dg i)).toNat) (k := i) (n := A) (by omega)
              have t' : (fun i => (mMany D (s - dg i)).toNat) i = (mMany D (s - dg i)).toNat := rfl
              omega
            have hSJ : shOk D sh J := shOk_fr hS (hf _ (by simp; omega) (by omega)) (hf _ (by simp; omega) (by omega)) (hf _ (by simp; omega) (by omega)) (hf _ (by simp; omega) (by omega)) (hf _ (by simp; omega) (by omega))
            have jq : J qp = I qp := hf qp p4 p5
            refine mU_mono (t_putSpread (d := d + 1) hz hSJ y (a := 192 + 2 * i) (q := qp) (by omega) p2 (by omega) (fun w => p4 (by rw [w]; simp)) p1 (p := dg i) (t := s - dg i) (at_ := at_) (m := (m : Int)) (by rw [jp hf]; exact p6) (by rw [jp hf]; exact p7) (by omega) p9 d1 d2 (by omega) (by omega) (by omega) p10 p11 p12) fun J5 ⟨f5, g5⟩ => ?_
            have vv : ∀ x : Nat, x < N → J5 188 (x : Int) = spI D (fun i => J qp (at_ + i)) m (fF D (dg i + 1)).toNat x := fun x hx => g5 x (by omega) (by omega)
            have fd := fF_bd hD (s := dg i + 1) (by omega) (by omega)
            have J5q : J5 q = J q := f5 q (by simpa using q188)
            have em5 : ecM J5 q N = ecM J q N := by
              funext j k
              show toF (J5 q _) = toF (J q _)
              rw [J5q]
            have hE5 : ecS N r p q J5 := by
              unfold ecS
              rw [em5, J5q, f5 63 (by decide), f5 65 (by decide)]
              exact hEJ
            refine mU_mono (t_insert (d := d) hz eq q0 N153 q2 hE5 ql (a := 188) (by decide) (by simp; exact Ne.symm q188) (by rw [l188]; omega) (fun k k0 k1 => ?_)) fun J6 ⟨f6, g6⟩ => ⟨by unfold cm_i; omega, by unfold cm_i; omega, ?_⟩
            · obtain ⟨x, ex⟩ : ∃ x : Nat, (x : Int) = k := ⟨k.toNat, by omega⟩
              rw [← ex, vv x (by omega)]
              have := spI_bd (D := D) (F := fun i => J qp (at_ + i)) (m := (m : Int)) (x := (x : Int)) (k := (fF D (dg i + 1)).toNat) fun k hk => by
                show 0 ≤ J qp (at_ + k) ∧ J qp (at_ + k) < 2521
                rw [jq]
                obtain ⟨t1, t2, t3⟩ := p13 k (by omega) (by omega)
                rw [t1]
                exact ⟨t2, t3⟩
              omega
            · obtain ⟨r1, pp, x1, x2⟩ := sp_step (D := D) (P := P) (dg := dg) (s := s) (i0 := i) (m0 := m) hN (by rw [em5]; exact h1) (fun x hx => by
                show toF (J5 188 (x : Int)) = _
                rw [vv x hx]
                exact spI_w hD (by omega) p9 d1 d2 (by omega) (by omega) fun k k0 k1 => by
                  show J qp (at_ + k) = _
                  rw [jq]
                  exact (p13 k k0 k1).1) g6
              have := ihy (m + 1) r1 (left - 1) pp J6 (by omega) x1 (fun c h3 h4 => by
                have h188 : c ≠ 188 := fun w => h3 (by rw [w]; simp)
                rw [f6 c (by
                  simp at h3 ⊢
                  exact ⟨h3.1, h3.2.1, h4, h3.2.2⟩), f5 c (by simpa using h188)]
                exact hf c h3 h4) (by omega) (Or.inl ⟨x2, by omega⟩)
              have el : (left : Int) + -1 = ((left - 1 : Nat) : Int) := by omega
              rw [el]
              exact this
      refine wr_Search_isSpanning_137 hz y hsh ?_
      rw [js, e0, ti, jp hf, j1 hf, p7, hS.2.2.2.1 (s - dg i + 1) (by omega) (by omega), more]
      refine ⟨fun w => by omega, fun _ => ⟨⟨by omega, by omega⟩, by unfold cm_i; omega, by unfold cm_i; omega, ⟨by omega, by omega⟩, ?_⟩⟩
      have := Li (mMany D (s - dg i)).toNat 0 r left p J (by omega) hEJ hf l5 (hm.imp (fun ⟨h1, h2⟩ => ⟨h1, by omega⟩) id)
      exact this
  have := Lo A 0 0 (psN (fun i => (mMany D (s - dg i)).toNat) A) (fun _ => 0) I z5 z6 (by omega) hE (fun _ _ _ => rfl) (by omega) (Or.inl ⟨fun v => ?_, by show 0 + _ = _; omega⟩)
  · exact this
  · constructor
    · intro ⟨c, hc⟩
      exact ⟨fun _ _ => 0, fun j hj => by
        rw [hc j (by omega)]
        show (0 : cF) = 0 + 0
        exact (Lean.Grind.Semiring.add_zero _).symm⟩
    · intro ⟨c, hc⟩
      exact ⟨fun _ => 0, fun j hj => by
        rw [hc j (by omega)]
        show (0 : cF) + 0 = 0
        exact Lean.Grind.Semiring.add_zero _⟩
end WSS
