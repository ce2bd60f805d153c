/-! THE CLASS: rows in steps are finished -/
section WEF
variable {d : Nat} {z : cm_Z} {I : cm_I} {n q : Nat}
theorem ec_rn {r : Nat} {p : Nat → Nat} {J : cm_I} (h : ecS n r p q J) : r ≤ n := by
  apply Classical.byContradiction
  intro w
  obtain ⟨x, x1, x2⟩ := pigeon n p (fun i hi => (h.2.2.2.1 i (by omega)).1) (fun i j hi hj e => ec_p h (by omega) (by omega) e) (p n) (h.2.2.2.1 n (by omega)).1
  have := ec_p h (by omega) (by omega) x2
  omega
theorem nn_bd {i : Nat} (n153 : n ≤ 153) (hi : i < n) : 0 ≤ (n : Int) * i ∧ (n : Int) * i + n ≤ (n : Int) * n ∧ (n : Int) * i ≤ 23409 := by
  have a1 : (n : Int) * i ≤ (n : Int) * (n - 1) := Int.mul_le_mul_of_nonneg_left (by omega) (by omega)
  rw [Int.mul_sub, Int.mul_one] at a1
  have a2 : 0 ≤ (n : Int) * i := Int.mul_nonneg (by omega) (by omega)
  have a3 := mul_bd (x := (n : Int)) (y := (n : Int)) (X := 153) (Y := 153) (by omega) (by omega) (by omega) (by omega)
  exact ⟨a2, by omega, by omega⟩
theorem nn_dis {i j : Nat} (h : i ≠ j) : (n : Int) * i + n ≤ (n : Int) * j ∨ (n : Int) * j + n ≤ (n : Int) * i := by
  rcases Nat.lt_or_gt_of_ne h with w | w
  · left
    have := Int.mul_le_mul_of_nonneg_left (show (i : Int) + 1 ≤ j by omega) (show (0 : Int) ≤ n by omega)
    rw [Int.mul_add, Int.mul_one] at this
    exact this
  · right
    have := Int.mul_le_mul_of_nonneg_left (show (j : Int) + 1 ≤ i by omega) (show (0 : Int) ≤ n by omega)
    rw [Int.mul_add, Int.mul_one] at this
    exact this
/-- one row is finished -/
def fiP (n r q : Nat) (p : Nat → Nat) (i : Nat) (I I1 : cm_I) : Prop := fr [q] I I1 ∧ (∀ x, ¬ ((n : Int) * i ≤ x ∧ x < (n : Int) * i + n) → I1 q x = I q x) ∧ ecS n r p q I1 ∧ (∀ j, j < r → j ≠ i → ecM I1 q n i (p j) = 0) ∧ ∃ l : Nat → cF, l i = 0 ∧ ∀ k, k < n → ecM I1 q n i k = ecM I q n i k + lc r l (ecM I q n) k
theorem t_finishRow (hz : wz z) (y : z.1 63 2 = q) (q0 : 0 < q) (n153 : n ≤ 153) (qn : q ∉ [63, 65]) {r : Nat} {p : Nat → Nat} (hE : ecS n r p q I) (ql : (n : Int) * n ≤ z.2.1 q) {i : Nat} (hi : i < r) : mU (d + 2) m_Echelon_finishRow [vR 1 63, vI ((n : Int) * i), vI (p i : Int)] z I (fiP n r q p i I) := by
  obtain ⟨s1, s2, s3, s4, s5, s6⟩ := id hE
  have q63 : q ≠ 63 := fun e => qn (by rw [e]; simp)
  have q65 : q ≠ 65 := fun e => qn (by rw [e]; simp)
  have rn := ec_rn hE
  obtain ⟨ni0, ni1, ni2⟩ := nn_bd (n := n) (i := i) n153 (by omega)
  have pi := (s4 i hi).1
  obtain ⟨mi1, mi2⟩ := s6 i hi
  have L : ∀ (u k : Nat) (J : cm_I) (l : Nat → cF) (z2 z4 : Option cm_V), p i < k → k + u = n → fr [q] I J → (∀ x, ¬ ((n : Int) * i ≤ x ∧ x < (n : Int) * i + n) → J q x = I q x) → (∀ c : Nat, c < k → 0 ≤ J q ((n : Int) * i + c) ∧ J q ((n : Int) * i + c) < 2521) → (∀ c : Nat, k ≤ c → c < n → 0 ≤ J q ((n : Int) * i + c) ∧ J q ((n : Int) * i + c) ≤ 2520 + k * 6353000) → l i = 0 → (∀ c : Nat, c < n → toF (J q ((n : Int) * i + c)) = ecM I q n i c + lc r l (ecM I q n) c) → (∀ j, j < r → j ≠ i → p j < k → toF (J q ((n : Int) * i + (p j : Int))) = 0) → (∀ c : Nat, c ≤ p i → toF (J q ((n : Int) * i + c)) = ecM I q n i c) → cw (d + 1) cd_Echelon_finishRow (qU z (fiP n r q p i I)) 4 [some (vR 1 63), some (vI ((n : Int) * i)), z2, some (vI (k : Int)), z4] [] (J, z) := by
    intro u
    induction u with
    | zero =>
      intro k J l z2 z4 k0 ek hf out lo hi_ l0 hl hp hlow
      have kn : k = n := by omega
      subst kn
      have c63 : J 63 = I 63 := hf 63 (by simp; omega)
      have c65 : J 65 = I 65 := hf 65 (by simp; omega)
      refine wr_Echelon_finishRow_4 hz y q0 ?_
      rw [c63, s1]
      refine ⟨fun _ => qU_mk ⟨hf, out, ⟨by rw [c63]; exact s1, by rw [c63]; exact s2, fun x => ?_, by rw [c65]; exact s4, by rw [c65]; exact s5, fun j hj => ?_⟩, fun j hj ne => ?_, l, l0, fun c hc => hl c hc⟩, fun w => by omega⟩
      · by_cases w : (k : Int) * i ≤ x ∧ x < (k : Int) * i + k
        · have := lo (x - (k : Int) * i).toNat (by omega)
          rw [show (k : Int) * i + (((x - (k : Int) * i).toNat : Nat) : Int) = x by omega] at this
          exact this
        · rw [out x w]; exact s3 x
      · by_cases w : j = i
        · rw [w]
          refine ⟨?_, fun c hc => ?_⟩
          · unfold ecM
            rw [hlow (p i) (Nat.le_refl _)]; exact mi1
          · unfold ecM
            rw [hlow c (by omega)]; exact mi2 c hc
        · obtain ⟨a1, a2⟩ := s6 j hj
          have dd := nn_dis (n := k) (i := j) (j := i) w
          have pj := (s4 j hj).1
          refine ⟨?_, fun c hc => ?_⟩
          · unfold ecM
            rw [out _ (by omega)]; exact a1
          · unfold ecM
            rw [out _ (by omega)]; exact a2 c hc
      · exact hp j hj ne (s4 j hj).1
    | succ u ih =>
      intro k J l z2 z4 k0 ek hf out lo hi_ l0 hl hp hlow
      have kn : k < n := by omega
      have c63 : J 63 = I 63 := hf 63 (by simp; omega)
      have c65 : J 65 = I 65 := hf 65 (by simp; omega)
      have bk := hi_ k (Nat.le_refl k) kn
      refine wr_Echelon_finishRow_4 hz y q0 ?_
      rw [c63, s1, tmod_pos bk.1]
      refine ⟨fun w => by omega, fun _ => ⟨⟨by omega, by omega⟩, ⟨by omega, by omega⟩, fun J3 e3 => ?_⟩⟩
      obtain ⟨f3, g3⟩ := fr_eq_iu e3
      have v3 : ∀ x, J3 q x = if x = (n : Int) * i + k then J q ((n : Int) * i + k) % 2521 else J q x := fun x => by rw [g3]
      have hf3 := fr_trans hf f3
      have c653 : J3 65 = I 65 := hf3 65 (by simp; omega)
      have c633 : J3 63 = I 63 := hf3 63 (by simp; omega)
      have hl3 : ∀ c : Nat, c < n → toF (J3 q ((n : Int) * i + c)) = ecM I q n i c + lc r l (ecM I q n) c := fun c hc => by
        rw [v3]
        by_cases w : c = k
        · rw [if_pos (by omega), toF_mod, ← hl c hc, w]
        · rw [if_neg (by omega)]; exact hl c hc
      have out3 : ∀ x, ¬ ((n : Int) * i ≤ x ∧ x < (n : Int) * i + n) → J3 q x = I q x := fun x hx => by rw [v3, if_neg (by omega)]; exact out x hx
      have lo3 : ∀ c : Nat, c < k + 1 → 0 ≤ J3 q ((n : Int) * i + c) ∧ J3 q ((n : Int) * i + c) < 2521 := fun c hc => by
        rw [v3]
        by_cases w : c = k
        · rw [if_pos (by omega)]; omega
        · rw [if_neg (by omega)]; exact lo c (by omega)
      have hi3 : ∀ c : Nat, k + 1 ≤ c → c < n → 0 ≤ J3 q ((n : Int) * i + c) ∧ J3 q ((n : Int) * i + c) ≤ 2520 + k * 6353000 := fun c c0 c1 => by
        rw [v3, if_neg (by omega)]; exact hi_ c (by omega) c1
      have low3 : ∀ c : Nat, c ≤ p i → toF (J3 q ((n : Int) * i + c)) = ecM I q n i c := fun c hc => by rw [v3, if_neg (by omega)]; exact hlow c hc
      have tz : (J q ((n : Int) * i + k)) % 2521 = 0 ↔ toF (J q ((n : Int) * i + k)) = 0 := by
        have := toF_eq (x := J q ((n : Int) * i + k)) (y := 0)
        rw [toF_zero] at this
        rw [this]
        omega
      -- nothing to take off
      have skip : (∀ j, j < r → j ≠ i → p j = k → toF (J q ((n : Int) * i + k)) = 0) → ∀ z2 z4 : Option cm_V, cw (d + 1) cd_Echelon_finishRow (qU z (fiP n r q p i I)) 4 [some (vR 1 63), some (vI ((n : Int) * i)), z2, some (vI ((k : Int) + 1)), z4] [] (J3, z) := by
        intro nk z2 z4
        refine ih (k + 1) J3 l z2 z4 (by omega) (by omega) hf3 out3 lo3 (fun c c0 c1 => ?_) l0 hl3 (fun j hj ne lt => ?_) low3
        · have := hi3 c c0 c1; omega
        · rw [v3]
          by_cases w : p j = k
          · rw [if_pos (by omega), toF_mod]; exact nk j hj ne w
          · rw [if_neg (by omega)]; exact hp j hj ne (by omega)
      refine ⟨fun e => ⟨⟨by omega, by omega⟩, skip (fun j _ _ _ => tz.mp e) _ _⟩, fun ne => ⟨⟨by omega, by omega⟩, ?_⟩⟩
      rw [c653]
      refine ⟨fun neg => ⟨⟨by omega, by omega⟩, skip (fun j hj _ w => ?_) _ _⟩, fun pos => ?_⟩
      · have := (s4 j hj).2
        rw [w] at this
        omega
      · obtain ⟨j, j1, j2⟩ : ∃ j, j < r ∧ p j = k := by
          rcases s5 k kn with x | x
          · omega
          · exact x
        have rj := (s4 j j1).2
        rw [j2] at rj
        have ji : j ≠ i := fun w => by rw [w] at j2; omega
        obtain ⟨m1, m2⟩ := s6 j j1
        rw [j2] at m1 m2
        obtain ⟨nj0, nj1, nj2⟩ := nn_bd (n := n) (i := j) n153 (by omega)
        have dd := nn_dis (n := n) (i := i) (j := j) (fun w => ji w.symm)
        rw [rj]
        refine ⟨⟨by omega, by omega⟩, mU_mono (t_subtract (d := d) (c := k) (B := 2520 + k * 6353000) hz y q0 (by rw [c633]; exact s1) n153 q0 q63 kn ni0 (by omega) (by omega) (by omega) (by omega) (by omega) (by omega) (by omega) (fun c c0 c1 => ?_) (fun c c0 c1 => ?_) (fun _ => by omega)) fun I8 ⟨x1, x2⟩ => ⟨⟨by omega, by omega⟩, ?_⟩⟩
        · obtain ⟨cn, ecn⟩ : ∃ cn : Nat, (cn : Int) = c := ⟨c.toNat, by omega⟩
          rw [← ecn]
          by_cases w : cn < k + 1
          · have := lo3 cn w; omega
          · have := hi3 cn (by omega) (by omega); omega
        · rw [out3 _ (by omega)]; exact s3 _
        · have jq : ∀ c : Nat, c < n → J3 q ((n : Int) * j + c) = I q ((n : Int) * j + c) := fun c hc => out3 _ (by omega)
          have new : ∀ c : Nat, c < n → toF (I8 q ((n : Int) * i + c)) = toF (J3 q ((n : Int) * i + c)) + (- toF (J q ((n : Int) * i + k))) * ecM I q n j c := by
            intro c hc
            rw [x2]
            by_cases w : c = k
            · rw [if_pos (by omega), w, m1, v3, if_pos rfl, toF_mod, toF_zero]
              exact ec_g6 _
            · rw [if_neg (by omega)]
              by_cases w2 : k < c
              · rw [if_pos (by omega), show (n : Int) * i + c - (n : Int) * i = c by omega, jq c hc, toF_add, toF_mul, toF_sub, toF_mod, show toF 2521 = 0 from rfl]
                exact ec_g7 _ _ _
              · rw [if_neg (by omega), m2 c (by omega), gs_z3, cr_a0]
          refine ih (k + 1) I8 (fun j' => l j' + (if j' = j then - toF (J q ((n : Int) * i + k)) else 0)) _ _ (by omega) (by omega) (fr_trans hf3 x1) (fun x hx => ?_) (fun c hc => ?_) (fun c c0 c1 => ?_) ?_ (fun c hc => ?_) (fun j' hj' ne' lt => ?_) fun c hc => ?_
          · rw [x2, if_neg (by omega), if_neg (by omega)]; exact out3 x hx
          · rw [x2]
            by_cases w : c = k
            · rw [if_pos (by omega)]; omega
            · rw [if_neg (by omega), if_neg (by omega)]; exact lo3 c hc
          · have b := hi3 c c0 c1
            have o2 := s3 ((n : Int) * j + c)
            have pr := mul_bd (x := 2521 - J q ((n : Int) * i + k) % 2521) (y := I q ((n : Int) * j + c)) (X := 2521) (Y := 2520) (by omega) (by omega) o2.1 (by omega)
            rw [x2, if_neg (by omega), if_pos (by omega), show (n : Int) * i + c - (n : Int) * i = c by omega, jq c c1]
            omega
          · show l i + (if i = j then _ else 0) = 0
            rw [l0, if_neg (fun w => ji w.symm), cr_00]
          · rw [new c hc, hl3 c hc, lc_upd j1]
            exact ec_g1 _ _ _ _
          · have pj' := (s4 j' hj').1
            rw [new (p j') pj']
            by_cases w : p j' = k
            · rw [v3, if_pos (by omega), toF_mod, w, m1]; exact ec_g8 _
            · rw [v3, if_neg (by omega), hp j' hj' ne' (by omega), m2 (p j') (by omega), gs_z3, cr_00]
          · rw [new c (by omega), low3 c hc, m2 c (by omega), gs_z3, cr_a0]
  refine wr_Echelon_finishRow hz ⟨⟨by omega, by omega⟩, ?_⟩
  refine L (n - p i - 1) (p i + 1) I (fun _ => 0) _ _ (by omega) (by omega) (fr_refl _ _) (fun _ _ => rfl) (fun c hc => s3 _) (fun c c0 c1 => ?_) rfl (fun c hc => ?_) (fun j hj ne lt => ?_) fun c hc => rfl
  · have := s3 ((n : Int) * i + c); omega
  · rw [lc_zero, cr_a0]; rfl
  · have : p j ≠ p i := fun w => ne (ec_p hE hj hi w)
    exact mi2 (p j) (by omega)
/-- finished: no row has a number in another's column -/
def ecF (n r : Nat) (p : Nat → Nat) (q : Nat) (J : cm_I) : Prop := ecS n r p q J ∧ ∀ i j, i < r → j < r → i ≠ j → ecM J q n i (p j) = 0
theorem ec_g9 {R : Type} [Lean.Grind.CommRing R] {a b c : R} (h : a = b + c) : b = a + -1 * c := by grind
theorem fi_span {r i : Nat} {M M' : Nat → Nat → cF} {l : Nat → cF} (hi : i < r) (l0 : l i = 0) (h1 : ∀ k, k < n → M' i k = M i k + lc r l M k) (h2 : ∀ j k, j < r → j ≠ i → k < n → M' j k = M j k) : (∀ j, j < r → inS n r M (M' j)) ∧ ∀ j, j < r → inS n r M' (M j) := by
  constructor
  · intro j hj
    by_cases w : j = i
    · rw [w]
      exact inS_congr (inS_add (inS_row hi) ⟨l, fun _ _ => rfl⟩) h1
    · exact inS_congr (inS_row hj) fun k hk => h2 j k hj w hk
  · intro j hj
    by_cases w : j = i
    · rw [w]
      have e : ∀ k, k < n → lc r l M k = lc r l M' k := fun k hk => gs_congr fun j hj => by
        by_cases w2 : j = i
        · rw [w2, l0, gs_z1, gs_z1]
        · rw [h2 j k hj w2 hk]
      refine inS_congr (inS_add (inS_row hi) (inS_smul (-1) ⟨l, fun _ _ => rfl⟩)) fun k hk => ?_
      have := h1 k hk
      rw [e k hk] at this
      exact ec_g9 this
    · exact inS_congr (inS_row hj) fun k hk => (h2 j k hj w hk).symm
theorem t_finish (hz : wz z) (y : z.1 63 2 = q) (q0 : 0 < q) (n153 : n ≤ 153) (qn : q ∉ [63, 65]) {r : Nat} {p : Nat → Nat} (hE : ecS n r p q I) (ql : (n : Int) * n ≤ z.2.1 q) : mU (d + 3) m_Echelon_finish [vR 1 63] z I fun I1 => fr [q] I I1 ∧ ecF n r p q I1 ∧ (∀ i, i < r → inS n r (ecM I q n) (ecM I1 q n i)) ∧ ∀ i, i < r → inS n r (ecM I1 q n) (ecM I q n i) := by
  have q63 : q ≠ 63 := fun e => qn (by rw [e]; simp)
  have rn := ec_rn hE
  have L : ∀ (u : Nat) (c : Int) (J : cm_I), c + 1 = u → c < n → fr [q] I J → ecS n r p q J → (∀ i j, i < r → j < r → i ≠ j → c < (p i : Int) → ecM J q n i (p j) = 0) → (∀ i, i < r → inS n r (ecM I q n) (ecM J q n i)) → (∀ i, i < r → inS n r (ecM J q n) (ecM I q n i)) → cw (d + 2) cd_Echelon_finish (qU z fun I1 => fr [q] I I1 ∧ ecF n r p q I1 ∧ (∀ i, i < r → inS n r (ecM I q n) (ecM I1 q n i)) ∧ ∀ i, i < r → inS n r (ecM I1 q n) (ecM I q n i)) 7 [some (vR 1 63), some (vI c)] [] (J, z) := by
    intro u
    induction u with
    | zero =>
      intro c J ec cn hf hS hd a b
      exact wr_Echelon_finish_7 hz ⟨fun _ => qU_mk ⟨hf, ⟨hS, fun i j hi hj ne => hd i j hi hj ne (by omega)⟩, a, b⟩, fun w => by omega⟩
    | succ u ih =>
      intro c J ec cn hf hS hd a b
      obtain ⟨s1, s2, s3, s4, s5, s6⟩ := id hS
      obtain ⟨cc, ecc⟩ : ∃ cc : Nat, (cc : Int) = c := ⟨c.toNat, by omega⟩
      refine wr_Echelon_finish_7 hz ⟨fun w => by omega, fun _ => ⟨⟨by omega, by omega⟩, fun neg => ⟨⟨by omega, by omega⟩, ih (c + -1) J (by omega) (by omega) hf hS (fun i j hi hj ne lt => ?_) a b⟩, fun pos => ?_⟩⟩
      · refine hd i j hi hj ne ?_
        have pi := (s4 i hi).2
        have : (p i : Int) ≠ c := fun w => by rw [w] at pi; omega
        omega
      · obtain ⟨i, i1, i2⟩ : ∃ i, i < r ∧ p i = cc := by
          rcases s5 cc (by omega) with x | x
          · rw [ecc] at x; omega
          · exact x
        have ri := (s4 i i1).2
        rw [i2, ecc] at ri
        obtain ⟨ni0, ni1, ni2⟩ := nn_bd (n := n) (i := i) n153 (by omega)
        rw [s1, ri]
        have fr_ := t_finishRow (d := d) hz y q0 n153 qn hS ql i1
        rw [i2, ecc] at fr_
        refine ⟨⟨by omega, by omega⟩, mU_mono fr_ fun I4 ⟨g1, g2, g3, g4, l, l0, g5⟩ => ⟨⟨by omega, by omega⟩, ?_⟩⟩
        have same : ∀ j k, j < r → j ≠ i → k < n → ecM I4 q n j k = ecM J q n j k := fun j k hj ne hk => by
          have dd := nn_dis (n := n) (i := j) (j := i) ne
          unfold ecM
          rw [g2 _ (by omega)]
        obtain ⟨sp1, sp2⟩ := fi_span (n := n) i1 l0 g5 same
        refine ih (c + -1) I4 (by omega) (by omega) (fr_trans hf g1) g3 (fun i' j hi' hj ne lt => ?_) (fun i' hi' => inS_trans (sp1 i' hi') a) fun i' hi' => inS_trans (b i' hi') sp2
        by_cases w : i' = i
        · rw [w]; exact g4 j hj (fun w2 => ne (w.trans w2.symm))
        · have pne : p i' ≠ p i := fun w2 => w (ec_p hS hi' i1 w2)
          rw [same i' (p j) hi' w (s4 j hj).1]
          exact hd i' j hi' hj ne (by omega)
  refine wr_Echelon_finish hz ?_
  rw [hE.1]
  refine ⟨⟨by omega, by omega⟩, L n ((n : Int) - 1) I (by omega) (by omega) (fr_refl _ _) hE (fun i j hi hj ne lt => ?_) (fun i hi => inS_row hi) fun i hi => inS_row hi⟩
  have := (hE.2.2.2.1 i hi).1
  omega
end WEF
