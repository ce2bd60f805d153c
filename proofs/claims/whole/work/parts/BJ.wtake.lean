/-! Grade.takeBase: the rows by their first columns -/
def tkB (n r q qr qh x s : Nat) (p : Nat → Nat) (I J : cm_I) : Prop := fr [qr, qh] I J ∧ okR (J qr) ∧ ∃ σ h : Nat → Nat, (∀ i, i < s → h i < x ∧ σ i < r ∧ p (σ i) = h i ∧ J qh (i : Int) = h i ∧ ∀ k : Nat, k < n → J qr ((n : Int) * i + k) = I q ((n : Int) * σ i + k)) ∧ (∀ i j, i < j → j < s → h i < h j) ∧ ∀ i, i < r → p i < x → ∃ j, j < s ∧ h j = p i
section WTK
variable {d : Nat} {z : cm_Z} {I : cm_I} {n r q qr qh a : Nat} {p : Nat → Nat}
theorem t_takeBase (hz : wz z) (a0 : 0 < a) (y0 : z.1 63 2 = q) (y1 : z.1 a 4 = qr) (y2 : z.1 a 5 = qh) (q0 : 0 < q) (qr0 : 0 < qr) (qh0 : 0 < qh) (nqr : qr ∉ [63, 65, q, a, qh]) (nqh : qh ∉ [63, 65, q, a, qr]) (n153 : n ≤ 153) (hE : ecS n r p q I) (ql : (n : Int) * n ≤ z.2.1 q) (e2 : I a 2 = (n : Int)) (e3 : I a 3 = (r : Int)) (lr : (n : Int) * r ≤ z.2.1 qr) (lh : (r : Int) ≤ z.2.1 qh) (oq : okR (I qr)) : mU (d + 1) m_Grade_takeBase [vR 2 a, vR 1 63] z I fun I1 => tkB n r q qr qh n r p I I1 := by
  have rn := ec_rn hE
  obtain ⟨s1, s2, s3, s4, s5, s6⟩ := id hE
  have inj : ∀ i j, i < r → j < r → p i = p j → i = j := fun i j hi hj e => ec_p hE hi hj e
  have L : ∀ (u x s : Nat) (J : cm_I) (z4 : Option cm_V), x + u = n → s ≤ r → tkB n r q qr qh x s p I J → cw d cd_Grade_takeBase (qU z fun I1 => tkB n r q qr qh n r p I I1) 4 [some (vR 2 a), some (vR 1 63), some (vI (s : Int)), some (vI (x : Int)), z4] [] (J, z) := by
    intro u
    induction u with
    | zero =>
      intro x s J z4 ex hs hT
      have en : x = n := by omega
      rw [en] at hT ⊢
      have fA : J a = I a := hT.1 a (fun m => by simp at m; rcases m with m | m; exact nqr (by rw [m]; simp); exact nqh (by rw [m]; simp))
      refine wr_Grade_takeBase_4 hz a0 y0 y1 q0 qr0 y2 qh0 ⟨fun _ => qU_mk ?_, fun w => by rw [fA, e2] at w; omega⟩
      have er : s = r := by
        obtain ⟨_, _, σ, h, h1, h2, h3⟩ := hT
        apply Classical.byContradiction
        intro ne
        have fx : ∀ i, ∃ j, i < r → j < s ∧ h j = p i := fun i => by
          by_cases hi : i < r
          · obtain ⟨j, hj⟩ := h3 i hi (s4 i hi).1
            exact ⟨j, fun _ => hj⟩
          · exact ⟨0, fun w => absurd w hi⟩
        obtain ⟨f, hf⟩ := Classical.axiomOfChoice fx
        obtain ⟨y, hy, ey⟩ := pigeon r f (fun i hi => by have := (hf i hi).1; omega) (fun i j hi hj e => inj i j hi hj (by rw [← (hf i hi).2, ← (hf j hj).2, e])) s (by omega)
        have := (hf y hy).1
        omega
      rw [er] at hT
      exact hT
    | succ u ih =>
      intro x s J z4 ex hs hT
      obtain ⟨t1, t2, σ, h, h1, h2, h3⟩ := id hT
      have out : ∀ b, b ≠ qr → b ≠ qh → J b = I b := fun b b1 b2 => t1 b (by simp; exact ⟨b1, b2⟩)
      have fA : J a = I a := out a (fun m => nqr (by rw [← m]; simp)) (fun m => nqh (by rw [← m]; simp))
      have f65 : J 65 = I 65 := out 65 (fun m => nqr (by rw [← m]; simp)) (fun m => nqh (by rw [← m]; simp))
      have fq : J q = I q := out q (fun m => nqr (by rw [← m]; simp)) (fun m => nqh (by rw [← m]; simp))
      have nrh : qr ≠ qh := fun m => nqr (by rw [m]; simp)
      refine wr_Grade_takeBase_4 hz a0 y0 y1 q0 qr0 y2 qh0 ⟨fun w => by rw [fA, e2] at w; omega, fun w => ?_⟩
      rw [fA, e2, e3, f65, fq]
      refine ⟨fun ge => qU_mk ?_, fun lt => ⟨⟨by omega, by omega⟩, fun neg => ⟨by unfold cm_i; omega, ?_⟩, fun pos => ?_⟩⟩
      · -- as many rows as there are
        have er : s = r := by omega
        rw [er] at h1 h2
        refine ⟨t1, t2, σ, h, fun i hi => ⟨by have := (h1 i hi).1; omega, (h1 i hi).2⟩, h2, fun i hi _ => ?_⟩
        obtain ⟨j, hj, ej⟩ := pigeon r σ (fun i hi => (h1 i hi).2.1) (fun i j hi hj e => by
          have ei := (h1 i hi).2.2.1
          have ej := (h1 j hj).2.2.1
          rw [e] at ei
          rcases Nat.lt_trichotomy i j with w | w | w
          · have := h2 i j w hj; omega
          · exact w
          · have := h2 j i w hi; omega) i hi
        exact ⟨j, hj, by rw [← (h1 j hj).2.2.1, ej]⟩
      · have := ih (x + 1) s J z4 (by omega) hs ⟨t1, t2, σ, h, fun i hi => ⟨by have := (h1 i hi).1; omega, (h1 i hi).2⟩, h2, fun i hi hx => h3 i hi (by
          have : p i ≠ x := fun e => by
            have := (s4 i hi).2
            rw [e] at this
            omega
          omega)⟩
        exact this
      · obtain ⟨i, hi, ei⟩ : ∃ i, i < r ∧ p i = x := by
          rcases s5 x (by omega) with w | w
          · omega
          · exact w
        have v65 : I 65 (x : Int) = (i : Int) := by rw [← ei]; exact (s4 i hi).2
        rw [v65]
        obtain ⟨c1, c2, c3⟩ := nn_bd (n := n) (i := i) n153 (by omega)
        obtain ⟨b1, b2, b3⟩ := nn_bd (n := n) (i := s) n153 (by omega)
        have b4 : (n : Int) * s + n ≤ (n : Int) * r := by
          have := Int.mul_le_mul_of_nonneg_left (show (s : Int) + 1 ≤ r by omega) (show (0 : Int) ≤ n by omega)
          rw [Int.mul_add, Int.mul_one] at this
          exact this
        refine ⟨by unfold cm_i; omega, by unfold cm_i; omega, ⟨c1, b1, by omega, by omega, by omega⟩, fun I6 e6 => ⟨⟨by omega, by omega⟩, fun I8 e8 => ⟨by unfold cm_i; omega, by unfold cm_i; omega, ?_⟩⟩⟩
        obtain ⟨f6, g6⟩ := fr_eq_iw e6
        obtain ⟨f8, g8⟩ := fr_eq_iu e8
        have k1 : I8 qr = cpyF (I q) ((n : Int) * i) (J qr) ((n : Int) * s) n := by rw [f8 qr (by simpa using nrh), g6]
        have k2 : I8 qh = fun j => if j = (s : Int) then (x : Int) else J qh j := by rw [g8, f6 qh (by simpa using nrh.symm)]
        have := ih (x + 1) (s + 1) I8 (some (vI ((n : Int) * i))) (by omega) (by omega) ⟨fun b hb => ?_, ?_, (fun j => if j = s then i else σ j), (fun j => if j = s then x else h j), fun j hj => ?_, fun j k hjk hk => ?_, fun j hj hx => ?_⟩
        · exact this
        · simp at hb
          rw [f8 b (by simpa using hb.2), f6 b (by simpa using hb.1)]
          exact out b hb.1 hb.2
        · rw [k1]
          exact okR_cpyF s3 t2 _ _ _
        · by_cases w : j = s
          · have z1 : (if j = s then x else h j) = x := if_pos w
            have z2 : (if j = s then i else σ j) = i := if_pos w
            show (if j = s then x else h j) < x + 1 ∧ (if j = s then i else σ j) < r ∧ p (if j = s then i else σ j) = (if j = s then x else h j) ∧ I8 qh (j : Int) = ((if j = s then x else h j : Nat) : Int) ∧ ∀ k : Nat, k < n → I8 qr ((n : Int) * j + k) = I q ((n : Int) * ((if j = s then i else σ j : Nat) : Int) + k)
            rw [z1, z2, k1, k2, w]
            refine ⟨by omega, hi, ei, if_pos rfl, fun k hk => ?_⟩
            show (if (n : Int) * s ≤ (n : Int) * s + k ∧ (n : Int) * s + k < (n : Int) * s + n then I q ((n : Int) * i + ((n : Int) * s + k - (n : Int) * s)) else _) = _
            rw [if_pos ⟨by omega, by omega⟩, show (n : Int) * s + k - (n : Int) * s = k by omega]
          · have z1 : (if j = s then x else h j) = h j := if_neg w
            have z2 : (if j = s then i else σ j) = σ j := if_neg w
            show (if j = s then x else h j) < x + 1 ∧ (if j = s then i else σ j) < r ∧ p (if j = s then i else σ j) = (if j = s then x else h j) ∧ I8 qh (j : Int) = ((if j = s then x else h j : Nat) : Int) ∧ ∀ k : Nat, k < n → I8 qr ((n : Int) * j + k) = I q ((n : Int) * ((if j = s then i else σ j : Nat) : Int) + k)
            rw [z1, z2, k1, k2]
            obtain ⟨d1, d2, d3, d4, d5⟩ := h1 j (by omega)
            refine ⟨by omega, d2, d3, ?_, fun k hk => ?_⟩
            · show (if (j : Int) = s then _ else J qh (j : Int)) = _
              rw [if_neg (by omega)]; exact d4
            · show (if (n : Int) * s ≤ (n : Int) * j + k ∧ (n : Int) * j + k < (n : Int) * s + n then _ else J qr ((n : Int) * j + k)) = _
              have dd := nn_dis (n := n) w
              rw [if_neg (by omega)]
              exact d5 k hk
        · show (if j = s then x else h j) < (if k = s then x else h k)
          rw [if_neg (by omega : ¬ j = s)]
          by_cases w : k = s
          · rw [if_pos w]; exact (h1 j (by omega)).1
          · rw [if_neg w]; exact h2 j k hjk (by omega)
        · by_cases w : j = i
          · exact ⟨s, by omega, by show (if s = s then x else h s) = _; rw [if_pos rfl, w, ei]⟩
          · have : p j ≠ x := fun e => w (inj j i hj hi (by rw [e, ei]))
            obtain ⟨y, hy, ey⟩ := h3 j hj (by omega)
            exact ⟨y, by omega, by show (if y = s then x else h y) = _; rw [if_neg (by omega)]; exact ey⟩
  refine wr_Grade_takeBase hz a0 ?_
  exact L n 0 0 I none (by omega) (by omega) ⟨fr_refl _ _, oq, fun _ => 0, fun _ => 0, fun i hi => absurd hi (by omega), fun i j _ hj => absurd hj (by omega), fun i _ hx => absurd hx (by omega)⟩
end WTK
