/-! Grade.clearBehind -/
section WCB
variable {d : Nat} {z : cm_Z} {I : cm_I}
def cbF (v : Int) : Int := if v % 2521 = 0 then 0 else 2521 - v % 2521
theorem t_clearBehind (hz : wz z) {a b q n k : Nat} (a0 : 0 < a) (b0 : 0 < b) (q0 : 0 < q) (yq : z.1 a 9 = q) (ab : a ≠ b) (qb : q ≠ b) (v3 : I a 3 = (n : Int)) (n136 : n ≤ 136) (hk : k < n) (lb : (n : Int) ≤ z.2.1 b) (lq : (n : Int) * k + n ≤ z.2.1 q) (oq : okR (I q)) {B : Int} (hB : B ≤ 1000000000) (ob : ∀ x : Int, 0 ≤ x → x < n → 0 ≤ I b x ∧ I b x ≤ B) : mU (d + 1) m_Grade_clearBehind [vR 2 a, vR 20 b, vI (k : Int)] z I fun I1 => fr [b] I I1 ∧ ∀ x, I1 b x = if x = (k : Int) then I b k % 2521 else if (k : Int) < x ∧ x < n then I b x + cbF (I b k) * I q ((n : Int) * k + x) else I b x := by
  obtain ⟨c1, c2, c3⟩ := nn_bd (n := n) (i := k) (by omega) hk
  have bk := ob k (by omega) (by omega)
  have tm : Int.tmod (I b k) 2521 = I b k % 2521 := Int.tmod_eq_emod_of_nonneg bk.1
  refine wr_Grade_clearBehind hz b0 a0 ⟨⟨by omega, by omega⟩, fun I2 e2 => ?_⟩
  rw [tm] at e2 ⊢
  obtain ⟨f2, g2⟩ := fr_eq_iu e2
  have v3' : I2 a 3 = (n : Int) := by rw [f2 a (by simpa using ab)]; exact v3
  have iq : I2 q = I q := f2 q (by simpa using qb)
  have Lp : ∀ (u x : Nat) (J : cm_I), x + u = n → k < x → fr [b] I J → (∀ y, J b y = if y = (k : Int) then I b k % 2521 else if (k : Int) < y ∧ y < x then I b y + (2521 - I b k % 2521) * I q ((n : Int) * k + y) else I b y) → ¬ I b k % 2521 = 0 → cw d cd_Grade_clearBehind (qU z fun I1 => fr [b] I I1 ∧ ∀ x, I1 b x = if x = (k : Int) then I b k % 2521 else if (k : Int) < x ∧ x < n then I b x + cbF (I b k) * I q ((n : Int) * k + x) else I b x) 29 [some (vR 2 a), some (vR 20 b), some (vI (k : Int)), some (vI (I b k % 2521)), some (vI ((n : Int) * k)), some (vI (x : Int))] [] (J, z) := by
    intro u
    induction u with
    | zero =>
      intro x J ex kx hf hv nz
      have ja : J a = I a := hf a (by simpa using ab)
      have xn : x = n := by omega
      refine wr_Grade_clearBehind_29 hz a0 b0 yq q0 ?_
      rw [ja, v3]
      refine ⟨fun _ => qU_mk ⟨hf, fun y => ?_⟩, fun w => by omega⟩
      rw [hv y, xn]
      unfold cbF
      rw [if_neg nz]
    | succ u ih =>
      intro x J ex kx hf hv nz
      have ja : J a = I a := hf a (by simpa using ab)
      have jq : J q = I q := hf q (by simpa using qb)
      have jx : J b (x : Int) = I b x := by rw [hv, if_neg (by omega), if_neg (by omega)]
      have bx := ob x (by omega) (by omega)
      have oo := oq ((n : Int) * k + x)
      have pr := mul_bd (x := 2521 - I b k % 2521) (y := I q ((n : Int) * k + x)) (X := 2521) (Y := 2521) (by omega) (by omega) (by omega) (by omega)
      refine wr_Grade_clearBehind_29 hz a0 b0 yq q0 ?_
      rw [ja, v3, jq, jx]
      refine ⟨fun w => by omega, fun _ => ⟨⟨by omega, by omega⟩, by unfold cm_i; omega, by unfold cm_i; omega, ⟨by omega, by omega⟩, by unfold cm_i; omega, by unfold cm_i; omega, fun J1 h1 => ⟨by unfold cm_i; omega, ?_⟩⟩⟩
      obtain ⟨f1, g1⟩ := fr_eq_iu h1
      have := ih (x + 1) J1 (by omega) (by omega) (fr_trans hf f1) (fun y => ?_) nz
      · exact this
      · rw [g1]
        show (if y = (x : Int) then _ else J b y) = _
        by_cases w : y = (x : Int)
        · rw [if_pos w, if_neg (by omega), if_pos (by omega), w]
        · rw [if_neg w, hv y]
          by_cases w1 : y = (k : Int)
          · rw [if_pos w1, if_pos w1]
          · rw [if_neg w1, if_neg w1]
            by_cases w2 : (k : Int) < y ∧ y < x
            · rw [if_pos w2, if_pos (by omega)]
            · rw [if_neg w2, if_neg (by omega)]
  refine ⟨fun z0 => qU_mk ⟨f2, fun x => ?_⟩, fun nz => ?_⟩
  · rw [g2]
    show (if x = (k : Int) then _ else I b x) = _
    unfold cbF
    rw [if_pos z0, Int.zero_mul, Int.add_zero]
    by_cases w : x = (k : Int)
    · rw [if_pos w, if_pos w]
    · rw [if_neg w, if_neg w]
      split <;> rfl
  · rw [v3']
    refine ⟨by unfold cm_i; omega, by unfold cm_i; omega, ?_⟩
    have := Lp (n - (k + 1)) (k + 1) I2 (by omega) (by omega) f2 (fun y => ?_) nz
    · exact this
    · rw [g2]
      show (if y = (k : Int) then _ else I b y) = _
      by_cases w : y = (k : Int)
      · rw [if_pos w, if_pos w]
      · rw [if_neg w, if_neg w, if_neg (by omega)]
end WCB
