/-! THE ROWS of products as they stand -/
def prX (D : Int) (eta : Int → Int → Int) (v0 v1 v2 : Int → Int) (x : tup4) : Int → Int := pr3 D (eta x.1) v0 v1 v2 x.2.1.toNat x.2.2.1.toNat x.2.2.2.toNat
def prS (t : Int) (eta : Int → Int → Int) (v0 v1 v2 : Int → Int) (I I0 : cm_I) (l : List tup4) : Prop := fr [209, 214, 216, 226, 241, 242, 243, 244] I I0 ∧ I0 209 = st1 (I 209) 53 l.length ∧ (okR (I0 214) ∧ okR (I0 216)) ∧ okR (I0 226) ∧ ∀ (m : Nat) (x : tup4), l[m]? = some x → I0 241 m = x.1 ∧ I0 242 m = x.2.1 ∧ I0 243 m = x.2.2.1 ∧ I0 244 m = x.2.2.2 ∧ ∀ c : Int, 0 ≤ c → c < 160 → I0 226 (160 * m + c) = if c < mMany (I 209 1) t then prX (I 209 1) eta v0 v1 v2 x (mFrom (I 209 1) t + c) else 0
theorem prS_add {t : Int} {eta : Int → Int → Int} {v0 v1 v2 : Int → Int} {I I0 I1 : cm_I} {l : List tup4} (h : prS t eta v0 v1 v2 I I0 l) {x : tup4} (f : fr [209, 214, 216, 226, 241, 242, 243, 244] I0 I1) (g9 : I1 209 = st1 (I0 209) 53 ((l.length : Int) + 1)) (o4 : okR (I1 214) ∧ okR (I1 216)) (o6 : okR (I1 226)) (mm : mMany (I 209 1) t ≤ 160) (g6 : I1 226 = rowF (fillF (I0 226) (160 * (l.length : Int)) 160 0) (l.length : Int) (mMany (I 209 1) t) (fun c => prX (I 209 1) eta v0 v1 v2 x (mFrom (I 209 1) t + c))) (g41 : I1 241 = st1 (I0 241) (l.length : Int) x.1) (g42 : I1 242 = st1 (I0 242) (l.length : Int) x.2.1) (g43 : I1 243 = st1 (I0 243) (l.length : Int) x.2.2.1) (g44 : I1 244 = st1 (I0 244) (l.length : Int) x.2.2.2) : prS t eta v0 v1 v2 I I1 (l ++ [x]) := by
  obtain ⟨a1, a2, a3, a4, a5⟩ := h
  refine ⟨fr_trans a1 f, ?_, o4, o6, fun m y hy => ?_⟩
  · rw [g9, a2, List.length_append]
    funext s
    unfold st1
    by_cases e : s = 53
    · rw [if_pos e, if_pos e]
      show _ = ((l.length + 1 : Nat) : Int)
      omega
    · rw [if_neg e, if_neg e, if_neg e]
  · by_cases q : m < l.length
    · rw [List.getElem?_append_left q] at hy
      obtain ⟨b1, b2, b3, b4, b5⟩ := a5 m y hy
      rw [g41, g42, g43, g44, g6]
      have ne : ¬ (m : Int) = (l.length : Int) := by omega
      refine ⟨?_, ?_, ?_, ?_, fun c c0 c1 => ?_⟩
      · show (if (m : Int) = _ then _ else _) = _
        rw [if_neg ne]; exact b1
      · show (if (m : Int) = _ then _ else _) = _
        rw [if_neg ne]; exact b2
      · show (if (m : Int) = _ then _ else _) = _
        rw [if_neg ne]; exact b3
      · show (if (m : Int) = _ then _ else _) = _
        rw [if_neg ne]; exact b4
      · rw [← b5 c c0 c1]
        unfold rowF fillF
        rw [if_neg (by omega), if_neg (by omega)]
    · have lt : m < (l ++ [x]).length := by
        apply Classical.byContradiction
        intro r
        rw [List.getElem?_eq_none (by omega)] at hy
        cases hy
      rw [List.length_append] at lt
      have em : m = l.length := by
        have : [x].length = 1 := rfl
        omega
      subst em
      rw [List.getElem?_append_right (Nat.le_refl _), Nat.sub_self] at hy
      have ey : x = y := Option.some.inj hy
      subst ey
      rw [g41, g42, g43, g44, g6]
      refine ⟨if_pos rfl, if_pos rfl, if_pos rfl, if_pos rfl, fun c c0 c1 => ?_⟩
      unfold rowF fillF
      by_cases r : c < mMany (I 209 1) t
      · rw [if_pos r, if_pos ⟨by omega, by omega⟩]
        show prX _ _ _ _ _ _ (mFrom (I 209 1) t + (160 * (l.length : Int) + c - 160 * (l.length : Int))) = _
        rw [show 160 * (l.length : Int) + c - 160 * (l.length : Int) = c by omega]
      · rw [if_neg r, if_neg (by omega), if_pos ⟨by omega, by omega⟩]
