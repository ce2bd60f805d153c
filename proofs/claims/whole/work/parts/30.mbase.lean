/-! SPECS of the reference: the small ones -/
theorem iu_iw (I : cm_I) (a : Nat) (F : Int → Int) (i v : Int) : iu (iw I a F) a i v = iw I a (fun j => if j = i then v else F j) := by
  funext b
  unfold iu iw
  by_cases h : b = a
  · subst h; simp
  · simp [h]
theorem iu_def (I : cm_I) (a : Nat) (i v : Int) : iu I a i v = iw I a (fun j => if j = i then v else I a j) := rfl
theorem iw_iw (I : cm_I) (a : Nat) (F G : Int → Int) : iw (iw I a F) a G = iw I a G := by
  funext b
  unfold iw
  by_cases h : b = a <;> simp [h]
theorem iw_at (I : cm_I) (a : Nat) (F : Int → Int) : iw I a F a = F := by simp [iw]
theorem iw_ne (I : cm_I) {a b : Nat} (F : Int → Int) (h : b ≠ a) : iw I a F b = I b := by simp [iw, h]
theorem iw_self (I : cm_I) (a : Nat) : iw I a (I a) = I := by
  funext b
  unfold iw
  by_cases h : b = a
  · subst h; simp
  · simp [h]
theorem iw_comm (I : cm_I) {a b : Nat} (F G : Int → Int) (h : a ≠ b) : iw (iw I a F) b G = iw (iw I b G) a F := by
  funext c
  unfold iw
  by_cases h1 : c = a
  · subst h1; simp [h]
  · by_cases h2 : c = b
    · subst h2; simp [h1]
    · simp [h1, h2]
theorem iu_at (I : cm_I) (a : Nat) (i v : Int) : iu I a i v a = fun j => if j = i then v else I a j := by simp [iu]
theorem iu_ne (I : cm_I) {a b : Nat} (i v : Int) (h : b ≠ a) : iu I a i v b = I b := by simp [iu, h]
/-- a part of a row is v -/
def fillF (f : Int → Int) (lo n v : Int) : Int → Int := fun j => if lo ≤ j ∧ j < lo + n then v else f j
/-- a part of a row is that of another one -/
def cpyF (g : Int → Int) (i : Int) (f : Int → Int) (lo n : Int) : Int → Int := fun j => if lo ≤ j ∧ j < lo + n then g (i + (j - lo)) else f j
def b2i (p : Prop) [Decidable p] : Int := if p then 1 else 0
section MB
variable {d : Nat} {z : cm_Z} {I : cm_I}
theorem s_within (hz : mz z) (v lo hi : Int) : mI (d + 1) m_Model_within [vI v, vI lo, vI hi] z I fun r I1 => I1 = I ∧ r = if lo ≤ v ∧ v ≤ hi then 1 else 0 := by
  refine mr_within hz ⟨fun q => qI_mk ⟨rfl, ?_⟩, fun q => ⟨fun q2 => qI_mk ⟨rfl, ?_⟩, fun q2 => qI_mk ⟨rfl, ?_⟩⟩⟩
  · rw [if_neg (by omega)]
  · rw [if_neg (by omega)]
  · rw [if_pos (by omega)]
theorem tmod_pos {x : Int} (h : 0 ≤ x) (m : Int) : x.tmod m = x % m := Int.tmod_eq_emod_of_nonneg h
theorem tmod_neg {x : Int} (h : x < 0) {m : Int} (hm : 0 < m) : (x.tmod m < 0 → x.tmod m + m = x % m) ∧ (¬ x.tmod m < 0 → x.tmod m = x % m) := by
  have hv := fm_val (x := x) hm
  have hb := tm_bd (x := x) hm
  refine ⟨fun q => hv.2.2 h (by omega), fun q => ?_⟩
  have h0 : x.tmod m = 0 := by have := hb.2.2.2 (by omega); omega
  rw [hv.2.1 h h0, h0]
theorem s_of (hz : mz z) (x : Int) : mI (d + 1) m_Model_of [vL x] z I fun r I1 => I1 = I ∧ r = x % 2521 := by
  have hb := tm_bd (x := x) (y := 2521) (by decide)
  refine mr_of hz ⟨fun q => ⟨⟨by omega, by omega⟩, qI_mk ⟨rfl, ?_⟩⟩, fun q => ⟨⟨by omega, by omega⟩, ⟨by omega, by omega⟩, qI_mk ⟨rfl, ?_⟩⟩⟩
  · have h1 : ¬ x.tmod 2521 < 0 := fun z => by rw [if_pos z] at q; omega
    rcases Int.lt_or_le x 0 with h | h
    · exact (tmod_neg h (by decide)).2 h1
    · exact tmod_pos h _
  · have h1 : x.tmod 2521 < 0 := by
      rcases Int.lt_or_le (x.tmod 2521) 0 with h | h
      · exact h
      · rw [if_neg (by omega)] at q
        by_cases h2 : x.tmod 2521 = 0
        · rw [if_pos h2] at q; omega
        · rw [if_neg h2] at q; omega
    rcases Int.lt_or_le x 0 with h | h
    · exact (tmod_neg h (by decide)).1 h1
    · have := hb.2.2.1 h; omega
/-- how many monomials of a degree; how many below it -/
def mMany (D t : Int) : Int := if D = 2 then t + 1 else (t + 1) * (t + 2) / 2
def mFrom (D t : Int) : Int := if D = 2 then t * (t + 1) / 2 else t * (t + 1) * (t + 2) / 6
def mAt (D a b c : Int) : Int := mFrom D (a + b + c) + (if D = 2 then b else (b + c) * (b + c + 1) / 2 + c)
theorem mul_bd {x y X Y : Int} (h0 : 0 ≤ x) (h1 : x ≤ X) (h2 : 0 ≤ y) (h3 : y ≤ Y) : 0 ≤ x * y ∧ x * y ≤ X * Y := by
  refine ⟨Int.mul_nonneg h0 h2, ?_⟩
  exact Int.mul_le_mul h1 h3 h2 (by omega)
theorem tdiv_pos' {x : Int} (h : 0 ≤ x) (m : Int) : x.tdiv m = x / m := Int.tdiv_eq_ediv_of_nonneg h
theorem s_many (hz : mz z) {t : Int} (h0 : 0 ≤ t) (h1 : t ≤ 1000) : mI (d + 1) m_Model_many [vR 12 209, vI t] z I fun r I1 => I1 = I ∧ r = mMany (I 209 1) t := by
  have hm := mul_bd (x := t + 1) (y := t + 2) (X := 1001) (Y := 1002) (by omega) (by omega) (by omega) (by omega)
  refine mr_many hz ⟨fun q => ⟨⟨by omega, by omega⟩, ⟨by omega, by omega⟩, ⟨by omega, by omega⟩, qI_mk ⟨rfl, ?_⟩⟩, fun q => ⟨⟨by omega, by omega⟩, qI_mk ⟨rfl, ?_⟩⟩⟩
  · rw [mMany, if_neg q, tdiv_pos' hm.1]
  · rw [mMany, if_pos q]
theorem s_from (hz : mz z) {t : Int} (h0 : 0 ≤ t) (h1 : t ≤ 1000) : mI (d + 1) m_Model_from [vR 12 209, vI t] z I fun r I1 => I1 = I ∧ r = mFrom (I 209 1) t := by
  have hm := mul_bd (x := t) (y := t + 1) (X := 1000) (Y := 1001) (by omega) (by omega) (by omega) (by omega)
  have hm2 := mul_bd (x := t * (t + 1)) (y := t + 2) (X := 1001000) (Y := 1002) (by omega) (by omega) (by omega) (by omega)
  refine mr_from hz ⟨fun q => ⟨⟨by omega, by omega⟩, ⟨by omega, by omega⟩, ⟨by omega, by omega⟩, ⟨by omega, by omega⟩, qI_mk ⟨rfl, ?_⟩⟩, fun q => ⟨⟨by omega, by omega⟩, ⟨by omega, by omega⟩, qI_mk ⟨rfl, ?_⟩⟩⟩
  · rw [mFrom, if_neg q, tdiv_pos' hm2.1]
  · rw [mFrom, if_pos q, tdiv_pos' hm.1]
theorem mFrom_bd (D : Int) {t : Int} (h0 : 0 ≤ t) (h1 : t ≤ 1000) : 0 ≤ mFrom D t ∧ mFrom D t ≤ 1003002000 := by
  have hm := mul_bd (x := t) (y := t + 1) (X := 1000) (Y := 1001) (by omega) (by omega) (by omega) (by omega)
  have hm2 := mul_bd (x := t * (t + 1)) (y := t + 2) (X := 1001000) (Y := 1002) (by omega) (by omega) (by omega) (by omega)
  unfold mFrom
  split <;> omega
theorem s_at (hz : mz z) {a b c : Int} (ha : 0 ≤ a) (hb : 0 ≤ b) (hc : 0 ≤ c) (h1 : a + b + c ≤ 500) : mI (d + 2) m_Model_at [vR 12 209, vI a, vI b, vI c] z I fun r I1 => I1 = I ∧ r = mAt (I 209 1) a b c := by
  have hm := mul_bd (x := b + c) (y := b + c + 1) (X := 500) (Y := 501) (by omega) (by omega) (by omega) (by omega)
  refine mr_at hz ⟨⟨by omega, by omega⟩, ⟨by omega, by omega⟩, ⟨by omega, by omega⟩, mI_mono (s_from hz (by omega) (by omega)) fun v I1 ⟨e1, e2⟩ => ?_⟩
  subst e1
  have hf := mFrom_bd (I1 209 1) (t := a + b + c) (by omega) (by omega)
  have e3 : a + b + c - a = b + c := by omega
  rw [e3]
  refine ⟨fun q => ⟨⟨by omega, by omega⟩, ⟨by omega, by omega⟩, ?_⟩, fun q => ?_⟩
  · rw [tdiv_pos' hm.1]
    refine ⟨⟨by omega, by omega⟩, ⟨by omega, by omega⟩, qI_mk ⟨rfl, ?_⟩⟩
    rw [mAt, if_neg q, e2]
  · refine ⟨⟨by omega, by omega⟩, qI_mk ⟨rfl, ?_⟩⟩
    rw [mAt, if_pos q, e2]
theorem s_clears (hz : mz z) {a : Nat} {lo : Int} (ha : mA a) (h0 : 0 ≤ lo) (h1 : lo + 1140 ≤ mLen a) (h2 : lo ≤ 1000000) : mU (d + 1) m_Model_clears [vR 20 a, vI lo] z I fun I1 => I1 = iw I a (fillF (I a) lo 1140 0) := by
  refine mr_clears hz ?_
  have key : ∀ (n : Nat) (k : Int) (I0 : cm_I), 0 ≤ k → k + n = 1140 → I0 = iw I a (fillF (I a) lo k 0) → cw d cd_Model_clears (qU z fun I1 => I1 = iw I a (fillF (I a) lo 1140 0)) 2 [some (vR 20 a), some (vI lo), some (vI k)] [] (I0, z) := by
    intro n
    induction n with
    | zero =>
      intro k I0 q0 q1 e
      refine mr_clears_2 hz ha ⟨fun _ => qU_mk ?_, fun q => by omega⟩
      rw [e, show k = 1140 by omega]
    | succ n ih =>
      intro k I0 q0 q1 e
      refine mr_clears_2 hz ha ⟨fun q => by omega, fun q => ⟨⟨by omega, by omega⟩, ⟨by omega, by omega⟩, fun I3 e3 => ⟨⟨by omega, by omega⟩, ih (k + 1) I3 (by omega) (by omega) ?_⟩⟩⟩
      rw [e3, e, iu_iw]
      congr 1
      funext j
      unfold fillF
      split <;> split <;> first | rfl | omega | (split <;> first | rfl | omega)
  refine key 1140 0 I (by omega) rfl ?_
  rw [show fillF (I a) lo 0 0 = I a from by funext j; unfold fillF; rw [if_neg (by omega)], iw_self]
theorem s_copies (hz : mz z) {a b : Nat} {i lo : Int} (ha : mA a) (hb : mA b) (h0 : 0 ≤ lo) (h1 : lo + 1140 ≤ mLen b) (h2 : lo ≤ 1000000) (h3 : 0 ≤ i) (h4 : i + 1140 ≤ mLen a) (h5 : i ≤ 1000000) (hne : a ≠ b) : mU (d + 1) m_Model_copies [vR 20 a, vI i, vR 20 b, vI lo] z I fun I1 => I1 = iw I b (cpyF (I a) i (I b) lo 1140) := by
  refine mr_copies hz ?_
  have key : ∀ (n : Nat) (k : Int) (I0 : cm_I), 0 ≤ k → k + n = 1140 → I0 = iw I b (cpyF (I a) i (I b) lo k) → cw d cd_Model_copies (qU z fun I1 => I1 = iw I b (cpyF (I a) i (I b) lo 1140)) 3 [some (vR 20 a), some (vI i), some (vR 20 b), some (vI lo), some (vI k)] [] (I0, z) := by
    intro n
    induction n with
    | zero =>
      intro k I0 q0 q1 e
      refine mr_copies_3 hz ha hb ⟨fun _ => qU_mk ?_, fun q => by omega⟩
      rw [e, show k = 1140 by omega]
    | succ n ih =>
      intro k I0 q0 q1 e
      refine mr_copies_3 hz ha hb ⟨fun q => by omega, fun q => ⟨⟨by omega, by omega⟩, ⟨by omega, by omega⟩, ⟨by omega, by omega⟩, ⟨by omega, by omega⟩, fun I3 e3 => ⟨⟨by omega, by omega⟩, ih (k + 1) I3 (by omega) (by omega) ?_⟩⟩⟩
      rw [e3, e, iu_iw, iw_ne _ _ hne]
      congr 1
      funext j
      unfold cpyF
      by_cases hj : j = lo + k
      · subst hj
        rw [if_pos rfl, if_pos (by omega)]
        congr 1
        omega
      · rw [if_neg hj]
        by_cases hk : lo ≤ j ∧ j < lo + k
        · rw [if_pos hk, if_pos (by omega)]
        · rw [if_neg hk, if_neg (by omega)]
  refine key 1140 0 I (by omega) rfl ?_
  rw [show cpyF (I a) i (I b) lo 0 = I b from by funext j; unfold cpyF; rw [if_neg (by omega)], iw_self]
end MB
