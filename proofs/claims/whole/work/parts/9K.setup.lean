/-! THE SETUP: a group, primary ones, bases; lists of secondary ones -/
def sx_x (l : List (Int × Nat)) (j : Nat) : Int × Nat := l.getD j (0, 0)
noncomputable def sx_b (D : Int) (T : Nat → cMat) (nt : Nat) (x : Int × Nat) : Int → Int := bRow D x.1 ((bsX D T nt x.1).2 x.2)
noncomputable def sx_e (D : Int) (T : Nat → cMat) (nt : Nat) (l : List (Int × Nat)) (j : Nat) : cP := toP D (sx_b D T nt (sx_x l j))
def sx_d (l : List (Int × Nat)) (j : Nat) : Nat := (sx_x l j).1.toNat
def sx_3 (D : Int) (dg : Nat → Int) : Nat := if D = 2 then 1 else (dg 2).toNat
/-- what the products of a list span -/
def sx_p (D : Int) (T : Nat → cMat) (nt : Nat) (v : Nat → Int → Int) (dg : Nat → Int) (l : List (Int × Nat)) (m : Nat) (u : cP) : Prop := pSp (toP D (v 0)) (toP D (v 1)) (th3 D v) (dg 0).toNat (dg 1).toNat (sx_3 D dg) (sx_e D T nt l) (sx_d l) l.length m u
def sx_S (D : Int) (T : Nat → cMat) (nt n : Nat) (L : Nat → cMat) (v : Nat → Int → Int) (dg : Nat → Int) : Prop :=
  (D = 2 ∨ D = 3) ∧ isG T nt n L ∧ (∀ t, t < nt → mDet (T t) ≠ 0) ∧ (∀ t, t < nt → isZ D (T t)) ∧ (∀ i : Nat, (i : Int) < D → vOk D (v i) ∧ mDeg D (v i) 0 = dg i ∧ vOne1 D (v i) ∧ 1 ≤ dg i ∧ dg i ≤ 6 ∧ isInv D T nt (v i)) ∧ 1 ≤ dg 2 ∧ sysP (toP D (v 0)) (toP D (v 1)) (th3 D v) ∧ ∀ t, 0 ≤ t → t ≤ 15 → isBs D T nt t (bsRows D T nt t) (bsX D T nt t).2
def sx_L (D : Int) (T : Nat → cMat) (nt : Nat) (l : List (Int × Nat)) : Prop := ∀ x, x ∈ l → 0 ≤ x.1 ∧ x.1 ≤ 15 ∧ x.2 < bsRows D T nt x.1
def sx_O (l : List (Int × Nat)) : Prop := ∀ a b, a ≤ b → b < l.length → sx_d l a ≤ sx_d l b
def sx_M (D : Int) (T : Nat → cMat) (nt : Nat) (v : Nat → Int → Int) (dg : Nat → Int) (l : List (Int × Nat)) : Prop := ∀ j, j < l.length → ¬ pSp (toP D (v 0)) (toP D (v 1)) (th3 D v) (dg 0).toNat (dg 1).toNat (sx_3 D dg) (sx_e D T nt l) (sx_d l) j (sx_d l j) (sx_e D T nt l j)
theorem sx_at {l : List (Int × Nat)} {j : Nat} (h : j < l.length) : sx_x l j ∈ l ∧ l[j]? = some (sx_x l j) := by
  unfold sx_x
  rw [List.getD_eq_getElem?_getD, List.getElem?_eq_getElem h]
  exact ⟨List.getElem_mem h, rfl⟩
theorem sx_ap {l l' : List (Int × Nat)} {j : Nat} (h : j < l.length) : sx_x (l ++ l') j = sx_x l j := by
  unfold sx_x
  rw [List.getD_eq_getElem?_getD, List.getD_eq_getElem?_getD, List.getElem?_append_left h]
theorem sx_last (l : List (Int × Nat)) (x : Int × Nat) : sx_x (l ++ [x]) l.length = x := by
  unfold sx_x
  rw [List.getD_eq_getElem?_getD, List.getElem?_append_right (Nat.le_refl _), Nat.sub_self]
  rfl
theorem pSp_congr {t1 t2 t3 : cP} {d1 d2 d3 J J' m : Nat} {et et' : Nat → cP} {de de' : Nat → Nat} {u : cP} (hJ : J ≤ J') (h : ∀ j, j < J → et' j = et j ∧ de' j = de j) (hp : pSp t1 t2 t3 d1 d2 d3 et de J m u) : pSp t1 t2 t3 d1 d2 d3 et' de' J' m u := fun W g a b c e f z =>
  hp W (fun j hj => by have := g j (by omega); rw [(h j hj).1, (h j hj).2] at this; exact this) a b c e f z
theorem sx_dap {l l' : List (Int × Nat)} {j : Nat} (h : j < l.length) : sx_d (l ++ l') j = sx_d l j := by
  unfold sx_d
  rw [sx_ap h]
section SX
variable {D : Int} {T : Nat → cMat} {nt n : Nat} {L : Nat → cMat} {v : Nat → Int → Int} {dg : Nat → Int}
theorem sx_eap {l l' : List (Int × Nat)} {j : Nat} (h : j < l.length) : sx_e D T nt (l ++ l') j = sx_e D T nt l j ∧ sx_d (l ++ l') j = sx_d l j := by
  unfold sx_e sx_d
  rw [sx_ap h]
  exact ⟨rfl, rfl⟩
theorem sx_pap {l : List (Int × Nat)} (l' : List (Int × Nat)) {m : Nat} {u : cP} (h : sx_p D T nt v dg l m u) : sx_p D T nt v dg (l ++ l') m u :=
  pSp_congr (by rw [List.length_append]; omega) (fun j hj => sx_eap hj) h
theorem sx_new {l : List (Int × Nat)} (x : Int × Nat) : sx_p D T nt v dg (l ++ [x]) x.1.toNat (toP D (sx_b D T nt x)) := by
  have := pSp_gen (t1 := toP D (v 0)) (t2 := toP D (v 1)) (t3 := th3 D v) (d1 := (dg 0).toNat) (d2 := (dg 1).toNat) (d3 := sx_3 D dg) (et := sx_e D T nt (l ++ [x])) (de := sx_d (l ++ [x])) (J := (l ++ [x]).length) (j := l.length) (by rw [List.length_append]; show l.length < l.length + 1; omega)
  unfold sx_d sx_e at this
  rw [sx_last] at this
  exact this
theorem sx_Map {l : List (Int × Nat)} {x : Int × Nat} (h : sx_M D T nt v dg l) (hx : ¬ sx_p D T nt v dg l x.1.toNat (toP D (sx_b D T nt x))) : sx_M D T nt v dg (l ++ [x]) := by
  intro j hj hp
  rw [List.length_append] at hj
  have hj' : j < l.length + 1 := hj
  by_cases e : j = l.length
  · subst e
    apply hx
    have e1 : sx_d (l ++ [x]) l.length = x.1.toNat := by unfold sx_d; rw [sx_last]
    have e2 : sx_e D T nt (l ++ [x]) l.length = toP D (sx_b D T nt x) := by unfold sx_e; rw [sx_last]
    rw [e1, e2] at hp
    exact pSp_congr (Nat.le_refl _) (fun j hj => ⟨((sx_eap hj).1).symm, ((sx_dap hj)).symm⟩) hp
  · have hl : j < l.length := by omega
    rw [(sx_eap hl).1, (sx_dap hl)] at hp
    exact h j hl (pSp_congr (Nat.le_refl _) (fun i hi => ⟨((sx_eap (show i < l.length by omega)).1).symm, ((sx_dap (show i < l.length by omega))).symm⟩) hp)
theorem sx_Oap {l : List (Int × Nat)} {x : Int × Nat} (h : sx_O l) (hx : ∀ j, j < l.length → sx_d l j ≤ x.1.toNat) : sx_O (l ++ [x]) := by
  intro a b hab hb
  rw [List.length_append] at hb
  have hb' : b < l.length + 1 := hb
  have e1 : sx_d (l ++ [x]) l.length = x.1.toNat := by unfold sx_d; rw [sx_last]
  by_cases eb : b = l.length
  · subst eb
    rw [e1]
    by_cases ea : a = l.length
    · subst ea; rw [e1]; exact Nat.le_refl _
    · have ha : a < l.length := by omega
      rw [(sx_dap ha)]
      exact hx a ha
  · have hb2 : b < l.length := by omega
    rw [(sx_dap hb2), (sx_dap (show a < l.length by omega))]
    exact h a b hab hb2
theorem sx_Lap {l : List (Int × Nat)} {x : Int × Nat} (h : sx_L D T nt l) (hx : 0 ≤ x.1 ∧ x.1 ≤ 15 ∧ x.2 < bsRows D T nt x.1) : sx_L D T nt (l ++ [x]) := by
  intro y hy
  rcases List.mem_append.mp hy with q | q
  · exact h y q
  · rw [List.mem_singleton.mp q]; exact hx
end SX
