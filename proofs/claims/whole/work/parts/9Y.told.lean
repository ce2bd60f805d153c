/-! THE REFERENCE rewrites -/
def rwAll (D : Int) (dg : Nat → Int) (l : List (Int × Nat)) (q : tup4 → cF) : Nat → List (tup4 × Int)
  | 0 => []
  | t + 1 => rwAll D dg l q t ++ rwL q (sx_X D dg l t)
theorem rwL_nil {q : tup4 → cF} {X : List tup4} (h : ∀ x, x ∈ X → q x = 0) : rwL q X = [] := by
  induction X with
  | nil => rfl
  | cons x X ih =>
    show (if q x = 0 then rwL q X else _) = []
    rw [if_pos (h x List.mem_cons_self)]
    exact ih fun y hy => h y (List.mem_cons_of_mem _ hy)
theorem rwL_mem {q : tup4 → cF} {X : List tup4} {y : tup4 × Int} : y ∈ rwL q X ↔ y.1 ∈ X ∧ q y.1 ≠ 0 ∧ y.2 = fi (q y.1) := by
  induction X with
  | nil => exact ⟨fun h => absurd h List.not_mem_nil, fun h => absurd h.1 List.not_mem_nil⟩
  | cons x X ih =>
    show y ∈ (if q x = 0 then rwL q X else (x, fi (q x)) :: rwL q X) ↔ _
    by_cases e : q x = 0
    · rw [if_pos e, ih]
      constructor
      · rintro ⟨a, b, c⟩
        exact ⟨List.mem_cons_of_mem _ a, b, c⟩
      · rintro ⟨a, b, c⟩
        rcases List.mem_cons.mp a with h | h
        · rw [h] at b; exact absurd e b
        · exact ⟨h, b, c⟩
    · rw [if_neg e, List.mem_cons, ih]
      constructor
      · rintro (h | ⟨a, b, c⟩)
        · rw [h]; exact ⟨List.mem_cons_self, e, rfl⟩
        · exact ⟨List.mem_cons_of_mem _ a, b, c⟩
      · rintro ⟨a, b, c⟩
        rcases List.mem_cons.mp a with h | h
        · left
          refine Prod.ext h ?_
          rw [c, h]
        · exact Or.inr ⟨h, b, c⟩
theorem rwAll_mem {D : Int} {dg : Nat → Int} {l : List (Int × Nat)} {q : tup4 → cF} {y : tup4 × Int} : ∀ t, y ∈ rwAll D dg l q t ↔ (∃ t' : Nat, t' < t ∧ y.1 ∈ sx_X D dg l t') ∧ q y.1 ≠ 0 ∧ y.2 = fi (q y.1) := by
  intro t
  induction t with
  | zero => exact ⟨fun h => absurd h List.not_mem_nil, fun ⟨⟨t', h, _⟩, _⟩ => absurd h (Nat.not_lt_zero t')⟩
  | succ t ih =>
    show y ∈ rwAll D dg l q t ++ rwL q (sx_X D dg l t) ↔ _
    rw [List.mem_append, ih, rwL_mem]
    constructor
    · rintro (⟨⟨t', a, b⟩, c⟩ | ⟨a, c⟩)
      · exact ⟨⟨t', by omega, b⟩, c⟩
      · exact ⟨⟨t, by omega, a⟩, c⟩
    · rintro ⟨⟨t', a, b⟩, c⟩
      by_cases e : t' = t
      · subst e; exact Or.inr ⟨b, c⟩
      · exact Or.inl ⟨⟨t', by omega, b⟩, c⟩
/-- what told looks up -/
def rwTold (F : List (tup4 × Int)) (x : tup4) : Int := match F with
  | [] => 0
  | y :: F => if y.1 = x then y.2 else rwTold F x
theorem rwTold_eq {F : List (tup4 × Int)} {x : tup4} {c : cF} (h : ∀ y, y ∈ F → y.1 = x → y.2 = fi c) (h2 : c ≠ 0 → ∃ y, y ∈ F ∧ y.1 = x) : rwTold F x = fi c := by
  induction F with
  | nil =>
    show (0 : Int) = fi c
    by_cases e : c = 0
    · rw [e]; rfl
    · obtain ⟨y, hy, -⟩ := h2 e
      exact absurd hy List.not_mem_nil
  | cons y F ih =>
    show (if y.1 = x then y.2 else rwTold F x) = fi c
    by_cases e : y.1 = x
    · rw [if_pos e]; exact h y List.mem_cons_self e
    · rw [if_neg e]
      refine ih (fun w hw => h w (List.mem_cons_of_mem _ hw)) fun hc => ?_
      obtain ⟨w, hw, ew⟩ := h2 hc
      rcases List.mem_cons.mp hw with r | r
      · rw [r] at ew; exact absurd ew e
      · exact ⟨w, r, ew⟩
theorem rwTold_all {D : Int} {T : Nat → cMat} {nt : Nat} {v : Nat → Int → Int} {dg : Nat → Int} {l : List (Int × Nat)} {f : Int → Int} {q : tup4 → cF} (h : rwK D T nt v dg l f q) (x : tup4) : rwTold (rwAll D dg l q 16) x = fi (q x) := by
  refine rwTold_eq (fun y hy e => ?_) fun hc => ?_
  · rw [← e]
    exact ((rwAll_mem 16).mp hy).2.2
  · have ex : ∃ t : Nat, t ≤ 15 ∧ x ∈ sx_X D dg l t := Classical.byContradiction fun n => hc (h.2 x n)
    obtain ⟨t, t1, hx⟩ := ex
    exact ⟨(x, fi (q x)), (rwAll_mem 16).mpr ⟨⟨t, by omega, hx⟩, hc, rfl⟩, rfl⟩
section RWL
variable {d : Nat} {z : cm_Z} {I : cm_I}
theorem tup_ext {x : tup4} {j a b c : Int} (h1 : x.1 = j) (h2 : x.2.1 = a) (h3 : x.2.2.1 = b) (h4 : x.2.2.2 = c) : x = (j, a, b, c) := Prod.ext h1 (Prod.ext h2 (Prod.ext h3 h4))
theorem s_told (hz : mz z) {ar : Nat} (ha : mA ar) (hl : 4080 ≤ mLen ar) {F : List (tup4 × Int)} (bd : F.length ≤ 816) (hF : fdSt ar F I) (j a b c : Int) : mI (d + 1) m_Model_told [vR 20 ar, vI (F.length : Int), vI j, vI a, vI b, vI c] z I fun r I1 => I1 = I ∧ r = rwTold F (j, a, b, c) := by
  refine mr_told hz ?_
  have key : ∀ (G : List (tup4 × Int)) (k : Nat), F.drop k = G → k + G.length = F.length → cw d cd_Model_told (qI z fun r I1 => I1 = I ∧ r = rwTold F (j, a, b, c)) 3 [some (vR 20 ar), some (vI (F.length : Int)), some (vI j), some (vI a), some (vI b), some (vI c), some (vI (k : Int))] [] (I, z) ∨ rwTold G (j, a, b, c) ≠ rwTold F (j, a, b, c) := by
    intro G
    induction G with
    | nil =>
      intro k e1 e2
      have e2' : k + 0 = F.length := e2
      by_cases ne : rwTold [] (j, a, b, c) = rwTold F (j, a, b, c)
      · left
        exact mr_told_3 hz ha ⟨fun _ => qI_mk ⟨rfl, ne⟩, fun q => by omega⟩
      · exact Or.inr ne
    | cons y G ih =>
      intro k e1 e2
      have e2' : k + (G.length + 1) = F.length := e2
      have at_ : F[k]? = some y := by
        have := congrArg (fun l => l[0]?) e1
        simpa using this
      obtain ⟨y0, y1, y2, y3, y4⟩ := hF k y at_
      have dr : F.drop (k + 1) = G := by
        have := congrArg List.tail e1
        simpa using this
      by_cases ne : rwTold (y :: G) (j, a, b, c) = rwTold F (j, a, b, c)
      · left
        have nx : ¬ y.1 = (j, a, b, c) → cm_i ((k : Int) + 1) ∧ cw d cd_Model_told (qI z fun r I1 => I1 = I ∧ r = rwTold F (j, a, b, c)) 3 [some (vR 20 ar), some (vI (F.length : Int)), some (vI j), some (vI a), some (vI b), some (vI c), some (vI ((k : Int) + 1))] [] (I, z) := by
          intro e
          have t2 : rwTold (y :: G) (j, a, b, c) = rwTold G (j, a, b, c) := if_neg e
          rcases ih (k + 1) dr (by omega) with h | h
          · exact ⟨⟨by omega, by omega⟩, h⟩
          · exact absurd (t2.symm.trans ne) h
        refine mr_told_3 hz ha ⟨fun q => by omega, fun _ => ?_⟩
        rw [y0]
        refine ⟨⟨by omega, by omega⟩, ⟨by omega, by omega⟩, fun q => nx fun e => q (by rw [e]), fun q0 => ?_⟩
        rw [y1]
        refine ⟨⟨by omega, by omega⟩, ⟨by omega, by omega⟩, fun q => nx fun e => q (by rw [e]), fun q1 => ?_⟩
        rw [y2]
        refine ⟨⟨by omega, by omega⟩, ⟨by omega, by omega⟩, fun q => nx fun e => q (by rw [e]), fun q2 => ?_⟩
        rw [y3]
        refine ⟨⟨by omega, by omega⟩, ⟨by omega, by omega⟩, fun q => nx fun e => q (by rw [e]), fun q3 => ?_⟩
        rw [y4]
        refine ⟨⟨by omega, by omega⟩, ⟨by omega, by omega⟩, qI_mk ⟨rfl, ?_⟩⟩
        rw [← ne]
        exact (if_pos (tup_ext q0 q1 q2 q3)).symm
      · exact Or.inr ne
  rcases key F 0 rfl (by omega) with h | h
  · exact h
  · exact absurd rfl h
end RWL
