/-! MAKING, as a list of steps: a new cell, a reference put, a number put -/
abbrev mkE : Type := (Nat × Int × Nat) ⊕ ((Nat × Int × Nat) ⊕ (Nat × Int × Int))
def mkS (h : cm_H) (e : mkE) : cm_H := match e with
  | .inl (k, l, sl) => ch_new h k l sl
  | .inr (.inl (o, s, v)) => ch_r h o s v
  | .inr (.inr (o, s, v)) => ch_u h o s v
def mkF : List mkE → cm_H → cm_H
  | [], h => h
  | e :: es, h => mkF es (mkS h e)
theorem mkF_c {e : mkE} {es : List mkE} {h g x : cm_H} (k : g = mkS h e) (r : x = mkF es g) : x = mkF (e :: es) h := by rw [r, k]; rfl
theorem mkF_a {h : cm_H} : ∀ (l l' : List mkE), mkF (l ++ l') h = mkF l' (mkF l h) := fun l => by
  induction l generalizing h with
  | nil => intro l'; rfl
  | cons e es ih => intro l'; exact ih l'
def evPiece (a n : Nat) : List mkE := [.inl (20, 1, 1), .inr (.inl (a, 0, n))]
theorem r3_Piece {d : Nat} {Q : cm_Q} {h : cm_H} {a n : Nat} (ha : 0 < a) (hn : ch_n h = n) (H : Q none (mkF (evPiece a n) h)) : cm_call (d + 1) m_Piece_init [vR 5 a] h Q := by
  refine r_Piece_init ha ?_
  intro h1 e1 h2 e2
  have n0 : ch_n h = n := hn
  have n1 : ch_n h1 = n + 1 := by rw [e1]; show ch_n h + 1 = _; rw [n0]
  have n2 : ch_n h2 = n + 1 := by rw [e2]; exact n1
  have E : h2 = mkF (evPiece a n) h := (mkF_c (e1) (mkF_c (by rw [e2, n0]; rfl) rfl))
  rw [E]; exact H
def evEchelon (a n : Nat) : List mkE := [.inl (20, 0, 0), .inr (.inl (a, 2, n)), .inl (20, 153, 153), .inr (.inl (a, 3, n + 1))]
theorem r3_Echelon {d : Nat} {Q : cm_Q} {h : cm_H} {a n : Nat} (ha : 0 < a) (hn : ch_n h = n) (H : Q none (mkF (evEchelon a n) h)) : cm_call (d + 1) m_Echelon_init [vR 1 a] h Q := by
  refine r_Echelon_init ha ?_
  intro h1 e1 h2 e2 h3 e3 h4 e4
  have n0 : ch_n h = n := hn
  have n1 : ch_n h1 = n + 1 := by rw [e1]; show ch_n h + 1 = _; rw [n0]
  have n2 : ch_n h2 = n + 1 := by rw [e2]; exact n1
  have n3 : ch_n h3 = n + 2 := by rw [e3]; show ch_n h2 + 1 = _; rw [n2]
  have n4 : ch_n h4 = n + 2 := by rw [e4]; exact n3
  have E : h4 = mkF (evEchelon a n) h := (mkF_c (e1) (mkF_c (by rw [e2, n0]; rfl) (mkF_c (e3) (mkF_c (by rw [e4, n2]; rfl) rfl))))
  rw [E]; exact H
def evMembers (a n : Nat) : List mkE := [.inr (.inr (a, 0, 2)), .inl (20, 36, 36), .inr (.inl (a, 3, n)), .inl (20, 432, 432), .inr (.inl (a, 4, n + 1)), .inl (20, 192, 192), .inr (.inl (a, 5, n + 2)), .inl (20, 2304, 2304), .inr (.inl (a, 6, n + 3)), .inl (20, 48, 48), .inr (.inl (a, 7, n + 4)), .inl (20, 48, 48), .inr (.inl (a, 8, n + 5)), .inl (20, 48, 48), .inr (.inl (a, 9, n + 6)), .inl (20, 48, 48), .inr (.inl (a, 10, n + 7)), .inl (20, 9, 9), .inr (.inl (a, 11, n + 8))]
theorem r3_Members {d : Nat} {Q : cm_Q} {h : cm_H} {a n : Nat} (ha : 0 < a) (hn : ch_n h = n) (H : Q none (mkF (evMembers a n) h)) : cm_call (d + 1) m_Members_init [vR 3 a] h Q := by
  refine r_Members_init ha ?_
  intro h1 e1 h2 e2 h3 e3 h4 e4 h5 e5 h6 e6 h7 e7 h8 e8 h9 e9 h10 e10 h11 e11 h12 e12 h13 e13 h14 e14 h15 e15 h16 e16 h17 e17 h18 e18 h19 e19
  have n0 : ch_n h = n := hn
  have n1 : ch_n h1 = n := by rw [e1]; exact n0
  have n2 : ch_n h2 = n + 1 := by rw [e2]; show ch_n h1 + 1 = _; rw [n1]
  have n3 : ch_n h3 = n + 1 := by rw [e3]; exact n2
  have n4 : ch_n h4 = n + 2 := by rw [e4]; show ch_n h3 + 1 = _; rw [n3]
  have n5 : ch_n h5 = n + 2 := by rw [e5]; exact n4
  have n6 : ch_n h6 = n + 3 := by rw [e6]; show ch_n h5 + 1 = _; rw [n5]
  have n7 : ch_n h7 = n + 3 := by rw [e7]; exact n6
  have n8 : ch_n h8 = n + 4 := by rw [e8]; show ch_n h7 + 1 = _; rw [n7]
  have n9 : ch_n h9 = n + 4 := by rw [e9]; exact n8
  have n10 : ch_n h10 = n + 5 := by rw [e10]; show ch_n h9 + 1 = _; rw [n9]
  have n11 : ch_n h11 = n + 5 := by rw [e11]; exact n10
  have n12 : ch_n h12 = n + 6 := by rw [e12]; show ch_n h11 + 1 = _; rw [n11]
  have n13 : ch_n h13 = n + 6 := by rw [e13]; exact n12
  have n14 : ch_n h14 = n + 7 := by rw [e14]; show ch_n h13 + 1 = _; rw [n13]
  have n15 : ch_n h15 = n + 7 := by rw [e15]; exact n14
  have n16 : ch_n h16 = n + 8 := by rw [e16]; show ch_n h15 + 1 = _; rw [n15]
  have n17 : ch_n h17 = n + 8 := by rw [e17]; exact n16
  have n18 : ch_n h18 = n + 9 := by rw [e18]; show ch_n h17 + 1 = _; rw [n17]
  have n19 : ch_n h19 = n + 9 := by rw [e19]; exact n18
  have E : h19 = mkF (evMembers a n) h := (mkF_c (e1) (mkF_c (e2) (mkF_c (by rw [e3, n1]; rfl) (mkF_c (e4) (mkF_c (by rw [e5, n3]; rfl) (mkF_c (e6) (mkF_c (by rw [e7, n5]; rfl) (mkF_c (e8) (mkF_c (by rw [e9, n7]; rfl) (mkF_c (e10) (mkF_c (by rw [e11, n9]; rfl) (mkF_c (e12) (mkF_c (by rw [e13, n11]; rfl) (mkF_c (e14) (mkF_c (by rw [e15, n13]; rfl) (mkF_c (e16) (mkF_c (by rw [e17, n15]; rfl) (mkF_c (e18) (mkF_c (by rw [e19, n17]; rfl) rfl)))))))))))))))))))
  rw [E]; exact H
def evGrade (a n : Nat) (x : Int) : List mkE := [.inl (20, 0, 0), .inr (.inl (a, 4, n)), .inl (20, 0, 0), .inr (.inl (a, 5, n + 1)), .inl (20, 0, 0), .inr (.inl (a, 7, n + 2)), .inl (20, 0, 0), .inr (.inl (a, 8, n + 3)), .inl (20, 0, 0), .inr (.inl (a, 9, n + 4)), .inl (20, 0, 0), .inr (.inl (a, 10, n + 5)), .inr (.inr (a, 0, x))]
theorem r3_Grade {d : Nat} {Q : cm_Q} {h : cm_H} {a n : Nat} {x : Int} (ha : 0 < a) (hn : ch_n h = n) (H : Q none (mkF (evGrade a n x) h)) : cm_call (d + 1) m_Grade_init [vR 2 a, vI x] h Q := by
  refine r_Grade_init ha ?_
  intro h1 e1 h2 e2 h3 e3 h4 e4 h5 e5 h6 e6 h7 e7 h8 e8 h9 e9 h10 e10 h11 e11 h12 e12 h13 e13
  have n0 : ch_n h = n := hn
  have n1 : ch_n h1 = n + 1 := by rw [e1]; show ch_n h + 1 = _; rw [n0]
  have n2 : ch_n h2 = n + 1 := by rw [e2]; exact n1
  have n3 : ch_n h3 = n + 2 := by rw [e3]; show ch_n h2 + 1 = _; rw [n2]
  have n4 : ch_n h4 = n + 2 := by rw [e4]; exact n3
  have n5 : ch_n h5 = n + 3 := by rw [e5]; show ch_n h4 + 1 = _; rw [n4]
  have n6 : ch_n h6 = n + 3 := by rw [e6]; exact n5
  have n7 : ch_n h7 = n + 4 := by rw [e7]; show ch_n h6 + 1 = _; rw [n6]
  have n8 : ch_n h8 = n + 4 := by rw [e8]; exact n7
  have n9 : ch_n h9 = n + 5 := by rw [e9]; show ch_n h8 + 1 = _; rw [n8]
  have n10 : ch_n h10 = n + 5 := by rw [e10]; exact n9
  have n11 : ch_n h11 = n + 6 := by rw [e11]; show ch_n h10 + 1 = _; rw [n10]
  have n12 : ch_n h12 = n + 6 := by rw [e12]; exact n11
  have n13 : ch_n h13 = n + 6 := by rw [e13]; exact n12
  have E : h13 = mkF (evGrade a n x) h := (mkF_c (e1) (mkF_c (by rw [e2, n0]; rfl) (mkF_c (e3) (mkF_c (by rw [e4, n2]; rfl) (mkF_c (e5) (mkF_c (by rw [e6, n4]; rfl) (mkF_c (e7) (mkF_c (by rw [e8, n6]; rfl) (mkF_c (e9) (mkF_c (by rw [e10, n8]; rfl) (mkF_c (e11) (mkF_c (by rw [e12, n10]; rfl) (mkF_c (e13) rfl)))))))))))))
  rw [E]; exact H
def evReader (a n : Nat) (b : Nat) : List mkE := [.inl (20, 4, 4), .inr (.inl (a, 1, n)), .inr (.inl (a, 0, b))]
theorem r3_Reader {d : Nat} {Q : cm_Q} {h : cm_H} {a n : Nat} {b : Nat} (ha : 0 < a) (hn : ch_n h = n) (H : Q none (mkF (evReader a n b) h)) : cm_call (d + 1) m_Reader_init [vR 7 a, vR 21 b] h Q := by
  refine r_Reader_init ha ?_
  intro h1 e1 h2 e2 h3 e3
  have n0 : ch_n h = n := hn
  have n1 : ch_n h1 = n + 1 := by rw [e1]; show ch_n h + 1 = _; rw [n0]
  have n2 : ch_n h2 = n + 1 := by rw [e2]; exact n1
  have n3 : ch_n h3 = n + 1 := by rw [e3]; exact n2
  have E : h3 = mkF (evReader a n b) h := (mkF_c (e1) (mkF_c (by rw [e2, n0]; rfl) (mkF_c (e3) rfl)))
  rw [E]; exact H
