def evBases0 (a n b c : Nat) : List mkE := [.inl (20, 16, 16), .inr (.inl (a, 4, n)), .inl (24, 16, 16), .inr (.inl (a, 5, n + 1)), .inl (20, 136, 136), .inr (.inl (a, 6, n + 2)), .inl (20, 136, 136), .inr (.inl (a, 7, n + 3)), .inl (5, 0, 3)] ++ (evPiece (n + 4) (n + 5) ++ [.inr (.inl (a, 8, n + 4)), .inr (.inl (a, 0, b)), .inr (.inl (a, 1, c))])
def evBases (a n b c : Nat) : List mkE := evBases0 a n b c ++ evGr (n + 1) (n + 6) 0 16
theorem r3_Bases {d : Nat} {Q : cm_Q} {h : cm_H} {a n b c : Nat} (ha : 0 < a) (an : a < n) (hn : ch_n h = n) (H : Q none (mkF (evBases a n b c) h)) : cm_call (d + 2) m_Bases_init [vR 0 a, vR 4 b, vR 1 c] h Q := by
  refine r_Bases_init ha ?_
  intro h1 e1 h2 e2 h3 e3 h4 e4 h5 e5 h6 e6 h7 e7 h8 e8 h9 e9
  have n2 : ch_n h2 = n + 1 := by rw [e2, e1]; show ch_n h + 1 = _; rw [hn]
  have n4 : ch_n h4 = n + 2 := by rw [e4, e3]; show ch_n h2 + 1 = _; rw [n2]
  have n6 : ch_n h6 = n + 3 := by rw [e6, e5]; show ch_n h4 + 1 = _; rw [n4]
  have n8 : ch_n h8 = n + 4 := by rw [e8, e7]; show ch_n h6 + 1 = _; rw [n6]
  have n9 : ch_n h9 = n + 5 := by rw [e9]; show ch_n h8 + 1 = _; rw [n8]
  rw [n8]
  refine r3_Piece (by omega) n9 ⟨rfl, ?_⟩
  intro h11 e11 h12 e12 h13 e13
  have E : h13 = mkF (evBases0 a n b c) h := by
    unfold evBases0
    refine mkF_c e1 (mkF_c (by rw [e2, hn]; rfl) (mkF_c e3 (mkF_c (by rw [e4, n2]; rfl) (mkF_c e5 (mkF_c (by rw [e6, n4]; rfl) (mkF_c e7 (mkF_c (by rw [e8, n6]; rfl) (mkF_c e9 ?_))))))))
    show h13 = mkF (evPiece (n + 4) (n + 5) ++ [.inr (.inl (a, 8, n + 4)), .inr (.inl (a, 0, b)), .inr (.inl (a, 1, c))]) h9
    rw [mkF_a]
    exact mkF_c e11 (mkF_c e12 (mkF_c e13 rfl))
  have n13 : ch_n h13 = n + 6 := by rw [e13, e12, e11]; show ch_n h9 + 1 = _; rw [n9]
  have r4 : ch_R h4 a 5 = n + 1 := by
    rw [e4, n2]
    show (if a = a then (fun j => if j = 5 then n + 1 else ch_R h3 a j) else _) 5 = n + 1
    rw [if_pos rfl]
    rfl
  have l4 : ch_L h4 (n + 1) = 16 := by
    rw [e4, e3]
    show (if n + 1 = ch_n h2 then (16 : Int) else _) = 16
    rw [n2, if_pos rfl]
  have E4 : h13 = mkF ([.inl (20, 136, 136), .inr (.inl (a, 6, n + 2)), .inl (20, 136, 136), .inr (.inl (a, 7, n + 3)), .inl (5, 0, 3)] ++ (evPiece (n + 4) (n + 5) ++ [.inr (.inl (a, 8, n + 4)), .inr (.inl (a, 0, b)), .inr (.inl (a, 1, c))])) h4 := by
    refine mkF_c e5 (mkF_c (by rw [e6, n4]; rfl) (mkF_c e7 (mkF_c (by rw [e8, n6]; rfl) (mkF_c e9 ?_))))
    show h13 = mkF (evPiece (n + 4) (n + 5) ++ [.inr (.inl (a, 8, n + 4)), .inr (.inl (a, 0, b)), .inr (.inl (a, 1, c))]) h9
    rw [mkF_a]
    exact mkF_c e11 (mkF_c e12 (mkF_c e13 rfl))
  refine r3_Bases_62 (g := n + 1) ha (by omega) (by omega) 16 0 (n + 6) h13 _ _ rfl n13 (by omega) (by omega) ?_ ?_ ?_
  · rw [E4, mkF_R _ _ (by omega)]
    · exact r4
    · intro x hx
      simp [evPiece] at hx
      rcases hx with w | w | w | w | w | w | w | w | w | w <;> (rw [w]; first | trivial | exact Or.inl (by omega) | exact Or.inr (by decide))
  · rw [E4, mkF_L _ _ (by omega)]; exact l4
  · unfold evBases at H
    rw [E, ← mkF_a]; exact H
