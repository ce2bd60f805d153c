def evRewr (a n b c : Nat) : List mkE := [.inl (20, 216, 216), .inr (.inl (a, 5, n)), .inl (20, 216, 216), .inr (.inl (a, 6, n + 1)), .inl (20, 816, 816), .inr (.inl (a, 8, n + 2)), .inl (20, 136, 136), .inr (.inl (a, 11, n + 3)), .inl (20, 136, 136), .inr (.inl (a, 12, n + 4)), .inl (20, 136, 136), .inr (.inl (a, 13, n + 5)), .inl (5, 0, 3)] ++ (evPiece (n + 6) (n + 7) ++ ([.inr (.inl (a, 14, n + 6)), .inl (5, 0, 3)] ++ (evPiece (n + 8) (n + 9) ++ [.inr (.inl (a, 15, n + 8)), .inr (.inl (a, 0, b)), .inr (.inl (a, 1, c))])))
theorem r3_Rewriter {d : Nat} {Q : cm_Q} {h : cm_H} {a n b c : Nat} (ha : 0 < a) (hn : ch_n h = n) (H : Q none (mkF (evRewr a n b c) h)) : cm_call (d + 2) m_Rewriter_init [vR 8 a, vR 0 b, vR 6 c] h Q := by
  refine r_Rewriter_init ha ?_
  intro h1 e1 h2 e2 h3 e3 h4 e4 h5 e5 h6 e6 h7 e7 h8 e8 h9 e9 h10 e10 h11 e11 h12 e12 h13 e13
  have n2 : ch_n h2 = n + 1 := by rw [e2, e1]; show ch_n h + 1 = _; rw [hn]
  have n4 : ch_n h4 = n + 2 := by rw [e4, e3]; show ch_n h2 + 1 = _; rw [n2]
  have n6 : ch_n h6 = n + 3 := by rw [e6, e5]; show ch_n h4 + 1 = _; rw [n4]
  have n8 : ch_n h8 = n + 4 := by rw [e8, e7]; show ch_n h6 + 1 = _; rw [n6]
  have n10 : ch_n h10 = n + 5 := by rw [e10, e9]; show ch_n h8 + 1 = _; rw [n8]
  have n12 : ch_n h12 = n + 6 := by rw [e12, e11]; show ch_n h10 + 1 = _; rw [n10]
  have n13 : ch_n h13 = n + 7 := by rw [e13]; show ch_n h12 + 1 = _; rw [n12]
  rw [n12]
  refine r3_Piece (by omega) n13 ⟨rfl, ?_⟩
  intro h15 e15 h16 e16
  have n15 : ch_n h15 = n + 8 := by rw [e15]; show ch_n h13 + 1 = _; rw [n13]
  have n16 : ch_n h16 = n + 9 := by rw [e16]; show ch_n h15 + 1 = _; rw [n15]
  rw [n15]
  refine r3_Piece (by omega) n16 ⟨rfl, ?_⟩
  intro h18 e18 h19 e19 h20 e20
  have E : h20 = mkF (evRewr a n b c) h := by
    unfold evRewr
    refine mkF_c e1 (mkF_c (by rw [e2, hn]; rfl) (mkF_c e3 (mkF_c (by rw [e4, n2]; rfl) (mkF_c e5 (mkF_c (by rw [e6, n4]; rfl) (mkF_c e7 (mkF_c (by rw [e8, n6]; rfl) (mkF_c e9 (mkF_c (by rw [e10, n8]; rfl) (mkF_c e11 (mkF_c (by rw [e12, n10]; rfl) (mkF_c e13 ?_))))))))))))
    show h20 = mkF (evPiece (n + 6) (n + 7) ++ ([.inr (.inl (a, 14, n + 6)), .inl (5, 0, 3)] ++ (evPiece (n + 8) (n + 9) ++ [.inr (.inl (a, 15, n + 8)), .inr (.inl (a, 0, b)), .inr (.inl (a, 1, c))]))) h13
    rw [mkF_a]
    refine mkF_c e15 (mkF_c e16 ?_)
    show h20 = mkF (evPiece (n + 8) (n + 9) ++ [.inr (.inl (a, 15, n + 8)), .inr (.inl (a, 0, b)), .inr (.inl (a, 1, c))]) h16
    rw [mkF_a]
    exact mkF_c e18 (mkF_c e19 (mkF_c e20 rfl))
  rw [E]; exact H
