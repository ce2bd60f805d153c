def evPc1 (g n i : Nat) : List mkE := .inl (5, 0, 3) :: (evPiece n (n + 1) ++ [.inr (.inl (g, (i : Int), n))])
def evPc (g : Nat) : Nat → Nat → Nat → List mkE
  | _, _, 0 => []
  | n, i, u + 1 => evPc1 g n i ++ evPc g (n + 2) (i + 1) u
theorem evPc1_n {g n i : Nat} {h : cm_H} : ch_n (mkF (evPc1 g n i) h) = ch_n h + 2 := ch_n_mk _ h
theorem r3_Search_63 {d : Nat} {Q : cm_Q} {a g : Nat} (ha : 0 < a) (hg : 0 < g) (ne : a ≠ g) : ∀ (u i n : Nat) (h : cm_H) (z1 z2 : Option cm_V), i + u = 3 → ch_n h = n → a < n → g < n → ch_R h a 11 = g → ch_L h g = 3 → Q none (mkF (evPc g n i u) h) → cw (d + 1) cd_Search_init Q 63 [some (vR 6 a), z1, z2, some (vI (i : Int))] [] h
  | 0, i, n, h, z1, z2, e, hn, an, gn, r5, l5, H => r_Search_init_63 ha ⟨fun _ => H, fun q => by omega⟩
  | u + 1, i, n, h, z1, z2, e, hn, an, gn, r5, l5, H => by
    refine r_Search_init_63 ha ⟨fun q => by omega, fun q h1 e1 => ?_⟩
    have n1 : ch_n h1 = n + 1 := by rw [e1]; show ch_n h + 1 = _; rw [hn]
    rw [hn]
    refine r3_Piece (by omega) n1 ⟨rfl, by omega, by rw [r5]; exact hg, ?_, ?_⟩
    · rw [r5, mkF_L _ _ (by omega)]
      have : ch_L h1 g = 3 := by
        rw [e1]
        show (if g = h.2.2.2.2.1 then _ else h.2.2.1 g) = 3
        rw [if_neg (by have : h.2.2.2.2.1 = n := hn; omega)]
        exact l5
      rw [this]
      omega
    · intro h6 e6
      refine ⟨⟨by omega, by omega⟩, ?_⟩
      have E : h6 = mkF (evPc1 g n i) h := by
        unfold evPc1
        refine mkF_c e1 ?_
        rw [mkF_a, e6, r5]
        rfl
      have n6 : ch_n h6 = n + 2 := by rw [E, evPc1_n, hn]
      have R6 : ch_R h6 a 11 = g := by
        rw [E, mkF_R _ _ (by omega)]
        · exact r5
        · intro x hx
          simp [evPc1, evPiece] at hx
          rcases hx with w | w | w | w <;> (rw [w]; first | trivial | exact Or.inl (by omega))
      rw [show ((i : Nat) : Int) + 1 = ((i + 1 : Nat) : Int) by omega]
      refine r3_Search_63 ha hg ne u (i + 1) (n + 2) h6 z1 z2 (by omega) n6 (by omega) (by omega) R6 (by rw [E, mkF_L _ _ (by omega)]; exact l5) ?_
      rw [E, ← mkF_a]
      exact H
def evSr0 (a n : Nat) : List mkE := [.inl (20, 83, 83), .inr (.inl (a, 8, n)), .inl (20, 83, 83), .inr (.inl (a, 9, n + 1)), .inl (20, 153, 153), .inr (.inl (a, 10, n + 2)), .inl (25, 3, 3), .inr (.inl (a, 11, n + 3))]
def evSr1 (a n b c : Nat) : List mkE := [.inl (20, 3, 3), .inr (.inl (a, 12, n + 4)), .inl (20, 3, 3), .inr (.inl (a, 13, n + 5)), .inr (.inl (a, 0, b)), .inr (.inl (a, 1, c))]
def evSearch (a n b c : Nat) : List mkE := evSr0 a n ++ (evSr1 a n b c ++ evPc (n + 3) (n + 6) 0 3)
theorem r3_Search {d : Nat} {Q : cm_Q} {h : cm_H} {a n b c : Nat} (ha : 0 < a) (an : a < n) (hn : ch_n h = n) (H : Q none (mkF (evSearch a n b c) h)) : cm_call (d + 2) m_Search_init [vR 6 a, vR 0 b, vR 1 c] h Q := by
  refine r_Search_init ha ?_
  intro h1 e1 h2 e2 h3 e3 h4 e4 h5 e5 h6 e6 h7 e7 h8 e8 h9 e9 h10 e10 h11 e11 h12 e12 h13 e13 h14 e14
  have n2 : ch_n h2 = n + 1 := by rw [e2, e1]; show ch_n h + 1 = _; rw [hn]
  have n4 : ch_n h4 = n + 2 := by rw [e4, e3]; show ch_n h2 + 1 = _; rw [n2]
  have n6 : ch_n h6 = n + 3 := by rw [e6, e5]; show ch_n h4 + 1 = _; rw [n4]
  have n8 : ch_n h8 = n + 4 := by rw [e8, e7]; show ch_n h6 + 1 = _; rw [n6]
  have n10 : ch_n h10 = n + 5 := by rw [e10, e9]; show ch_n h8 + 1 = _; rw [n8]
  have n14 : ch_n h14 = n + 6 := by rw [e14, e13, e12, e11]; show ch_n h10 + 1 = _; rw [n10]
  have E8 : h8 = mkF (evSr0 a n) h := mkF_c e1 (mkF_c (by rw [e2, hn]; rfl) (mkF_c e3 (mkF_c (by rw [e4, n2]; rfl) (mkF_c e5 (mkF_c (by rw [e6, n4]; rfl) (mkF_c e7 (mkF_c (by rw [e8, n6]; rfl) rfl)))))))
  have E : h14 = mkF (evSr1 a n b c) h8 := mkF_c e9 (mkF_c (by rw [e10, n8]; rfl) (mkF_c e11 (mkF_c (by rw [e12, n10]; rfl) (mkF_c e13 (mkF_c e14 rfl)))))
  have r8 : ch_R h8 a 11 = n + 3 := by
    rw [e8, n6]
    show (if a = a then (fun j => if j = 11 then n + 3 else ch_R h7 a j) else _) 11 = n + 3
    rw [if_pos rfl]
    rfl
  have l8 : ch_L h8 (n + 3) = 3 := by
    rw [e8, e7]
    show (if n + 3 = ch_n h6 then (3 : Int) else _) = 3
    rw [n6, if_pos rfl]
  refine r3_Search_63 (g := n + 3) ha (by omega) (by omega) 3 0 (n + 6) h14 _ _ rfl n14 (by omega) (by omega) ?_ ?_ ?_
  · rw [E, mkF_R _ _ (by omega)]
    · exact r8
    · intro x hx
      simp [evSr1] at hx
      rcases hx with w | w | w | w | w | w <;> (rw [w]; first | trivial | exact Or.inl (by omega) | exact Or.inr (by decide))
  · rw [E, mkF_L _ _ (by omega)]; exact l8
  · unfold evSearch at H
    rw [mkF_a, mkF_a] at H
    rw [E, E8]; exact H
