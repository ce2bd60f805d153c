theorem ch_n_mk : ∀ (l : List mkE) (h : cm_H), ch_n (mkF l h) = ch_n h + (l.filter fun e => match e with | .inl _ => true | .inr _ => false).length
  | [], _ => rfl
  | .inl (k, l, sl) :: es, h => by
    have := ch_n_mk es (ch_new h k l sl)
    have e2 : ch_n (ch_new h k l sl) = ch_n h + 1 := rfl
    have e3 : mkF (.inl (k, l, sl) :: es) h = mkF es (ch_new h k l sl) := rfl
    rw [e3, this, e2]
    show _ = ch_n h + ((es.filter _).length + 1)
    omega
  | .inr (.inl (o, s, v)) :: es, h => ch_n_mk es (ch_r h o s v)
  | .inr (.inr (o, s, v)) :: es, h => ch_n_mk es (ch_u h o s v)
theorem news0 (h : cm_H) : ch_x (ch_new h 23 0 0) (ch_n h) (fun j => if 0 ≤ j ∧ j < 0 then ch_n h + 1 + j.toNat else 0) = ch_new h 23 0 0 := by
  have e : (fun j : Int => if 0 ≤ j ∧ j < 0 then ch_n h + 1 + j.toNat else 0) = fun _ => 0 := by
    funext j
    rw [if_neg (by omega)]
  rw [e]
  unfold ch_x ch_new ch_n
  refine Prod.ext rfl (Prod.ext ?_ rfl)
  funext b
  show (if b = h.2.2.2.2.1 then (fun _ => 0) else if b = h.2.2.2.2.1 then (fun _ => 0) else h.2.1 b) = if b = h.2.2.2.2.1 then (fun _ => 0) else h.2.1 b
  split <;> rfl
def evSum (a n b : Nat) : List mkE := [.inl (23, 0, 0), .inr (.inl (a, 2, n)), .inr (.inl (a, 0, b))]
theorem r3_Sum {d : Nat} {Q : cm_Q} {h : cm_H} {a n b : Nat} (ha : 0 < a) (hn : ch_n h = n) (H : Q none (mkF (evSum a n b) h)) : cm_call (d + 1) m_Sum_init [vR 10 a, vR 7 b] h Q := by
  refine r_Sum_init ha ⟨by decide, ?_⟩
  intro h2 e2 h3 e3 h4 e4
  have e2' : h2 = ch_new h 23 0 0 := e2.trans (news0 h)
  have E : h4 = mkF (evSum a n b) h := mkF_c e2' (mkF_c (by rw [e3, hn]; rfl) (mkF_c e4 rfl))
  rw [E]; exact H
def evMover (a n : Nat) : List mkE := [.inl (20, 9, 9), .inr (.inl (a, 2, n)), .inl (20, 3, 3), .inr (.inl (a, 4, n + 1)), .inl (20, 3, 3), .inr (.inl (a, 5, n + 2)), .inl (20, 3, 3), .inr (.inl (a, 6, n + 3)), .inl (20, 136, 136), .inr (.inl (a, 7, n + 4)), .inl (20, 136, 136), .inr (.inl (a, 8, n + 5)), .inl (20, 816, 816), .inr (.inl (a, 9, n + 6)), .inl (5, 0, 3)] ++ (evPiece (n + 7) (n + 8) ++ [.inr (.inl (a, 11, n + 7))])
theorem r3_Mover {d : Nat} {Q : cm_Q} {h : cm_H} {a n : Nat} (ha : 0 < a) (hn : ch_n h = n) (H : Q none (mkF (evMover a n) h)) : cm_call (d + 2) m_Mover_init [vR 4 a] h Q := by
  refine r_Mover_init ha ?_
  intro h1 e1 h2 e2 h3 e3 h4 e4 h5 e5 h6 e6 h7 e7 h8 e8 h9 e9 h10 e10 h11 e11 h12 e12 h13 e13 h14 e14 h15 e15
  have n2 : ch_n h2 = n + 1 := by rw [e2, e1]; show ch_n h + 1 = _; rw [hn]
  have n4 : ch_n h4 = n + 2 := by rw [e4, e3]; show ch_n h2 + 1 = _; rw [n2]
  have n6 : ch_n h6 = n + 3 := by rw [e6, e5]; show ch_n h4 + 1 = _; rw [n4]
  have n8 : ch_n h8 = n + 4 := by rw [e8, e7]; show ch_n h6 + 1 = _; rw [n6]
  have n10 : ch_n h10 = n + 5 := by rw [e10, e9]; show ch_n h8 + 1 = _; rw [n8]
  have n12 : ch_n h12 = n + 6 := by rw [e12, e11]; show ch_n h10 + 1 = _; rw [n10]
  have n14 : ch_n h14 = n + 7 := by rw [e14, e13]; show ch_n h12 + 1 = _; rw [n12]
  have n15 : ch_n h15 = n + 8 := by rw [e15]; show ch_n h14 + 1 = _; rw [n14]
  rw [n14]
  refine r3_Piece (by omega) n15 ⟨rfl, ?_⟩
  intro h17 e17
  have E : h17 = mkF (evMover a n) h := by
    unfold evMover
    refine mkF_c e1 (mkF_c (by rw [e2, hn]; rfl) (mkF_c e3 (mkF_c (by rw [e4, n2]; rfl) (mkF_c e5 (mkF_c (by rw [e6, n4]; rfl) (mkF_c e7 (mkF_c (by rw [e8, n6]; rfl) (mkF_c e9 (mkF_c (by rw [e10, n8]; rfl) (mkF_c e11 (mkF_c (by rw [e12, n10]; rfl) (mkF_c e13 (mkF_c (by rw [e14, n12]; rfl) (mkF_c e15 ?_))))))))))))))
    show h17 = mkF (evPiece (n + 7) (n + 8) ++ [.inr (.inl (a, 11, n + 7))]) h15
    rw [mkF_a, e17]
    rfl
  rw [E]; exact H
