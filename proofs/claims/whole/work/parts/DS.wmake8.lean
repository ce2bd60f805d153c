/-! making: what depends on the numbers, what doesn't -/
theorem mkF_z : ∀ (l : List mkE) (I J : cm_I) (z : cm_Z), (mkF l (I, z)).2 = (mkF l (J, z)).2
  | [], _, _, _ => rfl
  | .inl (k, n, sl) :: es, I, J, z => mkF_z es (ch_new (I, z) k n sl).1 (ch_new (J, z) k n sl).1 (ch_new (I, z) k n sl).2
  | .inr (.inl (o, s, v)) :: es, I, J, z => mkF_z es I J (ch_r (I, z) o s v).2
  | .inr (.inr (o, s, v)) :: es, I, J, z => mkF_z es (ch_u (I, z) o s v).1 (ch_u (J, z) o s v).1 z
theorem mkF_i {c : Nat} : ∀ (l : List mkE) (I J : cm_I) (z : cm_Z), I c = J c → (mkF l (I, z)).1 c = (mkF l (J, z)).1 c
  | [], _, _, _, h => h
  | .inl (k, n, sl) :: es, I, J, z, h => mkF_i es (ch_new (I, z) k n sl).1 (ch_new (J, z) k n sl).1 (ch_new (I, z) k n sl).2 (by
    show (if c = zN z then _ else I c) = (if c = zN z then _ else J c)
    rw [h])
  | .inr (.inl (o, s, v)) :: es, I, J, z, h => mkF_i es I J (ch_r (I, z) o s v).2 h
  | .inr (.inr (o, s, v)) :: es, I, J, z, h => mkF_i es (ch_u (I, z) o s v).1 (ch_u (J, z) o s v).1 z (by
    show (if c = o then (fun j => if j = s then v else I o j) else I c) = (if c = o then (fun j => if j = s then v else J o j) else J c)
    by_cases q : c = o
    · rw [if_pos q, if_pos q, ← q, h]
    · rw [if_neg q, if_neg q, h])
def mkM (c : Nat) (e : mkE) : Bool := match e with
  | .inr (.inr (o, _, _)) => !(Nat.beq o c)
  | _ => true
theorem mkF_k {c : Nat} : ∀ (l : List mkE) (h : cm_H), c < ch_n h → l.all (mkM c) = true → (mkF l h).1 c = h.1 c
  | [], _, _, _ => rfl
  | .inl (k, n, sl) :: es, h, hc, hl => by
    rw [List.all_cons, Bool.and_eq_true] at hl
    refine (mkF_k es (ch_new h k n sl) (Nat.lt_succ_of_lt hc) hl.2).trans ?_
    show (if c = h.2.2.2.2.1 then _ else h.1 c) = h.1 c
    rw [if_neg (show ¬ c = h.2.2.2.2.1 from Nat.ne_of_lt hc)]
  | .inr (.inl (o, s, v)) :: es, h, hc, hl => by
    rw [List.all_cons, Bool.and_eq_true] at hl
    exact mkF_k es (ch_r h o s v) hc hl.2
  | .inr (.inr (o, s, v)) :: es, h, hc, hl => by
    rw [List.all_cons, Bool.and_eq_true] at hl
    refine (mkF_k es (ch_u h o s v) hc hl.2).trans ?_
    show (if c = o then _ else h.1 c) = h.1 c
    rw [if_neg]
    intro e
    have h1 : (!(Nat.beq o c)) = true := hl.1
    rw [e, show Nat.beq o o = true from Nat.beq_refl o] at h1
    cases h1
def evShape1 (D : Int) (a n : Nat) : List mkE := [.inl (20, 19, 19), .inr (.inl (a, 2, n)), .inl (20, 17, 17), .inr (.inl (a, 3, n + 1)), .inl (5, 0, 3)] ++ (evPiece (n + 2) (n + 3) ++ ([.inr (.inl (a, 6, n + 2)), .inl (5, 0, 3)] ++ (evPiece (n + 4) (n + 5) ++ [.inr (.inl (a, 7, n + 4)), .inr (.inr (a, 0, D))])))
def evShape (D : Int) (a n : Nat) : List mkE := evShape1 D a n ++ evSh2 D a n
/-- what the layout says at the two cuts; plain at literal addresses -/
def shG (D : Int) (a n : Nat) (z0 : cm_Z) : Prop := (z0.1 a 2 = n ∧ z0.2.1 n = 19 ∧ z0.1 a 3 = n + 1 ∧ z0.2.1 (n + 1) = 17 ∧ zN z0 = n + 6) ∧ ∀ J : cm_I, (mkF (evSh2 D a n) (J, z0)).2.1 a 2 = n ∧ (mkF (evSh2 D a n) (J, z0)).2.2.1 n = 19 ∧ (mkF (evSh2 D a n) (J, z0)).2.1 a 4 = n + 6 ∧ (mkF (evSh2 D a n) (J, z0)).2.2.1 (n + 6) = fF D 16 ∧ (mkF (evSh2 D a n) (J, z0)).2.1 a 5 = n + 7 ∧ (mkF (evSh2 D a n) (J, z0)).2.2.1 (n + 7) = fF D 16
theorem r3_Shape {d : Nat} {Q : cm_Q} {h : cm_H} {a n : Nat} {D : Int} (hD : D = 2 ∨ D = 3) (ha : 0 < a) (an : a < n) (hn : ch_n h = n) (G : shG D a n (mkF (evShape1 D a n) h).2) (G0 : (mkF (evShape1 D a n) h).1 n = (fun _ => 0) ∧ (mkF (evShape1 D a n) h).1 (n + 1) = (fun _ => 0) ∧ (mkF (evShape1 D a n) h).1 a 0 = D) (H : ∀ J : cm_I, (∀ c, c ≠ a → c ≠ n → c ≠ n + 1 → c ≠ n + 6 → c ≠ n + 7 → J c = (mkF (evShape D a n) h).1 c) → shC D a n J → Q none (J, (mkF (evShape D a n) h).2)) : cm_call (d + 2) m_Shape_init [vR 9 a, vI D] h Q := by
  refine r_Shape_init ha ?_
  intro h1 e1 h2 e2 h3 e3 h4 e4 h5 e5
  have n2 : ch_n h2 = n + 1 := by rw [e2, e1]; show ch_n h + 1 = _; rw [hn]
  have n4 : ch_n h4 = n + 2 := by rw [e4, e3]; show ch_n h2 + 1 = _; rw [n2]
  have n5 : ch_n h5 = n + 3 := by rw [e5]; show ch_n h4 + 1 = _; rw [n4]
  rw [n4]
  refine r3_Piece (by omega) n5 ⟨rfl, ?_⟩
  intro h7 e7 h8 e8
  have n7 : ch_n h7 = n + 4 := by rw [e7]; show ch_n (mkF (evPiece (n + 2) (n + 3)) h5) = _; rw [ch_n_mk, n5]; rfl
  have n8 : ch_n h8 = n + 5 := by rw [e8]; show ch_n h7 + 1 = _; rw [n7]
  rw [n7]
  refine r3_Piece (by omega) n8 ⟨rfl, ?_⟩
  intro h10 e10 h11 e11
  have E : h11 = mkF (evShape1 D a n) h := by
    unfold evShape1
    refine mkF_c e1 (mkF_c (by rw [e2, hn]; rfl) (mkF_c e3 (mkF_c (by rw [e4, n2]; rfl) (mkF_c e5 ?_))))
    show h11 = mkF (evPiece (n + 2) (n + 3) ++ ([.inr (.inl (a, 6, n + 2)), .inl (5, 0, 3)] ++ (evPiece (n + 4) (n + 5) ++ [.inr (.inl (a, 7, n + 4)), .inr (.inr (a, 0, D))]))) h5
    rw [mkF_a]
    refine mkF_c e7 (mkF_c e8 ?_)
    show h11 = mkF (evPiece (n + 4) (n + 5) ++ [.inr (.inl (a, 7, n + 4)), .inr (.inr (a, 0, D))]) h8
    rw [mkF_a]
    exact mkF_c e10 (mkF_c e11 rfl)
  rw [← E] at G G0
  obtain ⟨⟨g1, g2, g3, g4, g5⟩, G⟩ := G
  obtain ⟨f1, f2, f3⟩ := G0
  have f0 : fF D 0 = 0 := f0 hD
  have E2 : mkF (evShape D a n) h = mkF (evSh2 D a n) h11 := by unfold evShape; rw [mkF_a, E]
  rw [E2] at H
  show cw _ _ _ _ _ _ (h11.1, h11.2)
  refine sh_49 hD ha an g1 g2 18 0 h11.1 (by omega) (by omega) (fun s s0 s1 => ?_) (fun J1 j1 j2 => ?_)
  · rw [f1, show s = 0 by omega, f0]
  refine sh_90 hD ha an g5 g1 g2 g3 g4 16 0 J1 (by omega) (by omega) j2 (fun t t0 t1 => ?_) (fun J2 k1 k2 k3 k4 => ?_)
  · rw [j1 (n + 1) (by omega), f2, show t = 0 by omega, mFrom_0 hD]
  obtain ⟨p1, p2, p3, p4, p5, p6⟩ := G J2
  have n11 : ch_n ((J2, h11.2) : cm_H) = n + 6 := g5
  have kk : ∀ c, c < n + 6 → (mkF (evSh2 D a n) (J2, h11.2)).1 c = J2 c := fun c hc => mkF_k (evSh2 D a n) (J2, h11.2) (by rw [n11]; exact hc) rfl
  have kn : (mkF (evSh2 D a n) (J2, h11.2)).1 n = J2 n := kk n (by omega)
  have k2n : J2 n = J1 n := k1 n (by omega) (by omega)
  show cw _ _ _ _ _ _ ((mkF (evSh2 D a n) (J2, h11.2)).1, (mkF (evSh2 D a n) (J2, h11.2)).2)
  refine sh_164 hD ha an p1 p2 p3 p4 p5 p6 16 0 _ _ (by omega) (by omega) (fun s s0 s1 => ?_) (fun s p a0 a1 a2 a3 a4 => ?_) (fun J3 m1 m2 => ?_)
  · rw [kn, k2n]; exact j2 s s0 s1
  · have := fF_bd hD (s := s) a0 (by omega)
    omega
  have ez : (mkF (evSh2 D a n) (J2, h11.2)).2 = (mkF (evSh2 D a n) h11).2 := mkF_z (evSh2 D a n) J2 h11.1 h11.2
  rw [ez]
  refine H J3 (fun c c1 c2 c3 c4 c5 => ?_) ⟨?_, ?_, fun s s0 s1 => ?_, fun t t0 t1 => ?_, fun s p a0 a1 a2 a3 => ?_⟩
  · rw [m1 c c4 c5]
    refine mkF_i (evSh2 D a n) J2 h11.1 h11.2 ?_
    rw [k1 c c1 c3, j1 c c2]
  · rw [m1 a (by omega) (by omega), kk a (by omega), k2 0 (by decide), j1 a (by omega)]; exact f3
  · rw [m1 a (by omega) (by omega), kk a (by omega)]; exact k3
  · rw [m1 n (by omega) (by omega), kn, k2n]; exact j2 s s0 s1
  · rw [m1 (n + 1) (by omega) (by omega), kk (n + 1) (by omega)]; exact k4 t t0 t1
  · exact m2 s p a0 a1 a2 a3 (by have := fF_mono hD (s := s + 1) (t := 16) (by omega) (by omega) (by omega); omega)
