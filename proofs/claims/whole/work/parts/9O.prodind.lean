/-! PRODUCTS of a degree are independent -/
theorem gs4_sw {R : Type} [Lean.Grind.CommRing R] (N s M : Nat) (F : Nat → Nat → Nat → Nat → Nat → R) : gs N (fun a => gs N fun b => gs N fun k => gs s fun j => gs M fun i => F a b k j i) = gs M fun i => gs N fun a => gs N fun b => gs N fun k => gs s fun j => F a b k j i := by
  have e1 : ∀ a b k, gs s (fun j => gs M fun i => F a b k j i) = gs M fun i => gs s fun j => F a b k j i := fun a b k => gs_swap s M _
  have e2 : ∀ a b, gs N (fun k => gs s fun j => gs M fun i => F a b k j i) = gs M fun i => gs N fun k => gs s fun j => F a b k j i := fun a b => by rw [gs_congr fun k _ => e1 a b k, gs_swap]
  have e3 : ∀ a, gs N (fun b => gs N fun k => gs s fun j => gs M fun i => F a b k j i) = gs M fun i => gs N fun b => gs N fun k => gs s fun j => F a b k j i := fun a => by rw [gs_congr fun b _ => e2 a b, gs_swap]
  rw [gs_congr fun a _ => e3 a, gs_swap]
theorem gs4_one {R : Type} [Lean.Grind.CommRing R] {N s a0 b0 k0 j0 : Nat} (ha : a0 < N) (hb : b0 < N) (hk : k0 < N) (hj : j0 < s) {F : Nat → Nat → Nat → Nat → R} (h : ∀ a b k j, ¬ (a = a0 ∧ b = b0 ∧ k = k0 ∧ j = j0) → F a b k j = 0) : gs N (fun a => gs N fun b => gs N fun k => gs s fun j => F a b k j) = F a0 b0 k0 j0 := by
  rw [gs_one ha fun a _ e => gs_zero fun b _ => gs_zero fun k _ => gs_zero fun j _ => h a b k j fun q => e q.1]
  rw [gs_one hb fun b _ e => gs_zero fun k _ => gs_zero fun j _ => h a0 b k j fun q => e q.2.1]
  rw [gs_one hk fun k _ e => gs_zero fun j _ => h a0 b0 k j fun q => e q.2.2.1]
  rw [gs_one hj fun j _ e => h a0 b0 k0 j fun q => e q.2.2.2]
theorem g_ifz (p : Prop) [Decidable p] (x y : cF) : (if p then x else 0) * y = if p then x * y else 0 := by
  by_cases h : p
  · rw [if_pos h, if_pos h]
  · rw [if_neg h, if_neg h, gs_z1]
section SI
variable {D : Int} {T : Nat → cMat} {nt n : Nat} {L : Nat → cMat} {v : Nat → Int → Int} {dg : Nat → Int}
theorem sx_ind (S : sx_S D T nt n L v dg) {l : List (Int × Nat)} (hl : sx_L D T nt l) (hE : ∀ e : Nat → cF, inI (toP D (v 0)) (toP D (v 1)) (th3 D v) (cSm l.length fun j => cS (e j) (sx_e D T nt l j)) → ∀ j, j < l.length → e j = 0) {t : Nat} (t1 : t ≤ 15) (c : Nat → cF) (h : ∀ k, k < (mMany D t).toNat → lc (sx_X D dg l t).length c (sx_w D T nt v dg l t) k = 0) : ∀ i, i < (sx_X D dg l t).length → c i = 0 := by
  obtain ⟨p1, p2, p3⟩ := sx_pos S
  have nd : List.Pairwise (· ≠ ·) (sx_X D dg l t) := tJ_nd S.2.2.2.2.2.1 _ _
  have bd : ∀ i, i < (sx_X D dg l t).length → (sx_at4 (sx_X D dg l t) i).1.toNat < l.length ∧ (sx_at4 (sx_X D dg l t) i).2.1.toNat < 16 ∧ (sx_at4 (sx_X D dg l t) i).2.2.1.toNat < 16 ∧ (sx_at4 (sx_X D dg l t) i).2.2.2.toNat < 16 := by
    intro i hi
    obtain ⟨x0, x1, x2, x3, x4, x5, x6⟩ := sx_Xok S hl (sx_at4_mem hi).1
    have m1 := Nat.mul_le_mul_left (sx_at4 (sx_X D dg l t) i).2.1.toNat p1
    have m2 := Nat.mul_le_mul_left (sx_at4 (sx_X D dg l t) i).2.2.1.toNat p2
    have m3 := Nat.mul_le_mul_left (sx_at4 (sx_X D dg l t) i).2.2.2.toNat p3
    omega
  have ps : ∀ i, i < (sx_X D dg l t).length → ∀ j a b k : Nat, sx_at4 (sx_X D dg l t) i = ((j : Int), (a : Int), (b : Int), (k : Int)) → (sx_at4 (sx_X D dg l t) i).2.1.toNat = a ∧ (sx_at4 (sx_X D dg l t) i).2.2.1.toNat = b ∧ (sx_at4 (sx_X D dg l t) i).2.2.2.toNat = k ∧ (sx_at4 (sx_X D dg l t) i).1.toNat = j := by
    intro i _ j a b k e
    rw [e]
    exact ⟨Int.toNat_natCast a, Int.toNat_natCast b, Int.toNat_natCast k, Int.toNat_natCast j⟩
  have sp : ∀ i, i < (sx_X D dg l t).length → sx_at4 (sx_X D dg l t) i = (((sx_at4 (sx_X D dg l t) i).1.toNat : Int), ((sx_at4 (sx_X D dg l t) i).2.1.toNat : Int), ((sx_at4 (sx_X D dg l t) i).2.2.1.toNat : Int), ((sx_at4 (sx_X D dg l t) i).2.2.2.toNat : Int)) := by
    intro i hi
    obtain ⟨x0, x1, x2, x3, x4, x5, x6⟩ := sx_Xok S hl (sx_at4_mem hi).1
    refine Prod.ext ?_ (Prod.ext ?_ (Prod.ext ?_ ?_))
    · show _ = (((sx_at4 (sx_X D dg l t) i).1.toNat : Nat) : Int); omega
    · show _ = (((sx_at4 (sx_X D dg l t) i).2.1.toNat : Nat) : Int); omega
    · show _ = (((sx_at4 (sx_X D dg l t) i).2.2.1.toNat : Nat) : Int); omega
    · show _ = (((sx_at4 (sx_X D dg l t) i).2.2.2.toNat : Nat) : Int); omega
  have u0 : (cSm (sx_X D dg l t).length fun i => cS (c i) (sx_t D T nt v l (sx_at4 (sx_X D dg l t) i))) = c0 :=
    sv_ext S.1 t1 (sv_zsum fun i hi => sv_zS _ (sx_tz S hl (sx_at4_mem hi).1).2) ⟨fun _ _ _ _ => rfl, fun _ _ _ _ _ => rfl⟩ h
  have fr := prods_free S.2.2.2.2.2.2.1 hE 16 (fun j a b k => gs (sx_X D dg l t).length fun i => if sx_at4 (sx_X D dg l t) i = ((j : Int), (a : Int), (b : Int), (k : Int)) then c i else 0) (by
    rw [← u0]
    funext x y w
    show gs 16 (fun a => gs 16 fun b => gs 16 fun k => gs l.length fun j => (gs (sx_X D dg l t).length fun i => if sx_at4 (sx_X D dg l t) i = ((j : Int), (a : Int), (b : Int), (k : Int)) then c i else 0) * prP (toP D (v 0)) (toP D (v 1)) (th3 D v) (sx_e D T nt l) j a b k x y w) = gs (sx_X D dg l t).length fun i => c i * sx_t D T nt v l (sx_at4 (sx_X D dg l t) i) x y w
    rw [gs_congr fun a _ => gs_congr fun b _ => gs_congr fun k _ => gs_congr fun j _ => (gs_mulr (sx_X D dg l t).length (prP (toP D (v 0)) (toP D (v 1)) (th3 D v) (sx_e D T nt l) j a b k x y w) _).symm, gs4_sw]
    refine gs_congr fun i hi => ?_
    obtain ⟨b1, b2, b3, b4⟩ := bd i hi
    rw [gs4_one b2 b3 b4 b1 (fun a b k j ne => ?_)]
    · rw [if_pos (sp i hi)]
      rfl
    · rw [if_neg, gs_z1]
      intro e
      obtain ⟨q1, q2, q3, q4⟩ := ps i hi j a b k e
      exact ne ⟨q1.symm, q2.symm, q3.symm, q4.symm⟩)
  intro i hi
  obtain ⟨b1, b2, b3, b4⟩ := bd i hi
  have := fr _ _ _ _ b1 b2 b3 b4
  rw [gs_one (k := i) hi fun i' hi' ne => if_neg fun e => ne (sx_at4_inj nd hi' hi (e.trans (sp i hi).symm)), if_pos (sp i hi)] at this
  exact this
theorem sx_len (S : sx_S D T nt n L v dg) {l : List (Int × Nat)} (hl : sx_L D T nt l) (hE : ∀ e : Nat → cF, inI (toP D (v 0)) (toP D (v 1)) (th3 D v) (cSm l.length fun j => cS (e j) (sx_e D T nt l j)) → ∀ j, j < l.length → e j = 0) {t : Nat} (t1 : t ≤ 15) : (sx_X D dg l t).length ≤ (mMany D t).toNat :=
  indep_le (sx_ind S hl hE t1)
end SI
/-- the tuples rest on the degrees alone -/
theorem tJ_congr {D d0 d1 d2 d2' t : Int} {de de' : Int → Int} (h2 : D ≠ 2 → d2 = d2') : ∀ (n : Nat) (j : Int), (∀ i, j ≤ i → i < j + n → de i = de' i) → tJ D d0 d1 d2 t de n j = tJ D d0 d1 d2' t de' n j := by
  have hK : ∀ r, tK D d2 r = tK D d2' r := by
    intro r
    unfold tK
    by_cases e : D = 2
    · rw [if_pos e, if_pos e]
    · rw [h2 e]
  have hB1 : ∀ rest j a b, tB1 D d0 d1 d2 rest j a b = tB1 D d0 d1 d2' rest j a b := by
    intro rest j a b
    unfold tB1
    rw [hK]
  have hB : ∀ rest j a (n : Nat) b, tB D d0 d1 d2 rest j a n b = tB D d0 d1 d2' rest j a n b := by
    intro rest j a n
    induction n with
    | zero => intro b; rfl
    | succ n ih => intro b; rw [tB, tB, hB1, ih]
  have hA : ∀ rest j (n : Nat) a, tA D d0 d1 d2 rest j n a = tA D d0 d1 d2' rest j n a := by
    intro rest j n
    induction n with
    | zero => intro b; rfl
    | succ n ih => intro a; rw [tA, tA, hB, ih]
  intro n
  induction n with
  | zero => intro j _; rfl
  | succ n ih =>
    intro j h
    rw [tJ, tJ, hA, h j (by omega) (by omega), ih (j + 1) fun i h1 h2 => h i (by omega) (by omega)]
