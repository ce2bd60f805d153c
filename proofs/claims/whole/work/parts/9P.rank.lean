/-! ONE ROW MORE: how the rank tells -/
theorem ad_g4 {R : Type} [Lean.Grind.CommRing R] (u c x : R) : u - c * x = u + - c * x := by grind
theorem ad_g5 {R : Type} [Lean.Grind.CommRing R] (u c x : R) : u + - c * x + c * x = u := by grind
theorem inS_cut {n N m : Nat} {w : Nat → Nat → cF} {u : Nat → cF} (h : n ≤ N) (hu : inS N m w u) : inS n m w u := by
  obtain ⟨c, hc⟩ := hu
  exact ⟨c, fun k hk => hc k (by omega)⟩
/-- independent rows -/
def rInd (n r : Nat) (M : Nat → Nat → cF) : Prop := ∀ c : Nat → cF, (∀ k, k < n → lc r c M k = 0) → ∀ i, i < r → c i = 0
theorem gSt_ind {m n done : Nat} {M : Nat → Nat → cF} {p : Nat → Nat} (h : gSt m n done M p) : rInd n done M := by
  obtain ⟨a1, a2, a3, a4, a5, a6, a7, a8⟩ := h
  intro c hc i hi
  have := hc (p i) (a3 i hi)
  unfold lc at this
  rw [gs_one (k := i) hi fun q hq ne => by rw [a6 q i (by omega) hi ne, gs_z3], a5 i hi] at this
  rw [← this]
  exact (el_g4 _ _).trans (gs_z2 _) |>.symm
/-- independent ones in the span of r rows are at most r -/
theorem ind_span {n s r : Nat} {M M' : Nat → Nat → cF} (hi : rInd n s M) (hs : ∀ i, i < s → inS n r M' (M i)) : s ≤ r := by
  have ex : ∃ e : Nat → Nat → cF, ∀ i, i < s → ∀ k, k < n → M i k = lc r (e i) M' k := by
    refine ⟨fun i => @dite (Nat → cF) (i < s) (Nat.decLt i s) (fun h => Classical.choose (hs i h)) (fun _ _ => 0), fun i h k hk => ?_⟩
    have := Classical.choose_spec (hs i h) k hk
    show _ = lc r (@dite (Nat → cF) (i < s) (Nat.decLt i s) _ _) M' k
    rw [dif_pos h]
    exact this
  obtain ⟨e, he⟩ := ex
  refine indep_le (w := e) fun c hc => hi c fun k hk => ?_
  have e1 : lc s c M k = lc s c (fun i => lc r (e i) M') k := lc_congr (fun _ _ => rfl) fun i h => he i h k hk
  rw [e1, lc_lc]
  unfold lc
  exact gs_zero fun j hj => by
    show (gs s fun i => c i * e i j) * M' j k = 0
    rw [show gs s (fun i => c i * e i j) = 0 from hc j hj, gs_z1]
theorem rk_g1 {R : Type} [Lean.Grind.CommRing R] {s c x q : R} (h : s + c * x = 0) (hq : c * q = 1) : x = - q * s := by grind
theorem rk_g2 {R : Type} [Lean.Grind.CommRing R] (w c x : R) : w = (w - c * x) + c * x := by grind
theorem rk_g3 {R : Type} [Lean.Grind.CommRing R] (s c x : R) : s + c * x - c * x = s := by grind
theorem inS_succ {n r : Nat} {M : Nat → Nat → cF} {w : Nat → cF} : inS n (r + 1) M w ↔ ∃ c : cF, inS n r M (fun k => w k - c * M r k) := by
  constructor
  · rintro ⟨c, hc⟩
    refine ⟨c r, c, fun k hk => ?_⟩
    show w k - c r * M r k = lc r c M k
    rw [hc k hk]
    exact rk_g3 _ _ _
  · rintro ⟨c, h⟩
    have a : inS n (r + 1) M (fun k => w k - c * M r k) := inS_mono (by omega) h
    have b : inS n (r + 1) M (M r) := inS_row (by omega)
    exact inS_congr (inS_add a (inS_smul c b)) fun k _ => rk_g2 _ _ _
theorem inS_skip {n r : Nat} {M : Nat → Nat → cF} (h : inS n r M (M r)) (w : Nat → cF) : inS n (r + 1) M w ↔ inS n r M w :=
  ⟨fun a => inS_trans a fun i hi => by
    by_cases e : i = r
    · rw [e]; exact h
    · exact inS_row (by omega), inS_mono (by omega)⟩
/-- one row more -/
theorem rank_step {n r then_ : Nat} {M M' : Nat → Nat → cF} {p : Nat → Nat} (hn : n ≤ 160) (hi : rInd n r M) (h : gSt (r + 1) n then_ M' p) (hs : spn (r + 1) M M') : (∀ w, inS n then_ M' w ↔ inS n (r + 1) M w) ∧ rInd n then_ M' ∧ ((then_ = r ∧ inS n r M (M r)) ∨ (then_ = r + 1 ∧ ¬ inS n r M (M r))) := by
  have h2 := gSt_ind h
  have same : ∀ w, inS n then_ M' w ↔ inS n (r + 1) M w := fun w => by
    rw [← inS_short h.1 (fun q k h1 h2 h3 => h.2.2.2.2.2.2.2 q k h1 h2 h3)]
    exact ⟨fun a => inS_trans a fun i hi => inS_cut hn (hs.1 i hi), fun a => inS_trans a fun i hi => inS_cut hn (hs.2 i hi)⟩
  have le1 : then_ ≤ r + 1 := h.1
  have le2 : r ≤ then_ := ind_span hi fun i hi => (same (M i)).mpr (inS_row (by omega))
  refine ⟨same, h2, ?_⟩
  by_cases q : inS n r M (M r)
  · left
    refine ⟨?_, q⟩
    have : then_ ≤ r := ind_span h2 fun i hi => (inS_skip q _).mp ((same (M' i)).mp (inS_row hi))
    omega
  · right
    refine ⟨?_, q⟩
    have : r + 1 ≤ then_ := by
      refine ind_span (M := M) (M' := M') (fun c hc => ?_) fun i hi => (same (M i)).mpr (inS_row hi)
      have c0 : c r = 0 := by
        apply Classical.byContradiction
        intro nz
        apply q
        refine inS_congr (inS_smul (- fInv (c r)) ⟨c, fun k _ => rfl⟩) fun k hk => ?_
        exact rk_g1 (hc k hk) (fInv_mul nz)
      intro i hi2
      by_cases e : i = r
      · rw [e]; exact c0
      · refine hi c (fun k hk => ?_) i (by omega)
        have := hc k hk
        unfold lc at this ⊢
        rw [gs, c0, gs_z1] at this
        rw [← this]
        exact (Lean.Grind.Semiring.add_zero _).symm
    omega
/-! ONE secondary one more: what is spanned -/
theorem cp_g1 {R : Type} [Lean.Grind.CommRing R] (u w : R) : u = u + 0 * w := by grind
section SW
variable {D : Int} {T : Nat → cMat} {nt n : Nat} {L : Nat → cMat} {v : Nat → Int → Int} {dg : Nat → Int}
theorem cAdd_0 (u : cP) : cAdd c0 u = u := by
  funext a b c
  show 0 + u a b c = u a b c
  exact Lean.Grind.AddCommMonoid.zero_add _
theorem cS_1 (u : cP) : cS 1 u = u := by
  funext a b c
  exact gs_z2 _
theorem ad_g1 {R : Type} [Lean.Grind.CommRing R] (a c x b d : R) : a + c * x + (b + d * x) = a + b + (c + d) * x := by grind
theorem ad_g2 {R : Type} [Lean.Grind.CommRing R] (k a c x : R) : k * (a + c * x) = k * a + k * c * x := by grind
theorem ad_g3 {R : Type} [Lean.Grind.CommRing R] {u u0 c x : R} (h : u = u0 + c * x) : u0 = u - c * x := by grind
theorem sx_more (S : sx_S D T nt n L v dg) {l : List (Int × Nat)} {t : Nat} {x : Int × Nat} (hx : x.1 = t) {m : Nat} {u : cP} (h : sx_p D T nt v dg (l ++ [x]) m u) : (m < t → sx_p D T nt v dg l m u) ∧ (m = t → ∃ (c : cF) (u0 : cP), sx_p D T nt v dg l t u0 ∧ u = cAdd u0 (cS c (toP D (sx_b D T nt x)))) := by
  obtain ⟨p1, p2, p3⟩ := sx_pos S
  have low : ∀ {m : Nat} {u : cP}, m = t → sx_p D T nt v dg l m u → ∃ (c : cF) (u0 : cP), sx_p D T nt v dg l t u0 ∧ u = cAdd u0 (cS c (toP D (sx_b D T nt x))) := by
    intro m u e hu
    subst e
    refine ⟨0, u, hu, ?_⟩
    funext a b c
    exact cp_g1 _ _
  refine h (fun m u => (m < t → sx_p D T nt v dg l m u) ∧ (m = t → ∃ (c : cF) (u0 : cP), sx_p D T nt v dg l t u0 ∧ u = cAdd u0 (cS c (toP D (sx_b D T nt x))))) ?_ ?_ ?_ ?_ ?_ ?_ ?_
  · intro j hj
    rw [List.length_append] at hj
    have hj' : j < l.length + 1 := hj
    by_cases e : j = l.length
    · subst e
      have e1 : sx_d (l ++ [x]) l.length = t := by unfold sx_d; rw [sx_last, hx]; exact Int.toNat_natCast t
      have e2 : sx_e D T nt (l ++ [x]) l.length = toP D (sx_b D T nt x) := by unfold sx_e; rw [sx_last]
      rw [e1, e2]
      refine ⟨fun q => by omega, fun _ => ⟨1, c0, pSp_0, ?_⟩⟩
      rw [cAdd_0, cS_1]
    · have hl : j < l.length := by omega
      rw [(sx_eap hl).1, (sx_dap hl)]
      have g : sx_p D T nt v dg l (sx_d l j) (sx_e D T nt l j) := pSp_gen hl
      exact ⟨fun _ => g, fun e => low e g⟩
  · intro m u ⟨a, b⟩
    exact ⟨fun q => pSp_t1 (a (by omega)), fun e => low e (pSp_t1 (a (by omega)))⟩
  · intro m u ⟨a, b⟩
    exact ⟨fun q => pSp_t2 (a (by omega)), fun e => low e (pSp_t2 (a (by omega)))⟩
  · intro m u ⟨a, b⟩
    exact ⟨fun q => pSp_t3 (a (by omega)), fun e => low e (pSp_t3 (a (by omega)))⟩
  · intro m u w ⟨a, b⟩ ⟨a', b'⟩
    refine ⟨fun q => pSp_add (a q) (a' q), fun e => ?_⟩
    obtain ⟨c, u0, h1, h2⟩ := b e
    obtain ⟨c', u0', h1', h2'⟩ := b' e
    refine ⟨c + c', cAdd u0 u0', pSp_add h1 h1', ?_⟩
    rw [h2, h2']
    funext i j k
    exact ad_g1 _ _ _ _ _
  · intro m k u ⟨a, b⟩
    refine ⟨fun q => pSp_S k (a q), fun e => ?_⟩
    obtain ⟨c, u0, h1, h2⟩ := b e
    refine ⟨k * c, cS k u0, pSp_S k h1, ?_⟩
    rw [h2]
    funext i j q
    exact ad_g2 _ _ _ _
  · intro m
    exact ⟨fun _ => pSp_0, fun e => low e pSp_0⟩
theorem sv_sub {D : Int} (hD : D = 2 ∨ D = 3) {t : Nat} (t1 : t ≤ 15) (w b : Nat → cF) (c : cF) : toP D (bRow D t fun k => w k - c * b k) = cAdd (toP D (bRow D t w)) (cS (- c) (toP D (bRow D t b))) := by
  refine sv_ext hD t1 (sv_zrow hD t1 _) ⟨fun i j k h => ?_, fun e i j k h => ?_⟩ fun k hk => ?_
  · show toP D (bRow D t w) i j k + - c * toP D (bRow D t b) i j k = 0
    rw [(sv_zrow hD t1 w).1 i j k h, (sv_zrow hD t1 b).1 i j k h, gs_z3]
    exact Lean.Grind.Semiring.add_zero _
  · show toP D (bRow D t w) i j k + - c * toP D (bRow D t b) i j k = 0
    rw [(sv_zrow hD t1 w).2 e i j k h, (sv_zrow hD t1 b).2 e i j k h, gs_z3]
    exact Lean.Grind.Semiring.add_zero _
  · rw [sv_crow hD t1 _ hk, sv_cA, sv_cS, sv_crow hD t1 _ hk, sv_crow hD t1 _ hk]
    exact ad_g4 _ _ _
/-- the same, as vectors -/
theorem sx_vec (S : sx_S D T nt n L v dg) {l : List (Int × Nat)} {t r : Nat} (t1 : t ≤ 15) (w : Nat → cF) : sx_p D T nt v dg (l ++ [((t : Int), r)]) t (toP D (bRow D t w)) ↔ ∃ c : cF, sx_p D T nt v dg l t (toP D (bRow D t fun k => w k - c * (bsX D T nt t).2 r k)) := by
  constructor
  · intro h
    obtain ⟨c, u0, h1, h2⟩ := (sx_more S (t := t) (x := ((t : Int), r)) rfl h).2 rfl
    refine ⟨c, ?_⟩
    rw [sv_sub S.1 t1]
    have : u0 = cAdd (toP D (bRow D t w)) (cS (- c) (toP D (bRow D t ((bsX D T nt t).2 r)))) := by
      funext i j k
      have e := congrFun (congrFun (congrFun h2 i) j) k
      exact (ad_g3 e).trans (ad_g4 _ _ _)
    rw [← this]
    exact h1
  · rintro ⟨c, h⟩
    rw [sv_sub S.1 t1] at h
    have a := sx_pap [((t : Int), r)] h
    have b := pSp_S c (sx_new (D := D) (T := T) (nt := nt) (v := v) (dg := dg) (l := l) ((t : Int), r))
    have e := pSp_add a b
    have : cAdd (cAdd (toP D (bRow D t w)) (cS (- c) (toP D (bRow D t ((bsX D T nt t).2 r))))) (cS c (toP D (sx_b D T nt ((t : Int), r)))) = toP D (bRow D t w) := by
      funext i j k
      exact ad_g5 _ _ _
    rw [this] at e
    exact e
end SW
