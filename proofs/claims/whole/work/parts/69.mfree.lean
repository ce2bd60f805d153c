/-! THE FREE ONES by the reference, laid in steps -/
theorem nf_lt (n : Nat) {f g : Nat} (h : f < g) : (n : Int) * f + n ≤ n * g := by
  have : (n : Int) * ((f : Int) + 1) ≤ n * g := Int.mul_le_mul_of_nonneg_left (by omega) (by omega)
  rw [Int.mul_add, Int.mul_one] at this
  exact this
theorem nf_bd {n f : Nat} (hn : n ≤ 136) (hf : f < n) : 0 ≤ (n : Int) * f ∧ (n : Int) * f + n ≤ 18496 := by
  have a := nf_lt n hf
  have b := mul_bd (x := (n : Int)) (y := (n : Int)) (X := 136) (Y := 136) (by omega) (by omega) (by omega) (by omega)
  have c := Int.mul_nonneg (a := (n : Int)) (b := (f : Int)) (by omega) (by omega)
  omega
theorem ph_ex (piv : Nat → Bool) (n : Nat) : ∃ ph : Nat → Nat, ∀ k, k < n → piv k = false → ph (cfr piv k) = k := by
  refine ⟨fun f => @dite Nat (∃ k, k < n ∧ piv k = false ∧ cfr piv k = f) (Classical.propDecidable _) (fun h => Classical.choose h) (fun _ => 0), fun k hk pk => ?_⟩
  have h : ∃ k', k' < n ∧ piv k' = false ∧ cfr piv k' = cfr piv k := ⟨k, hk, pk, rfl⟩
  have e := Classical.choose_spec h
  show @dite Nat _ (Classical.propDecidable _) _ _ = k
  rw [dif_pos h]
  exact cfr_inj e.2.1 pk e.2.2
theorem mA226 : mA 226 := ⟨by decide, by decide⟩
section MFR
variable {d : Nat} {z : cm_Z} {I : cm_I}
theorem s_laysFree (hz : mz z) (ok6 : okR (I 226)) (ok30 : okR (I 230)) {m n done : Nat} {p : Nat → Nat} {t bf : Int} (t0 : 0 ≤ t) (t1 : t ≤ 15) (n1 : n ≤ 136) (hS : gSt m n done (mx (I 226)) p) (hp : ∀ i : Nat, i < done → I 227 (i : Int) = (p i : Int)) (hbf : I 229 t = bf) (b0 : 0 ≤ bf) (b1 : bf + (n : Int) * n ≤ 72000) : mI (d + 3) m_Model_laysFree [vR 12 209, vI t, vI (n : Int), vI (done : Int)] z I fun r I1 => fr [226, 227, 230, 231, 232] I I1 ∧ okR (I1 226) ∧ okR (I1 230) ∧ (∀ x, x < bf → I1 230 x = I 230 x) ∧ ∃ (rows : Nat) (h : Nat → Nat) (B : Nat → Nat → cF), r = (rows : Int) ∧ rows ≤ n ∧ isRB n rows h B (sol m n (mx (I 226))) ∧ ∀ i k : Nat, i < rows → k < n → I1 230 (bf + (n : Int) * i + k) = fi (B i k) := by
  obtain ⟨a1, a2, a3, a4, a5, a6, a7, a8⟩ := id hS
  generalize hX : (fun (r : Int) (I1 : cm_I) => fr [226, 227, 230, 231, 232] I I1 ∧ okR (I1 226) ∧ okR (I1 230) ∧ (∀ x, x < bf → I1 230 x = I 230 x) ∧ ∃ (rows : Nat) (h : Nat → Nat) (B : Nat → Nat → cF), r = (rows : Int) ∧ rows ≤ n ∧ isRB n rows h B (sol m n (mx (I 226))) ∧ ∀ i k : Nat, i < rows → k < n → I1 230 (bf + (n : Int) * i + k) = fi (B i k)) = X
  obtain ⟨ph, hph⟩ := ph_ex (isPv done p) n
  generalize hV : sol m n (mx (I 226)) = V at hX
  generalize hfv : (fun k => fvc done (mx (I 226)) p k done) = fv
  have fvV : ∀ k, k < n → isPv done p k = false → V (fv k) := fun k hk nk => by
    rw [← hV, ← hfv]
    exact free_sol hS hk nk
  have fvS : ∀ u, V u → ∀ j, j < n → u j = lc (cfr (isPv done p) n) (fun f => u (ph f)) (fun f => fv (ph f)) j := fun u hu j hj => by
    rw [← hV] at hu
    rw [← hfv]
    exact free_span hS ph hph hu hj
  generalize hfo : cfr (isPv done p) n = fo at fvS
  have fo_n : fo ≤ n := by rw [← hfo]; exact cfr_le _ _
  have phf : ∀ f, f < fo → ph f < n ∧ isPv done p (ph f) = false := by
    intro f hf
    rw [← hfo] at hf
    obtain ⟨k, h1, h2, h3⟩ := cfr_ex n f hf
    rw [← h3, hph k h1 h2]
    exact ⟨h1, h2⟩
  have Vlc : ∀ (q : Nat) (c : Nat → cF) (w : Nat → Nat → cF), (∀ i, i < q → V (w i)) → V (lc q c w) := by
    intro q c w hw
    rw [← hV]
    intro e he
    have : gs n (fun k => mx (I 226) e k * lc q c w k) = gs n (fun k => lc q c w k * mx (I 226) e k) := gs_congr fun k _ => el_g4 _ _
    rw [this, dot_lc]
    refine gs_zero fun i hi => ?_
    have hwi := hw i hi
    rw [← hV] at hwi
    have := hwi e he
    rw [gs_congr (g := fun k => mx (I 226) e k * w i k) (fun k _ => el_g4 _ _), this, gs_z3]
  have Vco : ∀ u v : Nat → cF, V u → (∀ k, k < n → v k = u k) → V v := by
    intro u v hu huv
    rw [← hV] at hu ⊢
    intro e he
    rw [gs_congr (g := fun k => mx (I 226) e k * u k) (fun k hk => by rw [huv k hk])]
    exact hu e he
  -- the rows of the base are put
  have k247 : ∀ (rows : Nat) (h : Nat → Nat) (n2 r : Nat) (I0 J : cm_I) (z3 z4 z7 : Option cm_V), r + n2 = rows → rows ≤ n → isRB n rows h (mx (J 226)) V → okR (J 226) → fr [226, 227, 230, 231, 232] I J → fr [230] J I0 → okR (I0 230) → (∀ x, x < bf → I0 230 x = I 230 x) → (∀ i k : Nat, i < r → k < n → I0 230 (bf + (n : Int) * i + k) = J 226 (160 * (i : Int) + k)) → cw (d + 2) cd_Model_laysFree (qI z X) 247 [some (vR 12 209), some (vI t), some (vI (n : Int)), z3, z4, some (vI (rows : Int)), some (vI (r : Int)), z7] [] (I0, z) := by
    intro rows h n2
    induction n2 with
    | zero =>
      intro r I0 J z3 z4 z7 er hrn hB oJ fJ f0 o0 lo put
      refine mr_laysFree_247 hz ⟨fun _ => qI_mk ?_, fun x => by omega⟩
      rw [← hX]
      refine ⟨fr_trans fJ (fr_mono f0 (by decide)), by rw [f0 226 (by decide)]; exact oJ, o0, lo, rows, h, mx (J 226), rfl, hrn, hB, fun i k hi hk => ?_⟩
      rw [put i k (by omega) hk]
      unfold mx
      rw [fi_toF]
      have := oJ (160 * (i : Int) + k)
      omega
    | succ n2 ih =>
      intro r I0 J z3 z4 z7 er hrn hB oJ fJ f0 o0 lo put
      have nb := nf_bd n1 (show r < n by omega)
      have nl := nf_lt n (show r < n by omega)
      have e29 : ∀ I5 : cm_I, fr [230] J I5 → I5 229 t = bf := fun I5 h5 => by rw [h5 229 (by decide), fJ 229 (by decide)]; exact hbf
      have k257 : ∀ (n3 k : Nat) (I5 : cm_I), k + n3 = n → fr [230] J I5 → okR (I5 230) → (∀ x, x < bf → I5 230 x = I 230 x) → (∀ i j : Nat, (i < r ∨ (i = r ∧ j < k)) → j < n → I5 230 (bf + (n : Int) * i + j) = J 226 (160 * (i : Int) + j)) → cw (d + 2) cd_Model_laysFree (qI z X) 257 [some (vR 12 209), some (vI t), some (vI (n : Int)), z3, z4, some (vI (rows : Int)), some (vI (r : Int)), some (vI (k : Int))] [] (I5, z) := by
        intro n3
        induction n3 with
        | zero =>
          intro k I5 ek f5 o5 lo5 put5
          refine mr_laysFree_257 hz ⟨fun _ => ⟨⟨by omega, by omega⟩, ?_⟩, fun x => by omega⟩
          have := ih (r + 1) I5 J z3 z4 (some (vI (k : Int))) (by omega) hrn hB oJ fJ f5 o5 lo5 fun i j hi hj => put5 i j (by omega) hj
          rw [show ((r + 1 : Nat) : Int) = (r : Int) + 1 by omega] at this
          exact this
        | succ n3 ih3 =>
          intro k I5 ek f5 o5 lo5 put5
          refine mr_laysFree_257 hz ⟨fun x => by omega, fun _ => ?_⟩
          rw [e29 I5 f5, f5 226 (by decide)]
          refine ⟨⟨by omega, by omega⟩, ⟨by omega, by omega⟩, ⟨by omega, by omega⟩, ⟨by omega, by omega⟩, ⟨by omega, by omega⟩, ⟨by omega, by omega⟩, ⟨by omega, by omega⟩, ⟨by omega, by omega⟩, fun I10 e10 => ⟨⟨by omega, by omega⟩, ?_⟩⟩
          obtain ⟨f10, g10⟩ := fr_eq_iu e10
          have := ih3 (k + 1) I10 (by omega) (fr_trans f5 f10) (by rw [g10]; exact okR_st o5 (oJ _).1 (oJ _).2) (fun x hx => ?_) (fun i j hij hj => ?_)
          · rw [show ((k + 1 : Nat) : Int) = (k : Int) + 1 by omega] at this
            exact this
          · rw [g10]
            show (if x = _ then _ else _) = _
            rw [if_neg (by omega)]
            exact lo5 x hx
          · rw [g10]
            show (if bf + (n : Int) * i + j = _ then _ else _) = _
            by_cases e : i = r ∧ j = k
            · rw [e.1, e.2, if_pos rfl]
            · rw [if_neg]
              · exact put5 i j (by omega) hj
              · intro x
                by_cases ei : i = r
                · rw [ei] at x; omega
                · have := nf_lt n (show i < r by omega)
                  omega
      refine mr_laysFree_247 hz ⟨fun x => by omega, fun _ => k257 n 0 I0 (by omega) f0 o0 lo fun i j hij hj => put i j (by omega) hj⟩
  -- free ones become rows
  have k175 : ∀ (n2 r : Nat) (I0 J : cm_I) (z3 z6 z7 : Option cm_V), r + n2 = fo → fr [226, 227, 230, 231, 232] I J → J 230 = I 230 → (∀ f j : Nat, f < fo → j < n → J 232 ((n : Int) * f + j) = fi (fv (ph f) j)) → fr [226] J I0 → okR (I0 226) → (∀ f j : Nat, f < r → j < 160 → I0 226 (160 * (f : Int) + j) = if j < n then fi (fv (ph f) j) else 0) → cw (d + 2) cd_Model_laysFree (qI z X) 175 [some (vR 12 209), some (vI t), some (vI (n : Int)), z3, some (vI (fo : Int)), some (vI (r : Int)), z6, z7] [] (I0, z) := by
    intro n2
    induction n2 with
    | zero =>
      intro r I0 J z3 z6 z7 er fJ e30 hfree f0 o0 put
      refine mr_laysFree_175 hz ⟨fun _ => mI_mono (s_steps hz o0 (m := fo) (cols := n) (by omega) (by omega)) fun v2 I1 ⟨f1, o1, out1, dn, p', ev, hS', hsp, hp'⟩ => ?_, fun x => by omega⟩
      have hrow : ∀ f j : Nat, f < fo → j < n → mx (I0 226) f j = fv (ph f) j := by
        intro f j hf hj
        unfold mx
        rw [put f j (by omega) (by omega), if_pos hj, toF_fi]
      have hB : isRB n dn p' (mx (I1 226)) V := by
        refine gSt_RB hS' (fun i hi => ?_) (fun v hv => ?_)
        · obtain ⟨c, hc⟩ := hsp.1 i hi
          refine Vco (lc fo c (fun f => fv (ph f))) _ (Vlc fo c _ fun f hf => fvV _ (phf f hf).1 (phf f hf).2) fun k hk => ?_
          rw [hc k (by omega)]
          exact lc_congr (fun _ _ => rfl) fun f hf => hrow f k hf hk
        · have e := fvS v hv
          have : inS n fo (mx (I1 226)) v := by
            refine inS_trans (m := fo) (w := mx (I0 226)) ⟨fun f => v (ph f), fun k hk => ?_⟩ fun i hi => ?_
            · rw [e k hk]
              exact lc_congr (fun _ _ => rfl) fun f hf => (hrow f k hf hk).symm
            · obtain ⟨c, hc⟩ := hsp.2 i hi
              exact ⟨c, fun k hk => hc k (by omega)⟩
          exact this
      have dn_n : dn ≤ n := hS'.2.1
      rw [ev]
      exact k247 dn p' dn 0 I1 I1 _ _ _ (by omega) dn_n hB o1 (fr_trans fJ (fr_trans (fr_mono f0 (by decide)) (fr_mono f1 (by decide)))) (fr_refl _ _) (by rw [f1 230 (by decide), f0 230 (by decide), e30]; exact ok30) (fun x _ => by rw [f1 230 (by decide), f0 230 (by decide), e30]) fun i k hi => by omega
    | succ n2 ih =>
      intro r I0 J z3 z6 z7 er fJ e30 hfree f0 o0 put
      have nb := nf_bd n1 (show r < n by omega)
      refine mr_laysFree_175 hz ⟨fun x => by omega, fun _ => mU_mono (s_clearsRow hz (by omega) (by omega) o0) fun I3 ⟨f3, g3, o3⟩ => ?_⟩
      have k191 : ∀ (n3 k : Nat) (I5 : cm_I), k + n3 = n → fr [226] J I5 → okR (I5 226) → (∀ f j : Nat, (f < r ∨ (f = r ∧ (j < k ∨ n ≤ j))) → j < 160 → I5 226 (160 * (f : Int) + j) = if j < n then fi (fv (ph f) j) else 0) → cw (d + 2) cd_Model_laysFree (qI z X) 191 [some (vR 12 209), some (vI t), some (vI (n : Int)), z3, some (vI (fo : Int)), some (vI (r : Int)), some (vI (k : Int)), z7] [] (I5, z) := by
        intro n3
        induction n3 with
        | zero =>
          intro k I5 ek f5 o5 put5
          refine mr_laysFree_191 hz ⟨fun _ => ⟨⟨by omega, by omega⟩, ?_⟩, fun x => by omega⟩
          have := ih (r + 1) I5 J z3 (some (vI (k : Int))) z7 (by omega) fJ e30 hfree f5 o5 fun f j hf hj => put5 f j (by omega) hj
          rw [show ((r + 1 : Nat) : Int) = (r : Int) + 1 by omega] at this
          exact this
        | succ n3 ih3 =>
          intro k I5 ek f5 o5 put5
          have hv : I5 232 ((n : Int) * r + k) = fi (fv (ph r) k) := by rw [f5 232 (by decide)]; exact hfree r k (by omega) (by omega)
          refine mr_laysFree_191 hz ⟨fun x => by omega, fun _ => ?_⟩
          rw [hv]
          have fb := fi_bd (fv (ph r) k)
          refine ⟨⟨by omega, by omega⟩, ⟨by omega, by omega⟩, ⟨by omega, by omega⟩, ⟨by omega, by omega⟩, ⟨by omega, by omega⟩, ⟨by omega, by omega⟩, fun I8 e8 => ⟨⟨by omega, by omega⟩, ?_⟩⟩
          obtain ⟨f8, g8⟩ := fr_eq_iu e8
          have := ih3 (k + 1) I8 (by omega) (fr_trans f5 f8) (by rw [g8]; exact okR_st o5 fb.1 fb.2) (fun f j hfj hj => ?_)
          · rw [show ((k + 1 : Nat) : Int) = (k : Int) + 1 by omega] at this
            exact this
          · rw [g8]
            show (if 160 * (f : Int) + j = _ then _ else _) = _
            by_cases e : f = r ∧ j = k
            · rw [if_pos (by omega), if_pos (by omega), e.1, e.2]
            · rw [if_neg (by omega)]
              exact put5 f j (by omega) hj
      refine k191 n 0 I3 (by omega) (fr_trans f0 f3) o3 fun f j hfj hj => ?_
      rw [g3]
      unfold fillF
      by_cases e : f = r
      · rw [if_pos (by omega), if_neg (by omega)]
      · rw [if_neg (by omega)]
        exact put f j (by omega) hj
  -- the free ones
  have k57 : ∀ (n2 k : Nat) (I0 : cm_I) (z6 z7 : Option cm_V), k + n2 = n → fr [231, 232] I I0 → (∀ j : Nat, j < n → I0 231 (j : Int) = if isPv done p j = true then 1 else 0) → (∀ k' j : Nat, k' < k → isPv done p k' = false → j < n → I0 232 ((n : Int) * (cfr (isPv done p) k') + j) = fi (fv k' j)) → cw (d + 2) cd_Model_laysFree (qI z X) 57 [some (vR 12 209), some (vI t), some (vI (n : Int)), some (vI (done : Int)), some (vI (cfr (isPv done p) k : Int)), some (vI (k : Int)), z6, z7] [] (I0, z) := by
    intro n2
    induction n2 with
    | zero =>
      intro k I0 z6 z7 ek f0 hpv put
      refine mr_laysFree_57 hz ⟨fun _ => ?_, fun x => by omega⟩
      have ef : cfr (isPv done p) k = fo := by rw [← hfo, show k = n by omega]
      rw [ef]
      refine k175 fo 0 I0 I0 _ _ _ (by omega) (fr_mono f0 (by decide)) (f0 230 (by decide)) (fun f j hf hj => ?_) (fr_refl _ _) (by rw [f0 226 (by decide)]; exact ok6) fun f j hf => by omega
      obtain ⟨k', h1, h2, h3⟩ := cfr_ex n f (by rw [hfo]; exact hf)
      rw [← h3, hph k' h1 h2]
      exact put k' j (by omega) h2 hj
    | succ n2 ih =>
      intro k I0 z6 z7 ek f0 hpv put
      refine mr_laysFree_57 hz ⟨fun x => by omega, fun _ => ⟨⟨by omega, by omega⟩, ?_⟩⟩
      rw [hpv k (by omega)]
      have ck := cfr_le (isPv done p) k
      refine ⟨fun x => ⟨⟨by omega, by omega⟩, ?_⟩, fun x => ?_⟩
      · have pk : isPv done p k = true := Classical.byContradiction fun y => x (by rw [if_neg y])
        have := ih (k + 1) I0 z6 z7 (by omega) f0 hpv fun k' j hk' nk' hj => by
          by_cases e : k' = k
          · rw [e, pk] at nk'; exact Bool.noConfusion nk'
          · exact put k' j (by omega) nk' hj
        rw [cfr, if_pos pk, show ((k + 1 : Nat) : Int) = (k : Int) + 1 by omega] at this
        exact this
      · have pk : isPv done p k = false := by
          by_cases y : isPv done p k = true
          · rw [if_pos y] at x; exact absurd x (by decide)
          · exact Bool.eq_false_iff.mpr y
        have nb := nf_bd n1 (show cfr (isPv done p) k < n by omega)
        -- what the rows take
        have k115 : ∀ (n3 r : Nat) (I5 : cm_I) (z7 : Option cm_V), r + n3 = done → fr [231, 232] I I5 → I5 231 = I0 231 → (∀ k' j : Nat, k' < k → isPv done p k' = false → j < n → I5 232 ((n : Int) * (cfr (isPv done p) k') + j) = fi (fv k' j)) → (∀ j : Nat, j < n → I5 232 ((n : Int) * (cfr (isPv done p) k) + j) = fi (fvc done (mx (I 226)) p k r j)) → cw (d + 2) cd_Model_laysFree (qI z X) 115 [some (vR 12 209), some (vI t), some (vI (n : Int)), some (vI (done : Int)), some (vI (cfr (isPv done p) k : Int)), some (vI (k : Int)), some (vI (r : Int)), z7] [] (I5, z) := by
          intro n3
          induction n3 with
          | zero =>
            intro r I5 z7 er f5 e31 put5 row5
            refine mr_laysFree_115 hz ⟨fun _ => ⟨⟨by omega, by omega⟩, ⟨by omega, by omega⟩, ?_⟩, fun y => by omega⟩
            have := ih (k + 1) I5 (some (vI (r : Int))) z7 (by omega) f5 (fun j hj => by rw [e31]; exact hpv j hj) fun k' j hk' nk' hj => by
              by_cases e : k' = k
              · rw [e, row5 j hj, ← hfv, show r = done by omega]
              · exact put5 k' j (by omega) nk' hj
            rw [cfr, if_neg (by rw [pk]; decide), show ((k + 1 : Nat) : Int) = (k : Int) + 1 by omega, show ((cfr (isPv done p) k + 1 : Nat) : Int) = (cfr (isPv done p) k : Int) + 1 by omega] at this
            exact this
          | succ n3 ih3 =>
            intro r I5 z7 er f5 e31 put5 row5
            have er27 : I5 227 (r : Int) = (p r : Int) := by rw [f5 227 (by decide)]; exact hp r (by omega)
            have e26 : I5 226 = I 226 := f5 226 (by decide)
            have prn := a3 r (by omega)
            have o6 := ok6 (160 * (r : Int) + k)
            refine mr_laysFree_115 hz ⟨fun y => by omega, fun _ => ?_⟩
            rw [er27, e26]
            refine ⟨⟨by omega, by omega⟩, ⟨by omega, by omega⟩, ⟨by omega, by omega⟩, ⟨by omega, by omega⟩, ⟨by omega, by omega⟩, ⟨by omega, by omega⟩, ⟨by omega, by omega⟩, mI_mono (s_of hz _) fun v11 I10 ⟨e10, ev⟩ => ⟨⟨by omega, by omega⟩, fun I13 e13 => ⟨⟨by omega, by omega⟩, ?_⟩⟩⟩
            rw [e10] at e13
            obtain ⟨f13, g13⟩ := fr_eq_iu e13
            have := ih3 (r + 1) I13 z7 (by omega) (fr_trans f5 (fr_mono f13 (by decide))) (by rw [f13 231 (by decide)]; exact e31) (fun k' j hk' nk' hj => ?_) (fun j hj => ?_)
            · rw [show ((r + 1 : Nat) : Int) = (r : Int) + 1 by omega] at this
              exact this
            · rw [g13]
              show (if (n : Int) * (cfr (isPv done p) k' : Int) + j = _ then _ else _) = _
              have lt : cfr (isPv done p) k' < cfr (isPv done p) k := by
                have := cfr_mono (isPv done p) (j := k' + 1) (k := k) (by omega)
                rw [cfr, if_neg (by rw [nk']; decide)] at this
                omega
              have := nf_lt n lt
              rw [if_neg (by omega)]
              exact put5 k' j hk' nk' hj
            · rw [g13]
              show (if (n : Int) * (cfr (isPv done p) k : Int) + j = _ then _ else _) = fi (if j = p r then - mx (I 226) r k else fvc done (mx (I 226)) p k r j)
              by_cases e : j = p r
              · rw [if_pos (by omega), if_pos e, ev]
                have : - mx (I 226) r k = toF (-(I 226 (160 * (r : Int) + k))) := by rw [toF_neg]; rfl
                rw [this, fi_toF]
              · rw [if_neg (by omega), if_neg e]
                exact row5 j hj
        have k76 : ∀ (n3 c : Nat) (I5 : cm_I) (z7 : Option cm_V), c + n3 = n → fr [231, 232] I I5 → I5 231 = I0 231 → (∀ k' j : Nat, k' < k → isPv done p k' = false → j < n → I5 232 ((n : Int) * (cfr (isPv done p) k') + j) = fi (fv k' j)) → (∀ j : Nat, j < c → I5 232 ((n : Int) * (cfr (isPv done p) k) + j) = if j = k then 1 else 0) → cw (d + 2) cd_Model_laysFree (qI z X) 76 [some (vR 12 209), some (vI t), some (vI (n : Int)), some (vI (done : Int)), some (vI (cfr (isPv done p) k : Int)), some (vI (k : Int)), some (vI (c : Int)), z7] [] (I5, z) := by
          intro n3
          induction n3 with
          | zero =>
            intro c I5 z7 ec f5 e31 put5 row5
            refine mr_laysFree_76 hz ⟨fun _ => k115 done 0 I5 _ (by omega) f5 e31 put5 fun j hj => ?_, fun y => by omega⟩
            rw [row5 j (by omega)]
            show _ = fi (if j = k then 1 else 0)
            by_cases e : j = k
            · rw [if_pos e, if_pos e]; rfl
            · rw [if_neg e, if_neg e]; rfl
          | succ n3 ih3 =>
            intro c I5 z7 ec f5 e31 put5 row5
            have nxt : ∀ (w : Int) (I7 : cm_I), (w = if c = k then 1 else 0) → I7 = iu I5 232 ((n : Int) * (cfr (isPv done p) k : Int) + (c : Int)) w → cw (d + 2) cd_Model_laysFree (qI z X) 76 [some (vR 12 209), some (vI t), some (vI (n : Int)), some (vI (done : Int)), some (vI (cfr (isPv done p) k : Int)), some (vI (k : Int)), some (vI ((c : Int) + 1)), z7] [] (I7, z) := by
              intro w I7 hw e7
              obtain ⟨f7, g7⟩ := fr_eq_iu e7
              have := ih3 (c + 1) I7 z7 (by omega) (fr_trans f5 (fr_mono f7 (by decide))) (by rw [f7 231 (by decide)]; exact e31) (fun k' j hk' nk' hj => ?_) (fun j hj => ?_)
              · rw [show ((c + 1 : Nat) : Int) = (c : Int) + 1 by omega] at this
                exact this
              · rw [g7]
                show (if (n : Int) * (cfr (isPv done p) k' : Int) + j = _ then _ else _) = _
                have lt : cfr (isPv done p) k' < cfr (isPv done p) k := by
                  have := cfr_mono (isPv done p) (j := k' + 1) (k := k) (by omega)
                  rw [cfr, if_neg (by rw [nk']; decide)] at this
                  omega
                have := nf_lt n lt
                rw [if_neg (by omega)]
                exact put5 k' j hk' nk' hj
              · rw [g7]
                show (if (n : Int) * (cfr (isPv done p) k : Int) + j = _ then _ else _) = _
                by_cases e : j = c
                · rw [if_pos (by omega), hw, e]
                · rw [if_neg (by omega)]
                  exact row5 j (by omega)
            refine mr_laysFree_76 hz ⟨fun y => by omega, fun _ => ⟨⟨by omega, by omega⟩, ⟨by omega, by omega⟩, fun y => ⟨⟨by omega, by omega⟩, fun I4 e4 => ⟨⟨by omega, by omega⟩, nxt 0 I4 (by rw [if_neg (by omega)]) e4⟩⟩, fun y => ⟨⟨by omega, by omega⟩, fun I7 e7 => ⟨⟨by omega, by omega⟩, nxt 1 I7 (by rw [if_pos (by omega)]) e7⟩⟩⟩⟩
        exact k76 n 0 I0 _ (by omega) f0 rfl put fun j hj => by omega
  -- first columns are marked
  have k26 : ∀ (n2 r : Nat) (I0 : cm_I) (z5 z6 z7 : Option cm_V), r + n2 = done → fr [231] I I0 → (∀ j : Nat, j < n → I0 231 (j : Int) = if isPv r p j = true then 1 else 0) → cw (d + 2) cd_Model_laysFree (qI z X) 26 [some (vR 12 209), some (vI t), some (vI (n : Int)), some (vI (done : Int)), some (vI (r : Int)), z5, z6, z7] [] (I0, z) := by
    intro n2
    induction n2 with
    | zero =>
      intro r I0 z5 z6 z7 er f0 hpv
      refine mr_laysFree_26 hz ⟨fun _ => ?_, fun x => by omega⟩
      rw [show r = done by omega] at hpv
      exact k57 n 0 I0 _ _ (by omega) (fr_mono f0 (by decide)) hpv fun k' j hk' => by omega
    | succ n2 ih =>
      intro r I0 z5 z6 z7 er f0 hpv
      have er27 : I0 227 (r : Int) = (p r : Int) := by rw [f0 227 (by decide)]; exact hp r (by omega)
      have prn := a3 r (by omega)
      refine mr_laysFree_26 hz ⟨fun x => by omega, fun _ => ?_⟩
      rw [er27]
      refine ⟨⟨by omega, by omega⟩, ⟨by omega, by omega⟩, fun I3 e3 => ⟨⟨by omega, by omega⟩, ?_⟩⟩
      obtain ⟨f3, g3⟩ := fr_eq_iu e3
      have := ih (r + 1) I3 z5 z6 z7 (by omega) (fr_trans f0 f3) fun j hj => ?_
      · rw [show ((r + 1 : Nat) : Int) = (r : Int) + 1 by omega] at this
        exact this
      · rw [g3]
        show (if (j : Int) = (p r : Int) then _ else _) = _
        by_cases e : j = p r
        · rw [if_pos (by omega), if_pos (isPv_iff.mpr ⟨r, by omega, e.symm⟩)]
        · rw [if_neg (by omega), hpv j hj]
          by_cases y : isPv r p j = true
          · obtain ⟨i, hi, ei⟩ := isPv_iff.mp y
            rw [if_pos y, if_pos (isPv_iff.mpr ⟨i, by omega, ei⟩)]
          · rw [if_neg y, if_neg]
            intro w
            obtain ⟨i, hi, ei⟩ := isPv_iff.mp w
            by_cases q : i = r
            · rw [q] at ei; omega
            · exact y (isPv_iff.mpr ⟨i, by omega, ei⟩)
  have k3 : ∀ (n2 k : Nat) (I0 : cm_I) (z5 z6 z7 : Option cm_V), k + n2 = n → fr [231] I I0 → (∀ j : Nat, j < k → I0 231 (j : Int) = 0) → cw (d + 2) cd_Model_laysFree (qI z X) 3 [some (vR 12 209), some (vI t), some (vI (n : Int)), some (vI (done : Int)), some (vI (k : Int)), z5, z6, z7] [] (I0, z) := by
    intro n2
    induction n2 with
    | zero =>
      intro k I0 z5 z6 z7 ek f0 h0
      refine mr_laysFree_3 hz ⟨fun _ => k26 done 0 I0 _ _ _ (by omega) f0 fun j hj => ?_, fun x => by omega⟩
      rw [h0 j (by omega), if_neg]
      intro w
      obtain ⟨i, hi, _⟩ := isPv_iff.mp w
      omega
    | succ n2 ih =>
      intro k I0 z5 z6 z7 ek f0 h0
      refine mr_laysFree_3 hz ⟨fun x => by omega, fun _ => ⟨⟨by omega, by omega⟩, fun I2 e2 => ⟨⟨by omega, by omega⟩, ?_⟩⟩⟩
      obtain ⟨f2, g2⟩ := fr_eq_iu e2
      have := ih (k + 1) I2 z5 z6 z7 (by omega) (fr_trans f0 f2) fun j hj => ?_
      · rw [show ((k + 1 : Nat) : Int) = (k : Int) + 1 by omega] at this
        exact this
      · rw [g2]
        show (if (j : Int) = (k : Int) then _ else _) = _
        by_cases e : j = k
        · rw [if_pos (by omega)]
        · rw [if_neg (by omega)]
          exact h0 j (by omega)
  exact mr_laysFree hz (k3 n 0 I _ _ _ (by omega) (fr_refl _ _) fun j hj => by omega)
end MFR
