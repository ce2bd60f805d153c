/-! BASES by the reference -/
def imgM (D : Int) (A : cMat) (t : Int) (k o : Nat) : cF := atE D (monoE D A (mFrom D t + k)) (mFrom D t + o)
/-- left alone, of one degree: as vectors -/
def iV (D : Int) (T : Nat → cMat) (nt : Nat) (t : Int) (u : Nat → cF) : Prop := ∀ g, g < nt → ∀ o, o < (mMany D t).toNat → gs (mMany D t).toNat (fun k => u k * imgM D (T g) t k o) = u o
theorem iv_g1 {R : Type} [Lean.Grind.CommRing R] (x y e : R) : (x - e) * y = y * x + - (e * y) := by grind
theorem iv_g2 {R : Type} [Lean.Grind.CommRing R] (x y : R) : x + - y = 0 ↔ x = y := by
  constructor
  · intro h; grind
  · intro h; rw [h]; grind
theorem sol_iV {D : Int} {T : Nat → cMat} {nt n : Nat} {t : Int} {R : Nat → Nat → cF} (hn : (mMany D t).toNat = n) (n0 : 0 < n) (hR : ∀ g o : Nat, g < nt → o < n → ∀ k, k < n → R (g * n + o) k = imgM D (T g) t k o - (if k = o then 1 else 0)) : sol (nt * n) n R = iV D T nt t := by
  funext u
  apply propext
  have row : ∀ g o : Nat, g < nt → o < n → gs n (fun k => R (g * n + o) k * u k) = gs n (fun k => u k * imgM D (T g) t k o) + - u o := by
    intro g o hg ho
    have e1 : gs n (fun k => if k = o then u k else 0) = u o := by
      rw [gs_one (k := o) ho (fun i _ he => if_neg he)]
      exact if_pos rfl
    rw [← e1, ← gs_neg, ← gs_add]
    refine gs_congr fun k hk => ?_
    rw [hR g o hg ho k hk, iv_g1]
    congr 2
    by_cases e : k = o
    · rw [if_pos e, if_pos e, gs_z2]
    · rw [if_neg e, if_neg e, gs_z1]
  unfold sol iV
  rw [hn]
  constructor
  · intro h g hg o ho
    have lt : g * n + o < nt * n := by
      have : (g + 1) * n ≤ nt * n := Nat.mul_le_mul_right n hg
      rw [Nat.add_mul] at this
      omega
    have := h (g * n + o) lt
    rw [row g o hg ho, iv_g2] at this
    exact this
  · intro h q hq
    have hg : q / n < nt := Nat.div_lt_of_lt_mul (by rw [Nat.mul_comm]; exact hq)
    have ho : q % n < n := Nat.mod_lt _ n0
    have e : q = q / n * n + q % n := by rw [Nat.mul_comm]; exact (Nat.div_add_mod q n).symm
    rw [e, row _ _ hg ho, iv_g2]
    exact h _ hg _ ho
section MBS
variable {d : Nat} {z : cm_Z} {I : cm_I}
theorem s_laysBase (hz : mz z) (hO : mvOk I) (ok6 : okR (I 226)) (ok30 : okR (I 230)) {nt : Nat} (hnt : I 209 9 = nt) (hn4 : nt ≤ 4) {t bf : Int} (t0 : 0 ≤ t) (t1 : t ≤ 15) (hbf : I 229 t = bf) (b0 : 0 ≤ bf) (b1 : bf + mMany (I 209 1) t * mMany (I 209 1) t ≤ 72000) : mI (d + 4) m_Model_laysBase [vR 12 209, vI t] z I fun r I1 => fr [224, 226, 227, 230, 231, 232] I I1 ∧ okR (I1 224) ∧ okR (I1 226) ∧ okR (I1 230) ∧ (∀ x, x < bf → I1 230 x = I 230 x) ∧ ∃ (rows : Nat) (h : Nat → Nat) (B : Nat → Nat → cF), r = (rows : Int) ∧ rows ≤ (mMany (I 209 1) t).toNat ∧ isRB (mMany (I 209 1) t).toNat rows h B (iV (I 209 1) (mTab I) nt t) ∧ ∀ i k : Nat, i < rows → k < (mMany (I 209 1) t).toNat → I1 230 (bf + mMany (I 209 1) t * i + k) = fi (B i k) := by
  have hD' : I 209 1 = 2 ∨ I 209 1 = 3 := hO.1
  obtain ⟨w1, w2, w3, w4, w5, w6⟩ := from_bds hD' t0 t1
  generalize hDD : I 209 1 = D at hD' w1 w2 w3 w4 w5 w6 b1
  generalize hn : (mMany D t).toNat = n
  have hn' : mMany D t = (n : Int) := by omega
  rw [hn'] at b1 w2 w5 w6 ⊢
  generalize hX : (fun (r : Int) (I1 : cm_I) => fr [224, 226, 227, 230, 231, 232] I I1 ∧ okR (I1 224) ∧ okR (I1 226) ∧ okR (I1 230) ∧ (∀ x, x < bf → I1 230 x = I 230 x) ∧ ∃ (rows : Nat) (h : Nat → Nat) (B : Nat → Nat → cF), r = (rows : Int) ∧ rows ≤ n ∧ isRB n rows h B (iV D (mTab I) nt t) ∧ ∀ i k : Nat, i < rows → k < n → I1 230 (bf + (n : Int) * i + k) = fi (B i k)) = X
  have key : ∀ (n2 g : Nat) (I0 : cm_I) (z5 z6 : Option cm_V), g + n2 = nt → fr [224, 226] I I0 → okR (I0 224) → okR (I0 226) → (∀ g' o k : Nat, g' < g → o < n → k < n → I0 226 (160 * ((g' * n + o : Nat) : Int) + k) = fi (imgM D (mTab I g') t k o - (if k = o then 1 else 0))) → cw (d + 3) cd_Model_laysBase (qI z X) 11 [some (vR 12 209), some (vI t), some (vI (n : Int)), some (vI ((g * n : Nat) : Int)), some (vI (g : Int)), z5, z6] [] (I0, z) := by
    intro n2
    induction n2 with
    | zero =>
      intro g I0 z5 z6 eg f0 o4 o6 put
      have rl : g * n ≤ 4 * 136 := Nat.mul_le_mul (by omega) (by omega)
      refine mr_laysBase_11 hz ⟨fun _ => mI_mono (s_steps hz o6 (m := g * n) (cols := n) (by omega) (by omega)) fun v2 I1 ⟨f1, o16, out1, dn, p, ev, hS, hsp, hp⟩ => ?_, fun x => ?_⟩
      · rw [ev]
        refine mI_mono (s_laysFree hz o16 (by rw [f1 230 (by decide), f0 230 (by decide)]; exact ok30) t0 t1 (by omega) hS hp (bf := bf) (by rw [f1 229 (by decide), f0 229 (by decide)]; exact hbf) b0 b1) fun v4 I3 ⟨f3, o36, o30, lo, rows, h, B, er, hr, hB, hput⟩ => qI_mk ?_
        have e1 : sol (g * n) n (mx (I1 226)) = iV D (mTab I) nt t := by
          have e2 : sol (g * n) n (mx (I0 226)) = iV D (mTab I) nt t := by
            rw [show g = nt by omega]
            refine sol_iV hn (by omega) fun g' o hg' ho k hk => ?_
            unfold mx
            rw [put g' o k (by omega) ho hk, toF_fi]
          rw [← e2]
          funext u
          exact propext (sol_iff (by omega) hsp u).symm
        rw [e1] at hB
        rw [← hX]
        have fA : fr [224, 226, 227, 230, 231, 232] I I1 := fr_trans (fr_mono f0 (by decide)) (fr_mono f1 (by decide))
        exact ⟨fr_trans fA (fr_mono f3 (by decide)), by rw [f3 224 (by decide), f1 224 (by decide)]; exact o4, o36, o30, fun x hx => by rw [lo x hx, f1 230 (by decide), f0 230 (by decide)], rows, h, B, er, hr, hB, hput⟩
      · rw [f0 209 (by decide)] at x
        omega
    | succ n2 ih =>
      intro g I0 z5 z6 eg f0 o4 o6 put
      have e9 : I0 209 = I 209 := f0 209 (by decide)
      have l7 : mLen 217 = 36 := rfl
      have hD0 : mD I0 := by unfold mD; rw [e9]; exact hO.1
      have hm0 : mMon I0 := by
        have hm := hO.2.1
        unfold mMon at hm ⊢
        rw [e9, f0 210 (by decide), f0 211 (by decide), f0 212 (by decide)]
        exact hm
      have gn : g * n + n ≤ nt * n := by
        have : (g + 1) * n ≤ nt * n := Nat.mul_le_mul_right n (by omega)
        rw [Nat.add_mul] at this
        omega
      have rl : nt * n ≤ 4 * 136 := Nat.mul_le_mul (by omega) (by omega)
      refine mr_laysBase_11 hz ⟨fun x => by rw [e9] at x; omega, fun _ => mU_mono (s_laysImages hz hD0 hm0 mA217 (by decide) (by rw [f0 217 (by decide)]; exact hO.2.2.2.1) o4 (by omega) (by omega) (by omega) t0 t1) fun I5 ⟨f5, o54, im⟩ => ?_⟩
      rw [e9, hDD, f0 217 (by decide)] at im
      have eA : mat D (I 217) (g : Int) = mTab I g := by unfold mTab; rw [hDD]
      rw [eA] at im
      have img : ∀ o k : Nat, o < n → k < n → I5 224 (136 * (mFrom D t + k) + o) = fi (imgM D (mTab I g) t k o) := by
        intro o k ho hk
        have dk : mDg D (mFrom D t + k) = t := by
          have x := (mDg_lt hD' (k := mFrom D t + k) (t := t) (by omega) (by omega) t0).mp (by omega)
          have y := (mDg_ge hD' (k := mFrom D t + k) (t := t) (by omega) (by omega) t0).mp (by omega)
          omega
        have := im (mFrom D t + k) (by omega) (by omega) o (by omega) (by rw [dk]; omega)
        rw [dk] at this
        exact this
      have fA : fr [224, 226] I I5 := fr_trans f0 (fr_mono f5 (by decide))
      have k34 : ∀ (n3 o : Nat) (I6 : cm_I) (z6 : Option cm_V), o + n3 = n → fr [226] I5 I6 → okR (I6 226) → (∀ g' o' k : Nat, (g' < g ∨ (g' = g ∧ o' < o)) → o' < n → k < n → I6 226 (160 * ((g' * n + o' : Nat) : Int) + k) = fi (imgM D (mTab I g') t k o' - (if k = o' then 1 else 0))) → cw (d + 3) cd_Model_laysBase (qI z X) 34 [some (vR 12 209), some (vI t), some (vI (n : Int)), some (vI ((g * n + o : Nat) : Int)), some (vI (g : Int)), some (vI (o : Int)), z6] [] (I6, z) := by
        intro n3
        induction n3 with
        | zero =>
          intro o I6 z6 eo f6 o66 put6
          refine mr_laysBase_34 hz ⟨fun _ => ⟨⟨by omega, by omega⟩, ?_⟩, fun x => by omega⟩
          have := ih (g + 1) I6 (some (vI (o : Int))) z6 (by omega) (fr_trans fA (fr_mono f6 (by decide))) (by rw [f6 224 (by decide)]; exact o54) o66 fun g' o' k hg' ho' hk => put6 g' o' k (by omega) ho' hk
          rw [show ((g + 1) * n : Nat) = g * n + o by rw [Nat.add_mul]; omega, show ((g + 1 : Nat) : Int) = (g : Int) + 1 by omega] at this
          exact this
        | succ n3 ih3 =>
          intro o I6 z6 eo f6 o66 put6
          refine mr_laysBase_34 hz ⟨fun x => by omega, fun _ => mU_mono (s_clearsRow hz (by omega) (by omega) o66) fun I7 ⟨f7, g7, o7⟩ => ?_⟩
          have other : ∀ (g' o' k : Nat), (g' < g ∨ (g' = g ∧ o' < o)) → o' < n → g' * n + o' < g * n + o := by
            intro g' o' k h ho'
            rcases h with h | h
            · have : (g' + 1) * n ≤ g * n := Nat.mul_le_mul_right n h
              rw [Nat.add_mul] at this
              omega
            · rw [h.1]; omega
          have k48 : ∀ (n4 k : Nat) (I8 : cm_I), k + n4 = n → fr [226] I5 I8 → okR (I8 226) → (∀ g' o' k' : Nat, (g' < g ∨ (g' = g ∧ o' < o)) → o' < n → k' < n → I8 226 (160 * ((g' * n + o' : Nat) : Int) + k') = fi (imgM D (mTab I g') t k' o' - (if k' = o' then 1 else 0))) → (∀ k' : Nat, k' < k → I8 226 (160 * ((g * n + o : Nat) : Int) + k') = fi (imgM D (mTab I g) t k' o - (if k' = o then 1 else 0))) → cw (d + 3) cd_Model_laysBase (qI z X) 48 [some (vR 12 209), some (vI t), some (vI (n : Int)), some (vI ((g * n + o : Nat) : Int)), some (vI (g : Int)), some (vI (o : Int)), some (vI (k : Int))] [] (I8, z) := by
            intro n4
            induction n4 with
            | zero =>
              intro k I8 ek f8 o8 put8 row8
              refine mr_laysBase_48 hz ⟨fun _ => ⟨⟨by omega, by omega⟩, ⟨by omega, by omega⟩, ?_⟩, fun x => by omega⟩
              have := ih3 (o + 1) I8 (some (vI (k : Int))) (by omega) f8 o8 fun g' o' k' h ho' hk' => by
                by_cases e : g' = g ∧ o' = o
                · rw [e.1, e.2]; exact row8 k' (by omega)
                · exact put8 g' o' k' (by omega) ho' hk'
              rw [show ((g * n + (o + 1) : Nat) : Int) = ((g * n + o : Nat) : Int) + 1 by omega, show ((o + 1 : Nat) : Int) = (o : Int) + 1 by omega] at this
              exact this
            | succ n4 ih4 =>
              intro k I8 ek f8 o8 put8 row8
              have e89 : I8 209 = I 209 := by rw [f8 209 (by decide), fA 209 (by decide)]
              have hv := img o k (by omega) (by omega)
              have fb := fi_bd (imgM D (mTab I g) t k o)
              have nxt : ∀ (w v : Int) (I15 : cm_I), (w = if k = o then 1 else 0) → v = (fi (imgM D (mTab I g) t k o) - w) % 2521 → I15 = iu I8 226 (160 * ((g * n + o : Nat) : Int) + (k : Int)) v → cw (d + 3) cd_Model_laysBase (qI z X) 48 [some (vR 12 209), some (vI t), some (vI (n : Int)), some (vI ((g * n + o : Nat) : Int)), some (vI (g : Int)), some (vI (o : Int)), some (vI ((k : Int) + 1))] [] (I15, z) := by
                intro w v I15 hw hv e15
                obtain ⟨f15, g15⟩ := fr_eq_iu e15
                have := ih4 (k + 1) I15 (by omega) (fr_trans f8 f15) (by rw [g15]; exact okR_st o8 (by omega) (by omega)) (fun g' o' k' h ho' hk' => ?_) (fun k' hk' => ?_)
                · rw [show ((k + 1 : Nat) : Int) = (k : Int) + 1 by omega] at this
                  exact this
                · rw [g15]
                  show (if 160 * ((g' * n + o' : Nat) : Int) + (k' : Int) = _ then _ else _) = _
                  have := other g' o' k' h ho'
                  rw [if_neg (by omega)]
                  exact put8 g' o' k' h ho' hk'
                · rw [g15]
                  show (if 160 * ((g * n + o : Nat) : Int) + (k' : Int) = _ then _ else _) = _
                  by_cases e : k' = k
                  · rw [if_pos (by omega), e, hv, ← fi_toF, toF_sub, toF_fi, hw]
                    congr 2
                    by_cases q : k = o
                    · rw [if_pos q, if_pos q]; rfl
                    · rw [if_neg q, if_neg q]; rfl
                  · rw [if_neg (by omega)]
                    exact row8 k' (by omega)
              refine mr_laysBase_48 hz ⟨fun x => by omega, fun _ => ⟨⟨by omega, by omega⟩, ⟨by omega, by omega⟩, mI_mono (s_from hz t0 (by omega)) fun v6 I9 ⟨e99, ev6⟩ => ?_⟩⟩
              rw [e99]
              rw [e89, hDD] at ev6
              rw [ev6, f8 224 (by decide), hv]
              refine ⟨⟨by omega, by omega⟩, ⟨by omega, by omega⟩, ⟨by omega, by omega⟩, ⟨by omega, by omega⟩, fun q => ⟨⟨by omega, by omega⟩, mI_mono (s_of hz _) fun v13 I12 ⟨e12, ev13⟩ => ⟨⟨by omega, by omega⟩, fun I15 e15 => ⟨⟨by omega, by omega⟩, nxt 0 v13 I15 (by rw [if_neg (by omega)]) ev13 (by rw [e15, e12])⟩⟩⟩, fun q => ⟨⟨by omega, by omega⟩, mI_mono (s_of hz _) fun v19 I18 ⟨e18, ev19⟩ => ⟨⟨by omega, by omega⟩, fun I21 e21 => ⟨⟨by omega, by omega⟩, nxt 1 v19 I21 (by rw [if_pos (by omega)]) ev19 (by rw [e21, e18])⟩⟩⟩⟩
          refine k48 n 0 I7 (by omega) (fr_trans f6 f7) o7 (fun g' o' k' h ho' hk' => ?_) fun k' hk' => by omega
          rw [g7]
          unfold fillF
          have := other g' o' k' h ho'
          rw [if_neg (by omega)]
          exact put6 g' o' k' h ho' hk'
      have := k34 n 0 I5 z6 (by omega) (fr_refl _ _) (by rw [f5 226 (by decide)]; exact o6) fun g' o' k h ho' hk => by
        rw [f5 226 (by decide)]
        exact put g' o' k (by omega) ho' hk
      rw [Nat.add_zero] at this
      exact this
  refine mr_laysBase hz (mI_mono (s_many hz t0 (by omega)) fun v2 I1 ⟨e1, ev⟩ => ?_)
  rw [e1, ev, hDD, hn']
  have := key nt 0 I none none (by omega) (fr_refl _ _) hO.2.2.2.2.2 ok6 fun g' o k hg' => by omega
  rw [Nat.zero_mul] at this
  exact this
end MBS
