/-! PrimarySearch.find -/
/-- what may change: references and cells of M, the growing rows of S -/
def wF (M S : List Nat) (z : cm_Z) (I : cm_I) (z1 : cm_Z) (I1 : cm_I) : Prop := zg M z z1 ∧ us z z1 ∧ (∀ k, k < 97 → gR z1 k = gR z k ∨ (k ∈ S ∧ zN z ≤ gR z1 k)) ∧ ∀ c, c < zN z → c ∉ M → (∀ k, k < 97 → k ∈ S → c ≠ gR z k) → I1 c = I c
theorem wF_refl (M S : List Nat) (z : cm_Z) (I : cm_I) : wF M S z I z I := ⟨zg_refl _ _, us_refl z, fun _ _ => Or.inl rfl, fun _ _ _ _ => rfl⟩
theorem wF_trans {M S : List Nat} {z z1 z2 : cm_Z} {I I1 I2 : cm_I} (h : wF M S z I z1 I1) (h' : wF M S z1 I1 z2 I2) : wF M S z I z2 I2 := by
  obtain ⟨a1, a2, a3, a4⟩ := h
  obtain ⟨b1, b2, b3, b4⟩ := h'
  have NN := a1.2.2
  refine ⟨zg_trans a1 b1, us_trans a2 b2, fun k hk => ?_, fun c hc hn hq => ?_⟩
  · rcases b3 k hk with e | ⟨e1, e2⟩
    · rw [e]; exact a3 k hk
    · exact Or.inr ⟨e1, by omega⟩
  · rw [b4 c (by omega) hn fun k hk hS => ?_, a4 c hc hn hq]
    rcases a3 k hk with e | ⟨_, e⟩
    · rw [e]; exact hq k hk hS
    · omega
theorem wF_mono {M M' S S' : List Nat} {z z1 : cm_Z} {I I1 : cm_I} (h : wF M S z I z1 I1) (hM : ∀ x, x ∈ M → x ∈ M') (hS : ∀ x, x ∈ S → x ∈ S') : wF M' S' z I z1 I1 := by
  obtain ⟨a1, a2, a3, a4⟩ := h
  refine ⟨zg_mono a1 hM, a2, fun k hk => ?_, fun c hc hn hq => a4 c hc (nin_sub hn hM) fun k hk hs => hq k hk (hS k hs)⟩
  rcases a3 k hk with e | ⟨e1, e2⟩
  · exact Or.inl e
  · exact Or.inr ⟨hS k e1, e2⟩
/-- only cells of M change -/
theorem wF_fr {l M S : List Nat} {z : cm_Z} {I I1 : cm_I} (h : fr l I I1) (hl : ∀ x, x ∈ l → x ∈ M) : wF M S z I z I1 := ⟨zg_refl _ _, us_refl z, fun _ _ => Or.inl rfl, fun c _ hn _ => h c (nin_sub hn hl)⟩
theorem gdP_wF {t : Nat} {z z1 : cm_Z} {I I1 : cm_I} (t15 : t < 16) (h : gdP t z I I1 z1) : wF ([71, 73 + 7 * t] ++ bll) [0, 1 + 6 * t, 2 + 6 * t] z I z1 I1 := by
  obtain ⟨p1, p2, p3, p4, p5, p6, p7, p8⟩ := h
  refine ⟨zg_mono p1 (by simp [bll]), p2, fun k hk => ?_, fun c hc hn hq => ?_⟩
  · by_cases w : k ∈ [0, 1 + 6 * t, 2 + 6 * t]
    · rcases p8 k hk with e | e
      · exact Or.inl e
      · exact Or.inr ⟨w, e⟩
    · simp at w
      exact Or.inl (p3 k hk w.1 (by omega) (by omega))
  · have n1 := nin_sub hn (l' := bll) (fun x hx => List.mem_append.mpr (Or.inr hx))
    simp at hn
    refine p6 c hc n1 hn.1 hn.2.1 (hq 0 (by decide) (by simp)) (hq (1 + 6 * t) (by omega) (by simp)) ?_
    have := hq (2 + 6 * t) (by omega) (by simp)
    rw [show 2 + 6 * t = 1 + 6 * t + 1 by omega] at this
    exact this
theorem srF_wF {z z1 : cm_Z} {I I1 : cm_I} (h : srF z I z1 I1) : wF sM [0] z I z1 I1 := by
  obtain ⟨a1, a2, a3, a4, a5, a6, a7⟩ := h
  refine ⟨zg_mono a1 (by simp [sM]), a4, fun k hk => ?_, fun c hc hn hq => a6 c hc hn (hq 0 (by decide) (by simp))⟩
  by_cases w : k = 0
  · rw [w]
    rcases a5 with e | e
    · exact Or.inl e
    · exact Or.inr ⟨by simp, e⟩
  · exact Or.inl (a3 k hk w)
def pmK (D : Int) (T : Nat → cMat) (nt n : Nat) (J : cm_I) : Prop := (pmRes D T nt n = none ∧ J 185 5 = 0) ∨ ∃ q, pmRes D T nt n = some q ∧ (isSys D T nt q.1 q.2.1 q.2.2 ∧ q.1 < cndN D T nt ∧ q.2.1 < cndN D T nt ∧ (D = 3 → q.2.2 < cndN D T nt)) ∧ J 185 5 = 1 ∧ (∀ v : Nat, (v : Int) < D → J 190 (v : Int) = (cnd D T nt (sel3n q.1 q.2.1 q.2.2 v)).1 ∧ J 191 (v : Int) = ((cnd D T nt (sel3n q.1 q.2.1 q.2.2 v)).2 : Int)) ∧ ∀ t, 1 ≤ t → t ≤ 6 → J (73 + 7 * t) 1 = 1
/-- the bases, and what the search has found, if it was asked -/
def seE (D : Int) (sh mb : Nat) (T : Nat → cMat) (nt n : Nat) (L : Nat → cMat) (z : cm_Z) (J : cm_I) : Prop := bsE D sh mb T nt n L z J ∧ z.1 185 2 = sh ∧ J 185 3 = (n : Int) ∧ ((J 185 4 = 0 ∧ J 185 5 = 0) ∨ (J 185 4 = 1 ∧ pmK D T nt n J))
def fdM : List Nat := [53, 54, 55, 56, 57, 58, 59, 60, 63, 65, 70, 71, 80, 87, 94, 101, 108, 115, 185, 186, 187, 188, 190, 191, 192, 194, 196]
def fdS : List Nat := [0, 7, 8, 13, 14, 19, 20, 25, 26, 31, 32, 37, 38]
theorem gI_fdM : ∀ k, k < 97 → gI k ∉ fdM := by decide
theorem gw_fdM {z : cm_Z} (hg : gw z) {k : Nat} (hk : k < 97) : gR z k ∉ fdM := by
  rcases (hg.2.1 k hk).1 with e | e
  · rw [e]; exact gI_fdM k hk
  · intro m
    have : ∀ x, x ∈ fdM → x < 248 := by decide
    have := this _ m
    omega
theorem gI_fix : ∀ k, k < 97 → gI k = 64 ∨ (72 < gI k ∧ gI k < 185) := by decide
/-- a place that no growing row takes -/
theorem gw_fix {z : cm_Z} (hg : gw z) {c : Nat} (h : c < 248) (h' : c ≠ 64) (h2 : c ≤ 72 ∨ 185 ≤ c) {k : Nat} (hk : k < 97) : c ≠ gR z k := by
  have := gI_fix k hk
  rcases (hg.2.1 k hk).1 with e | e <;> omega
section WFD
variable {d : Nat} {z : cm_Z} {I : cm_I} {D : Int} {sh mb : Nat} {T : Nat → cMat} {nt n : Nat} {L : Nat → cMat}
/-- a slot of the search is written -/
theorem srG_slot {s v : Int} {I1 : cm_I} (h : srG D sh mb T nt n L z I) (s7 : s ≠ 7) (e : I1 = iu I 185 s v) : srG D sh mb T nt n L z I1 ∧ fr [185] I I1 ∧ (I1 185 = fun j => if j = s then v else I 185 j) ∧ ∀ w x, w < 3 → x < cndN D T nt → pcC D T nt z I w x → pcC D T nt z I1 w x := by
  obtain ⟨f, g⟩ := fr_eq_iu e
  obtain ⟨b1, b2, b3, b4, b5, b6⟩ := h
  have nq : z.1 63 2 ∉ sL := gw_sL b1.2.1 (k := 0) (by decide)
  refine ⟨⟨bsE_fr b1 b1.1.1 b1.2.1 (zg_refl [] z) (by simp) (by simp) (by simp) (fun _ _ _ => rfl) (by rw [f _ (nin_sub nq (by simp [sL]))]; exact b1.2.2.2.2.2.2.1) fun c _ hn _ => f c (nin_sub hn (by simp [sL])), b2, ?_, b4, by rw [f 186 (by decide), f 187 (by decide)]; exact b5, fun t h1 h6 => by rw [f _ (by simp; omega)]; exact b6 t h1 h6⟩, f, g, fun w x w3 hx hp => pcC_fr hx hp rfl (fun _ _ _ => rfl) (f _ (by simp; omega)) (by rw [f 190 (by decide)]) (by rw [f 191 (by decide)])⟩
  rw [g]
  show (if (7 : Int) = s then v else I 185 7) = _
  rw [if_neg (Ne.symm s7)]; exact b3
theorem t_pfind (h : seE D sh mb T nt n L z I) : zcI (d + 9) m_Search_find [vR 6 185] z I fun r I1 z1 => seE D sh mb T nt n L z1 I1 ∧ I1 185 4 = 1 ∧ r = I1 185 5 ∧ wF fdM fdS z I z1 I1 ∧ (I 185 4 = 1 → I1 = I ∧ z1 = z) := by
  obtain ⟨hB, y2, e3, alt⟩ := id h
  have hz := hB.1.1
  have hS := hB.1.2.1
  have hD := shOk_D hS
  have hsh := shOk_sh hS
  have hs' : sh = 11 ∨ sh = 20 := hsh
  have G : isG T nt n L := hB.1.2.2.2.2.2.2.2.1.2.2.2.2.2.2.1
  have n1 := G.1
  have n48 := G.2.1
  have w6 : 248 ≤ zN z := hz.2.2.2.2.2
  refine wr_Search_find hz (And.symm ⟨fun e4 => ?_, fun e4 I1 e1 I2 e2 I3 e3' => ?_⟩)
  · rcases alt with ⟨a, _⟩ | ⟨a, b⟩
    · exact absurd a e4
    · refine ⟨?_, kI_mk ⟨h, a, rfl, wF_refl _ _ _ _, fun _ => ⟨rfl, rfl⟩⟩⟩
      rcases b with ⟨_, b⟩ | ⟨q, _, _, b, _⟩
      · exact Or.inl b
      · exact Or.inr b
  have e5 : I 185 5 = 0 := by
    rcases alt with ⟨_, a⟩ | ⟨a, _⟩
    · exact a
    · rw [e4] at a; exact absurd a (by decide)
  obtain ⟨f1, g1⟩ := fr_eq_iu e1
  obtain ⟨f2, g2⟩ := fr_eq_iu e2
  obtain ⟨f3, g3⟩ := fr_eq_iu e3'
  have fA : fr [185] I I3 := fr_trans (fr_trans f1 f2) f3
  have s3 : I3 185 3 = (n : Int) ∧ I3 185 4 = 1 ∧ I3 185 5 = 0 ∧ I3 185 6 = 0 ∧ I3 185 7 = 0 := by
    have v : ∀ j, I3 185 j = if j = 7 then 0 else if j = 6 then 0 else if j = 4 then 1 else I 185 j := by
      intro j
      rw [g3]
      show (if j = 7 then 0 else I2 185 j) = _
      rw [g2]
      show (if j = 7 then 0 else if j = 6 then 0 else I1 185 j) = _
      rw [g1]
    refine ⟨by rw [v, if_neg (by decide), if_neg (by decide), if_neg (by decide)]; exact e3, by rw [v, if_neg (by decide), if_neg (by decide), if_pos rfl], by rw [v, if_neg (by decide), if_neg (by decide), if_neg (by decide)]; exact e5, by rw [v, if_neg (by decide), if_pos rfl], by rw [v, if_pos rfl]⟩
  have nq : z.1 63 2 ∉ sL := gw_sL hB.2.1 (k := 0) (by decide)
  have hB3 : bsE D sh mb T nt n L z I3 := bsE_fr hB hz hB.2.1 (zg_refl [] z) (by simp) (by simp) (by simp) (fun _ _ _ => rfl) (by rw [fA _ (nin_sub nq (by simp [sL]))]; exact hB.2.2.2.2.2.2.1) fun c _ hn _ => fA c (nin_sub hn (by simp [sL]))
  obtain ⟨deg, hdeg⟩ : ∃ deg : Nat → Int, deg = fun e => (cnd D T nt e).1 := ⟨_, rfl⟩
  obtain ⟨rows, hrows⟩ : ∃ rows : Int → Nat, rows = bsRows D T nt := ⟨_, rfl⟩
  have rowb : ∀ t : Nat, t < 16 → rows (t : Int) ≤ (mMany D t).toNat := fun t ht => by
    rw [hrows]
    obtain ⟨⟨hd, a⟩, _⟩ := bsE_bs hB ht
    exact RB_le a
  have n83 : cndN D T nt ≤ 83 := cnd_83 hD fun t t0 t1 => by
    have := rowb t.toNat (by omega)
    rw [hrows, show ((t.toNat : Nat) : Int) = t by omega] at this
    exact this
  have degb : ∀ e, e < cndN D T nt → 1 ≤ deg e ∧ deg e ≤ 6 := fun e he => by
    obtain ⟨a, b, _⟩ := cnd_bd he
    rw [hdeg]; exact ⟨a, b⟩
  obtain ⟨stF, hstF⟩ : ∃ stF, stF = KG (isSys D T nt) deg D (cndN D T nt) (n : Int) 216 1 (0, none) := ⟨_, rfl⟩
  have res : pmRes D T nt n = stF.2 := by
    rw [hstF, KG_res hD (by omega) degb, hdeg]
    rfl
  obtain ⟨Q, hQ⟩ : ∃ Q : cm_Q, Q = kI fun r I1 z1 => seE D sh mb T nt n L z1 I1 ∧ I1 185 4 = 1 ∧ r = I1 185 5 ∧ wF fdM fdS z I z1 I1 ∧ (I 185 4 = 1 → I1 = I ∧ z1 = z) := ⟨_, rfl⟩
  -- goal by goal
  have fin : ∀ (J : cm_I) (z' : cm_Z) (st : sSt) (r : Int), srG D sh mb T nt n L z' J → wF fdM fdS z I z' J → J 185 3 = (n : Int) → J 185 4 = 1 → J 185 5 = r → tpRs D T nt st r J z' → st = stF → ((J 185 5 = 0 ∨ J 185 5 = 1) ∧ Q (some (vI (J 185 5))) (J, z')) := by
    intro J z' st r hG hw j3 j4 j5 ht hs
    rw [hs] at ht
    obtain ⟨t1, t2, t3⟩ := ht
    refine ⟨?_, ?_⟩
    · rcases t3 with ⟨a, _⟩ | ⟨a, _⟩
      · left; rw [j5]; exact a
      · right; rw [j5]; exact a
    · rw [hQ]
      refine kI_mk ⟨⟨hG.1, hG.2.1, j3, Or.inr ⟨j4, ?_⟩⟩, j4, rfl, hw, fun w => by rw [e4] at w; exact absurd w (by decide)⟩
      rcases t3 with ⟨a, b⟩ | ⟨a, q, b, c1, c2, c3, c4, c5⟩
      · exact Or.inl ⟨by rw [res]; exact b, by rw [j5]; exact a⟩
      · exact Or.inr ⟨q, by rw [res]; exact b, ⟨c1, c2, c3, c4⟩, by rw [j5]; exact a, fun v hv => ⟨(c5 v hv).2.2.2.1, (c5 v hv).2.2.2.2⟩, hG.2.2.2.2.2⟩
  have L55 : ∀ (u x : Nat) (J : cm_I) (z' : cm_Z) (st : sSt) (r : Int), x + u = 217 → 1 ≤ x → srG D sh mb T nt n L z' J → wF fdM fdS z I z' J → J 185 3 = (n : Int) → J 185 4 = 1 → J 185 5 = r → tpRs D T nt st r J z' → KG (isSys D T nt) deg D (cndN D T nt) (n : Int) u (x : Int) st = stF → cw (d + 8) cd_Search_find Q 55 [some (vR 6 185), some (vI (x : Int))] [] (J, z') := by
    intro u
    induction u with
    | zero =>
      intro x J z' st r ex x1 hG hw j3 j4 j5 ht hs
      exact wr_Search_find_55 hG.1.1.1 hG.2.1 hsh ⟨fun _ => fin J z' st r hG hw j3 j4 j5 ht hs, fun w => by omega⟩
    | succ u ih =>
      intro x J z' st r ex x1 hG hw j3 j4 j5 ht hs
      obtain ⟨t1, t2, t3⟩ := id ht
      refine wr_Search_find_55 hG.1.1.1 hG.2.1 hsh ⟨fun w => by omega, fun _ => ⟨fun w => ?_, fun w5 => ⟨fun w => ?_, fun w60 => ?_⟩⟩⟩
      · have stp : sStop st := by
          rcases t3 with ⟨a, _⟩ | ⟨a, q, b, _⟩
          · rw [j5] at w; exact absurd a w
          · exact Or.inl (by rw [b]; rfl)
        rw [KG_stop stp] at hs
        exact fin J z' st r hG hw j3 j4 j5 ht hs
      · have stp : sStop st := Or.inr (by omega)
        rw [KG_stop stp] at hs
        exact fin J z' st r hG hw j3 j4 j5 ht hs
      · have r0 : r = 0 := by rw [← j5]; exact w5
        have sn : st.2 = none := by
          rcases t3 with ⟨_, b⟩ | ⟨a, _⟩
          · exact b
          · omega
        rw [j3]
        rw [KG] at hs
        refine mI_mono (t_divides (d := d + 7) hG.1.1.1 (by omega)) fun vv J0 ⟨eJ, ev⟩ => ?_
        rw [eJ]
        refine ⟨fun w0 => ⟨⟨by omega, by omega⟩, ?_⟩, fun w0 => ?_⟩
        · have w : ¬ Int.tmod (x : Int) (n : Int) = 0 := by
            rcases ev with ⟨_, b⟩ | ⟨a, _⟩
            · exact b
            · omega
          rw [if_neg w] at hs
          exact ih (x + 1) J z' st r (by omega) (by omega) hG hw j3 j4 j5 ht hs
        · have w : Int.tmod (x : Int) (n : Int) = 0 := by
            rcases ev with ⟨a, _⟩ | ⟨_, b⟩
            · exact absurd a w0
            · exact b
          rw [if_pos w] at hs
          have eS : J sh 0 = D := hG.1.1.2.1.2.1
          rw [eS]
          -- after one goal
          have go : ∀ (v : Int) (J4 : cm_I) (z4 : cm_Z), srG D sh mb T nt n L z4 J4 → srF z' J z4 J4 → tpRs D T nt (K1 (isSys D T nt) deg (x : Int) D (cndN D T nt) (cndN D T nt) 0 st) v J4 z4 → (v = 0 ∨ v = 1) ∧ ∀ I8 : cm_I, I8 = iu J4 185 5 v → cm_i ((x : Int) + 1) ∧ cw (d + 8) cd_Search_find Q 55 [some (vR 6 185), some (vI ((x : Int) + 1))] [] (I8, z4) := by
            intro v J4 z4 k1 k2 k3
            generalize K1 (isSys D T nt) deg (x : Int) D (cndN D T nt) (cndN D T nt) 0 st = st4 at hs k3
            obtain ⟨u1, u2, u3⟩ := k3
            refine ⟨?_, fun I8 e8 => ⟨⟨by omega, by omega⟩, ?_⟩⟩
            · rcases u3 with ⟨a, _⟩ | ⟨a, _⟩
              · exact Or.inl a
              · exact Or.inr a
            · obtain ⟨m1, m2, m3, m4⟩ := srG_slot k1 (s := 5) (by decide) e8
              have k7 := k2.2.2.2.2.2.2
              refine ih (x + 1) I8 z4 st4 v (by omega) (by omega) m1 (wF_trans (wF_trans hw (wF_mono (srF_wF k2) (by decide) (by decide))) (wF_fr m2 (by decide))) ?_ ?_ ?_ ⟨?_, u2, ?_⟩ hs
              · rw [m3]; show (if (3 : Int) = 5 then v else J4 185 3) = _
                rw [if_neg (by decide), k7 3 (by decide)]; exact j3
              · rw [m3]; show (if (4 : Int) = 5 then v else J4 185 4) = _
                rw [if_neg (by decide), k7 4 (by decide)]; exact j4
              · rw [m3]; show (if (5 : Int) = 5 then v else J4 185 5) = _
                rw [if_pos rfl]
              · rw [m3]; show (if (6 : Int) = 5 then v else J4 185 6) = _
                rw [if_neg (by decide)]; exact u1
              · rcases u3 with a | ⟨a, q, b, c1, c2, c3, c4, c5⟩
                · exact Or.inl a
                · refine Or.inr ⟨a, q, b, c1, c2, c3, c4, fun v hv => m4 v _ (by omega) ?_ (c5 v hv)⟩
                  unfold sel3n
                  by_cases e0 : v = 0
                  · rw [if_pos e0]; exact c2
                  · rw [if_neg e0]
                    by_cases e1 : v = 1
                    · rw [if_pos e1]; exact c3
                    · rw [if_neg e1]; exact c4 (by omega)
          refine ⟨fun w3 => ?_, fun w3 => ?_⟩
          · have D2 : D = 2 := by rcases hD with e | e; exact e; exact absurd e w3
            have tp := t_tryPairs (d := d + 3) hG (W := 0) (i0 := 0) (fm := 0) (g := (x : Int)) (by omega) (fun w => absurd w (by decide)) (by omega) sn t2 t1
            have eT : tAsk D T nt 0 = fun a b => sAsk (isSys D T nt) a b 0 := by
              funext a b
              unfold tAsk tri
              rw [if_pos D2]
            rw [eT, ← hdeg, Nat.sub_zero, ← K1_H2 (by omega) (fun e he => (degb e he).1) _ _ _ (by omega)] at tp
            refine zcI_mono tp fun v J4 z4 ⟨k1, k2, k3⟩ => go v J4 z4 k1 k2 ?_
            have k3' := k3
            rw [show K1 (isSys D T nt) deg (x : Int) D (cndN D T nt) (cndN D T nt) 0 st = K1 (isSys D T nt) deg (x : Int) 2 (cndN D T nt) (cndN D T nt) 0 st by rw [show K1 (isSys D T nt) deg (x : Int) D = K1 (isSys D T nt) deg (x : Int) 2 by rw [D2]]]
            exact k3'
          · have tp := t_tryTriples (d := d + 2) hG (g := (x : Int)) (by omega) w3 sn t2 t1
            rw [← hdeg] at tp
            exact zcI_mono tp fun v J4 z4 ⟨k1, k2, k3⟩ => go v J4 z4 k1 k2 k3
  -- degree by degree
  have L29 : ∀ (u k : Nat) (J : cm_I) (z' : cm_Z), k + u = 6 → bsE D sh mb T nt n L z' J → wF fdM fdS z I z' J → z'.1 185 2 = sh → (J 185 3 = (n : Int) ∧ J 185 4 = 1 ∧ J 185 5 = 0 ∧ J 185 6 = 0) → J 185 7 = (cSum rows k 1 : Int) → (∀ e, e < cSum rows k 1 → J 186 (e : Int) = (cnd D T nt e).1 ∧ J 187 (e : Int) = ((cnd D T nt e).2 : Int)) → (∀ t, 1 ≤ t → t ≤ k → J (73 + 7 * t) 1 = 1) → cw (d + 8) cd_Search_find Q 29 [some (vR 6 185), some (vI ((k + 1 : Nat) : Int))] [] (J, z') := by
    intro u
    induction u with
    | zero =>
      intro k J z' ek hB hw y js j7 jc jb
      have k6 : k = 6 := by omega
      rw [k6] at j7 jc jb
      have eN : cSum rows 6 1 = cndN D T nt := by rw [hrows]; rfl
      rw [eN] at j7 jc
      refine wr_Search_find_29 hB.1.1 ⟨fun _ => ?_, fun w => by omega⟩
      have := L55 216 1 J z' (0, none) 0 (by omega) (by omega) ⟨hB, y, j7, n83, jc, jb⟩ hw js.1 js.2.1 js.2.2.1 ⟨js.2.2.2, by show 0 ≤ 60; omega, Or.inl ⟨rfl, rfl⟩⟩ hstF.symm
      exact this
    | succ u ih =>
      intro k J z' ek hB hw y js j7 jc jb
      refine wr_Search_find_29 hB.1.1 ⟨fun w => by omega, fun _ => ?_⟩
      refine zcA_mono (t_grade (d := d) hB (t := k + 1) (by omega)) fun v J1 z1 ⟨v1, v2, v3, v4⟩ => ?_
      rw [v1]
      have gd := gd_get v2 (t := k + 1) (by omega) v3
      have wF1 := gdP_wF (by omega) v4
      have hg := hB.2.1
      have w6' : 248 ≤ zN z' := hB.1.1.2.2.2.2.2
      have fx : ∀ c, c < 248 → (c ≤ 52 ∨ 73 ≤ c) → c ≠ 73 + 7 * (k + 1) → (∀ k', k' < 97 → c ≠ gR z' k') → J1 c = J c := fun c h1 h2 h3 h4 => wF1.2.2.2 c (by omega) (by simp [bll]; omega) fun k' hk' _ => h4 k' hk'
      have f185 : J1 185 = J 185 := fx 185 (by decide) (by decide) (by omega) fun k' hk' => gw_fix hg (by decide) (by decide) (by decide) hk'
      have f186 : J1 186 = J 186 := fx 186 (by decide) (by decide) (by omega) fun k' hk' => gw_fix hg (by decide) (by decide) (by decide) hk'
      have f187 : J1 187 = J 187 := fx 187 (by decide) (by decide) (by omega) fun k' hk' => gw_fix hg (by decide) (by decide) (by decide) hk'
      have c83 : cSum rows k 1 + rows ((k + 1 : Nat) : Int) ≤ 83 := by
        have := cSum_add rows k 1
        have := cSum_mono rows 1 (j := k + 1) (k := 6) (by omega)
        have eN : cSum rows 6 1 = cndN D T nt := by rw [hrows]; rfl
        rw [show ((k + 1 : Nat) : Int) = 1 + (k : Int) by omega]
        omega
      refine mU_mono (t_addCandidates (d := d + 7) v2.1.1 (a := 73 + 7 * (k + 1)) (c := cSum rows k 1) (R := rows ((k + 1 : Nat) : Int)) (g := ((k + 1 : Nat) : Int)) (by omega) (by simp; omega) gd.1 (by rw [gd.2.2.1, hrows]) (by rw [f185]; exact j7) c83) fun J2 ⟨a1, a2, a3, a4, a5⟩ => ⟨by unfold cm_i; omega, ?_⟩
      have nq1 : z1.1 63 2 ∉ sL := gw_sL v2.2.1 (k := 0) (by decide)
      have hB2 : bsE D sh mb T nt n L z1 J2 := bsE_fr v2 v2.1.1 v2.2.1 (zg_refl [] z1) (by simp) (by simp) (by simp) (fun _ _ _ => rfl) (by rw [a1 _ (nin_sub nq1 (by simp [sL]))]; exact v2.2.2.2.2.2.2.1) fun c _ hn _ => a1 c (nin_sub hn (by simp [sL]))
      have kk : k = 0 ∨ k = 1 ∨ k = 2 ∨ k = 3 ∨ k = 4 ∨ k = 5 := by omega
      have wF1' : wF fdM fdS z' J z1 J1 := wF_mono wF1 (by rcases kk with e | e | e | e | e | e <;> (rw [e]; decide)) (by rcases kk with e | e | e | e | e | e <;> (rw [e]; decide))
      have eS : cSum rows (k + 1) 1 = cSum rows k 1 + rows ((k + 1 : Nat) : Int) := by
        rw [cSum_add, show ((k + 1 : Nat) : Int) = 1 + (k : Int) by omega]
      refine ih (k + 1) J2 z1 (by omega) hB2 (wF_trans (wF_trans hw wF1') (wF_fr a1 (by decide))) ?_ ?_ ?_ ?_ ?_
      · rw [wF1.1.1 185 (by omega) (by simp [bll]; omega)]
        exact y
      · rw [a2 3 (by decide), a2 4 (by decide), a2 5 (by decide), a2 6 (by decide), f185]
        exact js
      · rw [a3, eS]
      · intro e he
        rw [eS] at he
        by_cases w : e < cSum rows k 1
        · rw [(a4 e w).1, (a4 e w).2, f186, f187]
          exact jc e w
        · obtain ⟨x, hx⟩ : ∃ x, e = cSum rows k 1 + x := ⟨e - cSum rows k 1, by omega⟩
          have xr : x < rows ((k + 1 : Nat) : Int) := by omega
          have at_ := cDR_at rows k 6 1 x (by rw [show 1 + (k : Int) = ((k + 1 : Nat) : Int) by omega]; exact xr) (by omega)
          have ec : cnd D T nt e = (((k + 1 : Nat) : Int), x) := by
            unfold cnd
            rw [← hrows, hx, at_, show 1 + (k : Int) = ((k + 1 : Nat) : Int) by omega]
          rw [ec, hx]
          exact a5 x xr
      · intro t h1 h2
        rw [a1 _ (by simp; omega)]
        by_cases w : t = k + 1
        · rw [w]; exact v3
        · rw [fx _ (by omega) (by omega) (by omega) fun k' hk' => Ne.symm (gw_gr hg (by omega) hk')]
          exact jb t h1 (by omega)
  show cw (d + 8) cd_Search_find (kI fun r I1 z1 => seE D sh mb T nt n L z1 I1 ∧ I1 185 4 = 1 ∧ r = I1 185 5 ∧ wF fdM fdS z I z1 I1 ∧ (I 185 4 = 1 → I1 = I ∧ z1 = z)) 29 _ _ _
  rw [← hQ]
  exact L29 6 0 I3 z (by omega) hB3 (wF_fr fA (by decide)) y2 ⟨s3.1, s3.2.1, s3.2.2.1, s3.2.2.2.1⟩ s3.2.2.2.2 (fun e he => absurd he (by show ¬ e < 0; omega)) fun t h1 h2 => by omega
end WFD
