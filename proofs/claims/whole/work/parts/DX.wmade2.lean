theorem mz_ex : ∃ z, mz z := ⟨(cBl 209 mEv (fun _ _ => 0, fun _ _ => 0, fun _ => 0, fun _ => 0, 210, 0, 0)).2, fun j hj => mEv_R j hj, fun a h1 h2 => by
  rw [show a = 210 + (a - 210) by omega]; exact mEv_L _ (by omega)⟩
theorem ex_00 : ∀ t : Nat, t ≤ 15 → ∃ r X, isBs 2 T00 0 t r X := by
  obtain ⟨z, hz⟩ := mz_ex
  exact ex_bs hz (Or.inl rfl) okR_0 (by decide)
set_option maxHeartbeats 2000000 in
theorem w_made1 {d : Nat} {Q : cm_Q} {I : cm_I} {Tk : Nat → Nat} {c s : Nat} {Z : cm_Z} {J0 : cm_I} (h1 : I 1 = fun _ => 0) (hq : wkQ I Tk c s Z J0) (H : ∀ (z : cm_Z) (J : cm_I), wI 2 T00 0 1 (fun _ => mId) (fun _ _ => 0) (fun _ => 0) 0 none 11 29 z J → fz z → zN z = 248 → zC z = c + 207 → zS z ≤ s + 40000 → z.2.2.1 1 = Tk 1 → Q none (J, zb 209 z)) : cI (d + 10) m_Members_grow [vR 3 29] (J0, Z) fun _ h42 => cU (d + 10) m_Works_startAgain [vR 11 1] h42 fun h44 => Q none h44 := by
  have wk_A' := wk_A
  have wk_L' := wk_L
  have wk_3' := wk_3
  have wk_68' := wk_68
  have wk_189' := wk_189
  have wk_g' := wk_g
  have wo := wk_o
  unfold wkQ at hq
  generalize wkAll = l at hq wk_A' wk_L' wk_3' wk_68' wk_189' wk_g' wo
  obtain ⟨zR, zL, jv, j0, zn, zc, zs, zT, zv, sh2, sh3⟩ := hq
  obtain ⟨⟨o1, o2, o3, o4, o5, o6⟩, ⟨o7, o8, o9⟩, oC, oG⟩ := wo
  have zbz : zb 209 (zb 248 Z) = Z := by
    show (Z.1, Z.2.1, Z.2.2.1, 209, Z.2.2.2.2) = Z
    rw [← zn]
  have wzz : wz (zb 248 Z) := by
    refine ⟨fun a j hj hA => ?_, fun a hA => ?_, fun i i0 i1 => ?_, fun i i0 i1 => ?_, fun i i0 i1 => ?_, Nat.le_refl 248⟩
    · have q := of_decide_eq_true (List.all_eq_true.mp wk_A' _ (wA_k _ hA))
      rw [show (a * 100 + j) / 100 = a by omega, show (a * 100 + j) % 100 = j by omega] at q
      exact zR _ _ _ q
    · exact zL _ _ (of_decide_eq_true (List.all_eq_true.mp wk_L' _ (wL_k _ hA)))
    · obtain ⟨n, rfl⟩ := Int.eq_ofNat_of_zero_le i0
      have q := List.all_eq_true.mp wk_3' n (List.mem_range.mpr (by omega))
      simp only [Bool.and_eq_true, decide_eq_true_eq] at q
      exact ⟨zR _ _ _ q.1, zL _ _ q.2⟩
    · obtain ⟨n, rfl⟩ := Int.eq_ofNat_of_zero_le i0
      exact zR _ _ _ (of_decide_eq_true (List.all_eq_true.mp wk_68' n (List.mem_range.mpr (by omega))))
    · obtain ⟨n, rfl⟩ := Int.eq_ofNat_of_zero_le i0
      exact zR _ _ _ (of_decide_eq_true (List.all_eq_true.mp wk_189' n (List.mem_range.mpr (by omega))))
  have gr : ∀ k, k < 97 → gR (zb 248 Z) k = gI k ∧ Z.2.1 (gI k) = 0 ∧ gI k < 248 := fun k hk => by
    have q := List.all_eq_true.mp wk_g' k (List.mem_range.mpr hk)
    simp only [Bool.and_eq_true, decide_eq_true_eq] at q
    exact ⟨zR _ _ _ q.1, zL _ _ q.2, (gT_ok k hk).2.2.2.2.2.1⟩
  have e51 : Z.1 51 2 = 52 := zR _ _ _ o4
  have gwz : gw (zb 248 Z) := by
    have n51 : ¬ 248 ≤ (zb 248 Z).1 51 2 := by show ¬ 248 ≤ Z.1 51 2; omega
    refine ⟨fun q => absurd q n51, fun k hk => ?_, fun k k' hk hk' ne e => ?_, fun k i hk hi q => absurd q n51⟩
    · obtain ⟨a1, a2, a3⟩ := gr k hk
      refine ⟨Or.inl a1, by rw [a1]; exact a3, ?_, ?_⟩
      · rw [a1]; show 0 ≤ Z.2.1 (gI k); omega
      · rw [a1]; show Z.2.1 (gI k) ≤ 23409; omega
    · rw [(gr k hk).1, (gr k' hk').1] at e
      have := gI_inj ⟨k, hk⟩ ⟨k', hk'⟩ e
      exact ne (Fin.mk.inj this)
  have gG0 : ∀ t j, t < 16 → j < 6 → gG (zb 248 Z) t j = gI (1 + 6 * t + j) := fun t j ht hj => (gr _ (by omega)).1
  have gI0 : ∀ t, t < 16 → gI (1 + 6 * t) = 74 + 7 * t ∧ gI (1 + 6 * t + 4) = 78 + 7 * t := by decide
  have ok0 : ∀ a, a ∈ wk0 → okR (J0 a) := fun a ha => by rw [j0 a ha]; exact okR_0
  have m0 : ∀ t, t < 16 → 74 + 7 * t ∈ wk0 ∧ 78 + 7 * t ∈ wk0 := by decide +kernel
  have e290 : J0 29 0 = 2 := (jv 29 0 (by decide)).trans (by rw [o7]; rfl)
  have e291 : J0 29 1 = 0 := (jv 29 1 (by decide)).trans (by rw [o8]; rfl)
  have e11 : J0 1 1 = 0 := (jv 1 1 (by decide)).trans (by rw [o9, h1]; rfl)
  have eg : ∀ t, t < 16 → J0 (73 + 7 * t) 0 = (t : Int) := fun t ht => (jv _ 0 ((show ∀ t, t < 16 → 73 + 7 * t ∉ wkS by decide) t ht)).trans (by rw [of_decide_eq_true (List.all_eq_true.mp oG t (List.mem_range.mpr ht))]; rfl)
  have fzz : fz (zb 248 Z) := ⟨Nat.le_refl 248, fun a j _ q => by
    have h2 : 209 ≤ Z.1 a j := q.1
    have := zv a j
    omega⟩
  have G := t_grow (d := d + 7) (z := zb 248 Z) (I := J0) (D := 2) (nt := 0) (mb := 29) (T := T00) wzz (Or.inl rfl) (Or.inl rfl) e290 e291 (by decide) (ok0 31 (by decide)) (ok0 30 (by decide)) (ok0 38 (by decide)) (fun t ht => absurd ht (Nat.not_lt_zero t)) (fun t ht => absurd ht (Nat.not_lt_zero t))
  have G := mI_zb (M := 209) G
  rw [zbz] at G
  refine cm_call_mono G fun r hh ⟨v, I1, er, eh, fr1, kj, oR2, oR9, alt⟩ => ⟨v, er, ?_⟩
  subst eh
  have hM : mbOk 2 T00 0 1 (fun _ => mId) 29 I1 := by
    rcases alt with ⟨-, s', g1, g2⟩ | ⟨-, g1⟩
    · rw [gAll_00 T00 48] at g1
      have e := Option.some.inj g1
      rw [← e] at g2
      exact g2
    · rw [gAll_00 T00 48] at g1
      cases g1
  have f1 : ∀ c', c' ∉ gwL 29 → I1 c' = J0 c' := fr1
  have hW : wS (zb 248 Z) I1 := by
    refine ⟨gwz, ⟨?_, ?_, ?_, ?_⟩, fun p p0 p1 => ?_, ?_, fun t ht => ⟨?_, ?_⟩, fun t ht => ?_⟩
    · rw [f1 54 (by decide)]; exact ok0 54 (by decide)
    · rw [f1 58 (by decide)]; exact ok0 58 (by decide)
    · rw [f1 59 (by decide)]; exact ok0 59 (by decide)
    · rw [f1 60 (by decide)]; exact ok0 60 (by decide)
    · rw [f1 69 (by decide), j0 69 (by decide)]
    · rw [show (zb 248 Z).1 63 2 = 64 from zR _ _ _ o6, f1 64 (by decide)]; exact ok0 64 (by decide)
    · rw [f1 _ ((show ∀ t, t < 16 → 73 + 7 * t ∉ gwL 29 by decide) t ht)]; exact eg t ht
    · rw [gG0 t 0 ht (by decide), show 1 + 6 * t + 0 = 1 + 6 * t from rfl, (gI0 t ht).1, f1 _ ((show ∀ t, t < 16 → 74 + 7 * t ∉ gwL 29 by decide) t ht)]; exact ok0 _ (m0 t ht).1
    · rw [gG0 t 4 ht (by decide), (gI0 t ht).2, f1 _ ((show ∀ t, t < 16 → 78 + 7 * t ∉ gwL 29 by decide) t ht)]; exact ok0 _ (m0 t ht).2
  have sfr : ∀ {D : Int} {a : Nat} {J J' : cm_I}, shOk D a J → (∀ c', c' < 29 → J' c' = J c') → shOk D a J' := fun {D a J J'} hs e => by
    have ha : a = 11 ∨ a = 20 := by rcases hs.1 with w | w <;> omega
    exact shOk_fr hs (e _ (by omega)) (e _ (by omega)) (e _ (by omega)) (e _ (by omega)) (e _ (by omega))
  have lt29 : ∀ c', c' < 29 → c' ∉ gwL 29 := fun c' q m => by simp [gwL] at m; omega
  have SA := t_startAgain (d := d + 5) (z := zb 248 Z) (I := I1) (sh := 11) (mb := 29) (D := 2) (T := T00) (nt := 0) (n := 1) (L := fun _ => mId) wzz hW (zR _ _ _ o1) (zR _ _ _ o2) (sfr sh2 fun c' q => f1 c' (lt29 c' q)) (Or.inl rfl) hM (fun t ht => absurd ht (Nat.not_lt_zero t)) (fun t ht => absurd ht (Nat.not_lt_zero t)) (fun t ht => absurd ht (Nat.not_lt_zero t)) ex_00
  have SF : zcU (d + 10) m_Works_startAgain [vR 11 1] (zb 248 Z) I1 fun I2 z2 => (zf [53, 66, 185, 198] (zb 248 Z) z2 ∧ (∀ c', c' ∉ [67, 185, 198] → (∀ t, t < 16 → c' ≠ 73 + 7 * t) → I2 c' = I1 c') ∧ seE 2 11 29 T00 0 1 (fun _ => mId) z2 I2 ∧ z2.1 198 2 = 11 ∧ oT z2 I2 ∧ rwZ 2 11 29 T00 0 1 (fun _ => mId) none z2 I2) ∧ fz z2 := by
    refine cm_call_mono (fmE_call (d + 10) m_Works_startAgain [vR 11 1] (I1, zb 248 Z) _ (fk_c nMd1 fk_n) (fz_h fzz) SA) fun r g ⟨⟨I2, z2, e1, e2, p⟩, _, f, q⟩ => ⟨I2, z2, e1, e2, p, ?_⟩
    rw [e2] at f
    refine ⟨?_, f.2.1⟩
    have := p.1.2
    show 248 ≤ z2.2.2.2.1
    rw [this]
    exact Nat.le_refl 248
  have SZ := zcU_zb (M := 209) SF (fun I2 z2 p => by
    have := p.1.1.2
    show z2.2.2.2.2.1 = (zb 248 Z).2.2.2.2.1
    rw [this])
  rw [zbz] at SZ
  refine cm_call_mono SZ fun r hh ⟨I2, z1, er, eh, z2, ez, ⟨⟨zf1, zf2⟩, fI, hse, h198, hoT, hrw⟩, hfz⟩ => ⟨er, ?_⟩
  subst eh
  rw [ez]
  have g2 : ∀ c', c' < 67 → I2 c' = I1 c' := fun c' q => fI c' (by simp; omega) (fun t ht => by omega)
  have gz : ∀ c', c' < 67 → c' ∉ gwL 29 → I2 c' = J0 c' := fun c' q m => (g2 c' q).trans (f1 c' m)
  have zz : ∀ c', c' < 67 → c' ∉ gwL 29 → c' ∈ wk0 → I2 c' = fun _ => 0 := fun c' a b m => (gz c' a b).trans (j0 c' m)
  have z0 : okR (fun _ => (0 : Int)) := okR_0
  refine H z2 I2 ⟨hse, h198, hoT, fun t ht => absurd ht (Nat.not_lt_zero t), fun i i0 i1 => ?_, ⟨⟨?_, ?_⟩, fun k k0 k1 => ?_, ⟨?_, by decide, by decide⟩, ?_, ⟨?_, ?_, ?_, ?_, ?_, ?_⟩, Or.inl ⟨?_, ?_⟩, fun t t0 t1 => ?_⟩, hrw⟩ hfz ?_ ?_ ?_ ?_
  · have hc : 4 + i.toNat ∈ ([4, 5, 6, 7, 8, 9] : List Nat) := by simp; omega
    have hall : ∀ c' ∈ ([4, 5, 6, 7, 8, 9] : List Nat), c' < 67 ∧ c' ∉ gwL 29 ∧ c' ∈ wk0 := by decide +kernel
    obtain ⟨a1, a2, a3⟩ := hall _ hc
    refine ⟨fun k _ _ => by rw [zz _ a1 a2 a3], vOk_zero (Or.inl rfl)⟩
  · exact sfr sh2 fun c' q => gz c' (by omega) (lt29 c' q)
  · exact sfr sh3 fun c' q => gz c' (by omega) (lt29 c' q)
  · rw [zz 2 (by decide) (by decide) (by decide)]
    exact ⟨rfl, by show (-128 : Int) ≤ 0; decide, by show (0 : Int) ≤ 127; decide⟩
  · rw [gz 1 (by decide) (by decide)]; exact e11
  · rw [zf1 1 (by decide)]; exact zR _ _ _ o3
  · rw [zz 30 (by decide) (by decide) (by decide)]; exact z0
  · rw [g2 31 (by decide)]; exact oR2
  · rw [g2 38 (by decide)]; exact oR9
  · rw [zz 40 (by decide) (by decide) (by decide)]; exact z0
  · rw [zz 41 (by decide) (by decide) (by decide)]; exact z0
  · rw [zz 48 (by decide) (by decide) (by decide)]; exact z0
  · rw [zf1 51 (by decide)]; exact e51
  · rw [show z2.2.1 = (zb 248 Z).2.1 by rw [zf2]]; exact zL _ _ o5
  · rw [zz 50 (by decide) (by decide) (by decide)]; exact ⟨by show (0 : Int) ≤ 0; decide, by show (0 : Int) ≤ 400; decide⟩
  · show z2.2.2.2.1 = 248; rw [zf2]; rfl
  · show z2.2.2.2.2.1 = _; rw [zf2]; exact zc
  · show z2.2.2.2.2.2 ≤ _; rw [zf2]; exact zs
  · rw [zf2]; exact zT
theorem w_made {d : Nat} {Q : cm_Q} {I : cm_I} {R : Nat → Int → Nat} {L : Nat → Int} {Tk : Nat → Nat} {c s : Nat} (h1 : I 1 = fun _ => 0) (hR : ∀ a j, R a j = 0) (H : ∀ (z : cm_Z) (J : cm_I), wI 2 T00 0 1 (fun _ => mId) (fun _ _ => 0) (fun _ => 0) 0 none 11 29 z J → fz z → zN z = 248 → zC z = c + 207 → zS z ≤ s + 40000 → z.2.2.1 1 = Tk 1 → Q none (J, zb 209 z)) : cm_call (d + 11) m_Works_init [vR 11 1] (I, R, L, Tk, 2, c, s) Q := by
  refine r3_Works (d := d) fun J1 J2 j1 s1 j2 s2 => ?_
  have eZ := wk_z (h := (I, R, L, Tk, 2, c, s)) (J1 := J1) (J2 := J2)
  have eI := fun c' (hc : c' ∉ wkS) => wk_i (h := (I, R, L, Tk, 2, c, s)) (J1 := J1) (J2 := J2) j1 j2 hc
  have nn := wz2_n (I := I) (R := R) (L := L) (Tk := Tk) (c := c) (s := s) (J1 := J1)
  generalize wz2 (I, R, L, Tk, 2, c, s) J1 = z2 at eZ eI nn ⊢
  generalize wz1 (I, R, L, Tk, 2, c, s) = z1 at j2 nn
  have sS := wkQ_s (h := (I, R, L, Tk, 2, c, s)) nn.2 nn.1 s1 j2 s2 rfl
  have hz := wkQ_z (h := (I, R, L, Tk, 2, c, s)) rfl hR rfl
  rw [← eZ] at hz
  have hi := wkQ_i (h := (I, R, L, Tk, 2, c, s)) rfl eI
  generalize mkF wp9 (J2, z2) = g at sS hz hi ⊢
  obtain ⟨J0, Z⟩ := g
  obtain ⟨a1, a2, a3, a4, a5, a6, a7⟩ := hz
  exact w_made1 h1 ⟨a1, a2, hi.1, hi.2, a3, a4, a5, a6, a7, sS.1, sS.2⟩ H
