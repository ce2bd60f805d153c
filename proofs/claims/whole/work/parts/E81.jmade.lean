/-! BOTH ARE MADE; how much room the rows take at most -/
theorem psN_mo {f g : Nat → Nat} : ∀ {n : Nat}, (∀ i, i < n → f i ≤ g i) → psN f n ≤ psN g n
  | 0, _ => Nat.le_refl _
  | n + 1, h => by
    have a := psN_mo (n := n) fun i hi => h i (Nat.lt_succ_of_lt hi)
    have b := h n (Nat.lt_succ_self n)
    show psN f n + f n ≤ psN g n + g n
    omega
set_option maxRecDepth 100000 in
theorem pot_cap : psN (fun k => 46818 + gP k + gQ k) 97 ≤ 5000000 ∧ psN (fun _ => 17) 97 ≤ 2000 := by decide +kernel
theorem pot_bd {z : cm_Z} (hg : gw z) : potC z ≤ 2000 ∧ potS z ≤ 5000000 := by
  have hl : ∀ k, k < 97 → (z.2.1 (gR z k)).toNat ≤ 23409 := fun k hk => by
    have := (hg.2.1 k hk).2.2
    omega
  constructor
  · refine Nat.le_trans (psN_mo fun k hk => ?_) pot_cap.2
    have h := hl k hk
    generalize (z.2.1 (gR z k)).toNat = n at h
    unfold ptC
    have a1 : (if n = 0 then 0 else Nat.log2 n + 1) ≤ 15 := by
      split
      · decide
      · rename_i h0
        have : Nat.log2 n < 15 := (Nat.log2_lt h0).mpr (Nat.lt_of_le_of_lt h (by decide))
        omega
    have a2 : (if gP k ≤ n then 1 else 0) ≤ 1 := by split <;> omega
    have a3 : (if gQ k ≤ n then 1 else 0) ≤ 1 := by split <;> omega
    omega
  · refine Nat.le_trans (psN_mo fun k hk => ?_) pot_cap.1
    have h := hl k hk
    generalize (z.2.1 (gR z k)).toNat = n at h
    unfold ptS
    have a2 : (if gP k ≤ n then gP k else 0) ≤ gP k := by split <;> omega
    have a3 : (if gQ k ≤ n then gQ k else 0) ≤ gQ k := by split <;> omega
    omega
theorem sm_bd (z : cm_Z) : smC z ≤ 44 ∧ smS z ≤ 20034 := by
  unfold smC smS
  constructor
  · split
    · decide
    · split <;> decide
  · split
    · decide
    · split <;> decide
theorem jW_bd {zs z : cm_Z} {I : cm_I} (c0 : zC zs ≤ 1000) (s0 : zS zs ≤ 600000) (u : usW zs z) (j : jW z I) : zC z ≤ 600000 ∧ zS z ≤ 7280000 := by
  obtain ⟨D, T, nt, n, L, K, B, tp, rf, sh, mb, h⟩ := j
  have hg : gw z := h.1.1.1.2.1
  have p := pot_bd hg
  have q := sm_bd z
  obtain ⟨u1, u2⟩ := u
  omega
theorem j_made {z : cm_Z} {J : cm_I} (w : wI 2 T00 0 1 (fun _ => mId) (fun _ _ => 0) (fun _ => 0) 0 none 11 29 z J) (f : fz z) (n : zN z = 248) {d : Nat} : cm_call (d + 10) m_Model_init [vR 12 209] (ch_new (J, zb 209 z) 12 0 63) fun r g => r = none ∧ ∃ I1 z1, g = (I1, z1) ∧ jW z1 I1 ∧ zC z1 = zC z + 39 ∧ zS z1 = zS z + 481214 := by
  have k := k_model (d := d) (I := fun b => if b = 209 then (fun _ => 0) else J b) (R := fun b => if b = 209 then (fun _ => 0) else z.1 b) (L := fun b => if b = 209 then 0 else z.2.1 b) (Tk := fun b => if b = 209 then 12 else z.2.2.1 b) (c := zC z + 1) (s := zS z + 63) (if_pos rfl)
  refine cm_call_mono k fun r g ⟨er, I1, z1, eg, m⟩ => ⟨er, I1, z1, eg, ?_, ?_, ?_⟩
  · obtain ⟨hz, zn, zc, zs, lo, hi, hr⟩ := m
    have out : ∀ a, ¬ sMd a → z1.1 a = z.1 a ∧ z1.2.1 a = z.2.1 a ∧ I1 a = J a := fun a ha => by
      have hs : a < 209 ∨ 248 ≤ a := by unfold sMd at ha; omega
      have ne : ¬ a = 209 := by omega
      rcases hs with q | q
      · obtain ⟨x1, x2, x3⟩ := lo a q
        rw [x1, x2, x3]
        show (if a = 209 then _ else z.1 a) = z.1 a ∧ (if a = 209 then _ else z.2.1 a) = z.2.1 a ∧ (if a = 209 then _ else J a) = J a
        rw [if_neg ne, if_neg ne, if_neg ne]
        exact ⟨rfl, rfl, rfl⟩
      · obtain ⟨x1, x2, x3⟩ := hi a q
        rw [x1, x2, x3]
        show (if a = 209 then _ else z.1 a) = z.1 a ∧ (if a = 209 then _ else z.2.1 a) = z.2.1 a ∧ (if a = 209 then _ else J a) = J a
        rw [if_neg ne, if_neg ne, if_neg ne]
        exact ⟨rfl, rfl, rfl⟩
    refine ⟨2, T00, 0, 1, fun _ => mId, fun _ _ => 0, fun _ => 0, 0, none, 11, 29, wI_md w ⟨by rw [zn, n], out⟩, hr, hz, ⟨by rw [zn]; decide, fun a j ha => ?_⟩⟩
    rw [(out a ha).1]
    exact f.2 a j ha
  · have e1 : zC z1 = (zC z + 1) + 38 := m.2.2.1
    omega
  · obtain ⟨hz, zn, zc, zs, lo, hi, hr⟩ := m
    exact zs.trans (Nat.add_assoc (zS z) 63 481151)
