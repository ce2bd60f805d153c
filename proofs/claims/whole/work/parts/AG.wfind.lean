/-! THE CLASS's members: finding one -/
section WM
variable {d : Nat} {z : cm_Z} {I : cm_I} {D : Int} {mb : Nat}
theorem t_find (hz : wz z) (pm : isMb mb) (hD : D = 2 ∨ D = 3) (e0 : I mb 0 = D) {n : Nat} (en : I mb 2 = n) (n48 : n ≤ 48) (oc : okR (I (mb + 2))) (o9 : okR (I (mb + 9))) : mI (d + 1) m_Members_findCandidate [vR 3 mb] z I fun r I1 => I1 = I ∧ r = gFind (fun k => wmat D (I (mb + 2)) k) (wmat D (I (mb + 9)) 0) n := by
  have dd : D * D = 4 ∨ D * D = 9 := by rcases hD with w | w <;> rw [w] <;> omega
  have key : ∀ (c g : Nat) (z2 : Option cm_V), g + c = n → (∀ k, k < g → mSame (wmat D (I (mb + 2)) k) (wmat D (I (mb + 9)) 0) = false) → cw d cd_Members_findCandidate (qI z fun r I1 => I1 = I ∧ r = gFind (fun k => wmat D (I (mb + 2)) k) (wmat D (I (mb + 9)) 0) n) 2 [some (vR 3 mb), some (vI (g : Int)), z2] [] (I, z) := by
    intro c
    induction c with
    | zero =>
      intro g z2 e h
      refine wr_Members_findCandidate_2 hz pm ?_
      rw [en]
      refine ⟨fun _ => qI_mk ⟨rfl, ?_⟩, fun q => by omega⟩
      rw [gFind_uniq (r := n) (Nat.le_refl n) (fun k hk => h k (by omega)) fun q => by omega]
    | succ c ih =>
      intro g z2 e h
      have at51 : ∀ x : Int, 0 ≤ x → x ≤ D * D → (∀ y, 0 ≤ y → y < x → I (mb + 2) (9 * (g : Int) + y) = I (mb + 9) (9 * 0 + y)) → (x < D * D → I (mb + 2) (9 * (g : Int) + x) ≠ I (mb + 9) (9 * 0 + x)) → cw d cd_Members_findCandidate (qI z fun r I1 => I1 = I ∧ r = gFind (fun k => wmat D (I (mb + 2)) k) (wmat D (I (mb + 9)) 0) n) 51 [some (vR 3 mb), some (vI (g : Int)), some (vI x)] [] (I, z) := by
        intro x x0 x1 al ne
        refine wr_Members_findCandidate_51 hz pm ?_
        rw [e0]
        refine ⟨⟨by omega, by omega⟩, fun q => ⟨⟨by omega, by omega⟩, ih (g + 1) _ (by omega) fun k hk => ?_⟩, fun q => qI_mk ⟨rfl, ?_⟩⟩
        · by_cases w : k = g
          · rw [w]
            apply Bool.eq_false_iff.mpr
            intro s
            have s' := (wmat_same hD oc o9).mpr ((mSame_iff (isM_wmat hD _ _) (isM_wmat hD _ _)).mp s)
            exact ne (by omega) (s' x x0 (by omega))
          · exact h k (by omega)
        · rw [gFind_uniq (r := g) (by omega) h fun _ => (mSame_iff (isM_wmat hD _ _) (isM_wmat hD _ _)).mpr ((wmat_same hD oc o9).mp fun y y0 y1 => al y y0 (by omega))]
      have at12 : ∀ (u : Nat) (x : Int), 0 ≤ x → x + u = D * D → (∀ y, 0 ≤ y → y < x → I (mb + 2) (9 * (g : Int) + y) = I (mb + 9) (9 * 0 + y)) → cw d cd_Members_findCandidate (qI z fun r I1 => I1 = I ∧ r = gFind (fun k => wmat D (I (mb + 2)) k) (wmat D (I (mb + 9)) 0) n) 12 [some (vR 3 mb), some (vI (g : Int)), some (vI x)] [] (I, z) := by
        intro u
        induction u with
        | zero =>
          intro x x0 ex al
          refine wr_Members_findCandidate_12 hz pm ?_
          rw [e0]
          exact ⟨⟨by omega, by omega⟩, fun _ => at51 x x0 (by omega) al fun q => by omega, fun q => by omega⟩
        | succ u ihu =>
          intro x x0 ex al
          refine wr_Members_findCandidate_12 hz pm ?_
          rw [e0]
          refine ⟨⟨by omega, by omega⟩, fun q => by omega, fun _ => ⟨⟨by omega, by omega⟩, ⟨by omega, by omega⟩, ⟨by omega, by omega⟩, ⟨by omega, by omega⟩, fun ne => at51 x x0 (by omega) al fun _ => ?_, fun eq => ⟨⟨by omega, by omega⟩, ihu (x + 1) (by omega) (by omega) fun y y0 y1 => ?_⟩⟩⟩
          · rw [show 9 * (0 : Int) + x = x by omega]; exact ne
          · by_cases w : y = x
            · rw [w, show 9 * (0 : Int) + x = x by omega]; exact eq
            · exact al y y0 (by omega)
      refine wr_Members_findCandidate_2 hz pm ?_
      rw [en]
      exact ⟨fun q => by omega, fun _ => at12 (D * D).toNat 0 (by omega) (by omega) fun y y0 y1 => by omega⟩
  refine wr_Members_findCandidate hz pm ?_
  exact key n 0 none (by omega) fun k hk => absurd hk (Nat.not_lt_zero k)
theorem t_trace (hz : wz z) (pm : isMb mb) (hD : D = 2 ∨ D = 3) (e0 : I mb 0 = D) (oc : okR (I (mb + 2))) {g : Int} (g0 : 0 ≤ g) (g1 : g < 48) : mI (d + 1) m_Members_trace [vR 3 mb, vI g] z I fun r I1 => I1 = I ∧ r = fi (mTr D.toNat (wmat D (I (mb + 2)) g)) := by
  have bd : ∀ n : Nat, 0 ≤ (sg n fun m => I (mb + 2) (9 * g + D * m + m)) ∧ (sg n fun m => I (mb + 2) (9 * g + D * m + m)) ≤ n * 2520 := fun n => ⟨sg_nonneg fun i _ => (oc _).1, sg_le fun i _ => by have := (oc (9 * g + D * i + i)).2; omega⟩
  have key : ∀ (c i : Nat), (i : Int) + c = D → cw d cd_Members_trace (qI z fun r I1 => I1 = I ∧ r = fi (mTr D.toNat (wmat D (I (mb + 2)) g))) 4 [some (vR 3 mb), some (vI g), some (vI (sg i fun m => I (mb + 2) (9 * g + D * m + m))), some (vI (i : Int))] [] (I, z) := by
    intro c
    induction c with
    | zero =>
      intro i e
      have b := bd i
      refine wr_Members_trace_4 hz pm ?_
      rw [e0]
      refine ⟨fun _ => qI_mk ⟨rfl, ?_⟩, fun q => by omega⟩
      rw [tmod_pos b.1, ← fi_toF, toF_sg]
      unfold mTr
      rw [show D.toNat = i by omega, fs_gs, fs_gs]
      congr 1
      exact gs_congr fun m hm => (wmat_in (by omega)).symm
    | succ c ih =>
      intro i e
      have b := bd i
      have b2 := bd (i + 1)
      have di : 0 ≤ D * (i : Int) ∧ D * (i : Int) + D ≤ 9 := by rcases hD with w | w <;> rw [w] at e ⊢ <;> omega
      have nx := ih (i + 1) (by omega)
      have ca := oc (9 * g + D * (i : Int) + i)
      have es : (sg (i + 1) fun m => I (mb + 2) (9 * g + D * m + m)) = (sg i fun m => I (mb + 2) (9 * g + D * m + m)) + I (mb + 2) (9 * g + D * (i : Int) + i) := rfl
      rw [es, show ((i + 1 : Nat) : Int) = (i : Int) + 1 by omega] at nx
      refine wr_Members_trace_4 hz pm ?_
      rw [e0]
      exact ⟨fun q => by omega, fun _ => ⟨⟨by omega, by omega⟩, ⟨by omega, by omega⟩, ⟨by omega, by omega⟩, ⟨by omega, by omega⟩, ⟨by omega, by omega⟩, ⟨by omega, by omega⟩, ⟨by omega, by omega⟩, nx⟩⟩
  refine wr_Members_trace hz pm ?_
  exact key D.toNat 0 (by omega)
end WM
