/-! new int[n][m] on the machine -/
theorem nw_spec (h : cm_H) (len : Int) (sl : Nat) : ∀ n : Nat, (∀ a, (ch_news h len sl n).1 a = if ch_n h ≤ a ∧ a < ch_n h + n then (fun _ => 0) else h.1 a) ∧ (∀ a, (ch_news h len sl n).2.1 a = if ch_n h ≤ a ∧ a < ch_n h + n then (fun _ => 0) else h.2.1 a) ∧ (∀ a, (ch_news h len sl n).2.2.1 a = if ch_n h ≤ a ∧ a < ch_n h + n then len else h.2.2.1 a) ∧ (∀ a, (ch_news h len sl n).2.2.2.1 a = if ch_n h ≤ a ∧ a < ch_n h + n then 20 else h.2.2.2.1 a) ∧ ch_n (ch_news h len sl n) = ch_n h + n ∧ ch_c (ch_news h len sl n) = ch_c h + n ∧ ch_s (ch_news h len sl n) = ch_s h + n * sl := by
  intro n
  induction n with
  | zero => exact ⟨fun a => (if_neg (by omega)).symm, fun a => (if_neg (by omega)).symm, fun a => (if_neg (by omega)).symm, fun a => (if_neg (by omega)).symm, rfl, rfl, by rw [Nat.zero_mul]; rfl⟩
  | succ n ih =>
    obtain ⟨i1, i2, i3, i7, i4, i5, i6⟩ := ih
    have e : (ch_news h len sl n).2.2.2.2.1 = ch_n h + n := i4
    refine ⟨fun a => ?_, fun a => ?_, fun a => ?_, fun a => ?_, ?_, ?_, ?_⟩
    · show (if a = (ch_news h len sl n).2.2.2.2.1 then _ else (ch_news h len sl n).1 a) = _
      rw [e, i1 a]
      by_cases q : a = ch_n h + n
      · rw [if_pos q, if_pos (by omega)]
      · rw [if_neg q]
        by_cases w : ch_n h ≤ a ∧ a < ch_n h + n
        · rw [if_pos w, if_pos (by omega)]
        · rw [if_neg w, if_neg (by omega)]
    · show (if a = (ch_news h len sl n).2.2.2.2.1 then _ else (ch_news h len sl n).2.1 a) = _
      rw [e, i2 a]
      by_cases q : a = ch_n h + n
      · rw [if_pos q, if_pos (by omega)]
      · rw [if_neg q]
        by_cases w : ch_n h ≤ a ∧ a < ch_n h + n
        · rw [if_pos w, if_pos (by omega)]
        · rw [if_neg w, if_neg (by omega)]
    · show (if a = (ch_news h len sl n).2.2.2.2.1 then _ else (ch_news h len sl n).2.2.1 a) = _
      rw [e, i3 a]
      by_cases q : a = ch_n h + n
      · rw [if_pos q, if_pos (by omega)]
      · rw [if_neg q]
        by_cases w : ch_n h ≤ a ∧ a < ch_n h + n
        · rw [if_pos w, if_pos (by omega)]
        · rw [if_neg w, if_neg (by omega)]
    · show (if a = (ch_news h len sl n).2.2.2.2.1 then _ else (ch_news h len sl n).2.2.2.1 a) = _
      rw [e, i7 a]
      by_cases q : a = ch_n h + n
      · rw [if_pos q, if_pos (by omega)]
      · rw [if_neg q]
        by_cases w : ch_n h ≤ a ∧ a < ch_n h + n
        · rw [if_pos w, if_pos (by omega)]
        · rw [if_neg w, if_neg (by omega)]
    · show ch_n (ch_news h len sl n) + 1 = _
      rw [i4]; omega
    · show ch_c (ch_news h len sl n) + 1 = _
      rw [i5]; omega
    · show ch_s (ch_news h len sl n) + sl = _
      rw [i6, Nat.add_mul, Nat.one_mul]; omega
theorem sm_ok_news {h : cm_H} {len : Int} {sl : Nat} (H : sm_ok h) (hl : 0 ≤ len ∧ len ≤ 1000000) : ∀ n, sm_ok (ch_news h len sl n)
  | 0 => H
  | n + 1 => sm_ok_new (sm_ok_news H hl n) (Or.inr ⟨by decide, by decide⟩) hl
theorem sm_ok_x {h : cm_H} {a : Nat} {f : Int → Nat} (H : sm_ok h) (hc : ch_T h a = 23) (hf : ∀ j, f j = 0 ∨ (f j < ch_n h ∧ ch_T h (f j) = 20)) : sm_ok (ch_x h a f) := by
  obtain ⟨h1, h2, h3, h4, h5, h6, h7⟩ := H
  refine ⟨h1, h2, fun x y => ?_, h4, h5, fun x hx0 hxn hxT y kd2 hk2 => ?_, fun x hx0 hxn hxT y => ?_⟩
  · rw [ch_R_x]
    by_cases hx : x = a
    · rw [if_pos hx]
      show f y < ch_n h
      rcases hf y with q | q
      · rw [q]; exact h1
      · exact q.1
    · rw [if_neg hx]; exact h3 x y
  · rw [ch_R_x]
    by_cases hx : x = a
    · subst hx
      have hxT2 : ch_T h x < 13 := hxT
      omega
    · rw [if_neg hx]
      exact h6 x hx0 hxn hxT y kd2 hk2
  · rw [ch_R_x]
    by_cases hx : x = a
    · rw [if_pos hx]
      subst hx
      show f y = 0 ∨ ch_T h (f y) = cm_ek (ch_T h x)
      rcases hf y with q | q
      · exact Or.inl q
      · exact Or.inr (by rw [q.2, hc]; rfl)
    · rw [if_neg hx]
      exact h7 x hx0 hxn hxT y
theorem ws_inv {ad : Nat → Nat} {cl : Nat → ClassId} {h : cm_H} {k : Nat} {q : Nat × va_E} (e : (sm_ws ad cl h)[k]? = some q) : k + 1 < ch_n h ∧ q = (ad (k + 1), en_C ad cl h (k + 1)) := by
  have hk := (List.getElem?_eq_some_iff.mp e).1
  rw [sm_len] at hk
  have := sm_get (ad := ad) (cl := cl) (h := h) (a := k + 1) (by omega) (by omega)
  rw [show k + 1 - 1 = k from rfl, e] at this
  exact ⟨by omega, Option.some.inj this⟩
theorem en_R_ext {ad ad' : Nat → Nat} {n a : Nat} (he : ∀ a, a < n → ad' a = ad a) (h : a < n) : en_R ad' a = en_R ad a := by
  unfold en_R
  split
  · rfl
  · rw [he a h]
theorem en_C_ext {ad ad' : Nat → Nat} {cl cl' : Nat → ClassId} {h h' : cm_H} {b : Nat} (H : sm_ok h) (he : ∀ a, a < ch_n h → ad' a = ad a) (hc : cl' b = cl b) (hT : ch_T h' b = ch_T h b) (hL : ch_L h' b = ch_L h b) (hI : ch_I h' b = ch_I h b) (hR : ch_R h' b = ch_R h b) : en_C ad' cl' h' b = en_C ad cl h b := by
  rw [en_C_congr hT hL hI hR]
  have r : ∀ j, en_R ad' (ch_R h b j) = en_R ad (ch_R h b j) := fun j => en_R_ext he (H.2.2.1 b j)
  unfold en_C en_F en_f
  simp only [r, hc]
theorem outerC_eta (c : ClassId) (N h0 : Nat) : ∀ i, Jvm.Free.Multi.outerC c N h0 i = { cls := c, slots := (Jvm.Free.Multi.outerC c N h0 i).slots, vm := .none }
  | 0 => rfl
  | i + 1 => by
    have ih := outerC_eta c N h0 i
    show (Jvm.Free.Multi.outerC c N h0 i).setSlot i (.ref (h0 + 1 + i)) = { cls := c, slots := ((Jvm.Free.Multi.outerC c N h0 i).setSlot i (.ref (h0 + 1 + i))).slots, vm := .none }
    rw [ih]
    rfl
theorem outer_arrV {c : ClassId} {N h0 : Nat} {g : Nat → Value} (hg : ∀ j, j < N → g j = .ref (h0 + 1 + j)) : Jvm.Free.Multi.outerC c N h0 N = arrV c N g := by
  rw [outerC_eta]
  have : (Jvm.Free.Multi.outerC c N h0 N).slots = Array.ofFn (n := N) fun j => g j.val := by
    refine Array.ext_getElem? fun j => ?_
    by_cases hj : j < N
    · rw [Jvm.Free.Multi.outerC_slot c N h0 N j hj, if_pos hj, ← hg j hj]
      rw [Array.getElem?_eq_getElem (by simp [hj])]
      simp
    · rw [Array.getElem?_eq_none (by rw [(Jvm.Free.Multi.outerC_facts c N h0 N).2.2]; omega), Array.getElem?_eq_none (by simp; omega)]
  rw [this]
  rfl
theorem inner_arrV {c : ClassId} {M : Nat} {v : Value} : Jvm.Free.Multi.innerC c M v = arrV c M (fun _ => v) := by
  have : Array.replicate M v = Array.ofFn (n := M) fun _ => v := by
    refine Array.ext_getElem? fun j => ?_
    by_cases hj : j < M
    · simp [hj]
    · rw [Array.getElem?_eq_none (by simp; omega), Array.getElem?_eq_none (by simp; omega)]
  show ({ cls := c, slots := Array.replicate M v, vm := .none } : Cell) = { cls := c, slots := Array.ofFn (n := M) fun _ => v, vm := .none }
  rw [this]
theorem arr_of {s : State} {c : ClassId} {ty : FieldType} {cell : Cell} (h : s.isArrayOf cell ty) (e : cell.cls = c) : ArrOfT s c ty := by
  intro n f
  obtain ⟨k, h1, h2⟩ := h.2
  exact ⟨fun k q => (by cases q), k, (by rw [e] at h1; exact h1), h2⟩
section SNM
variable {p : Program} {l : Launch} {e : Env} {R : Room} {s : State} {m : MethodId} {args : Array Value} {below : List Frame} {meth : Method} {c : Code} {k : Nat} {D : va_G} {A : Nat → Prop} {ad0 : Nat → Nat} {h0 hF : cm_H} {Fin : State → Prop} {d : Nat}
variable {pc nx : Nat} {ls : cm_L} {st t : List cm_V} {h : cm_H}
set_option maxHeartbeats 2000000 in
theorem so_newM {w z : Nat} {n n2 : Int} (X : sm_X p R s m args meth c k D A h0 hF d) (ho : ok_I k pc (.multianewarray w z) nx = true) (hn : 0 ≤ n ∧ n ≤ 1000 ∧ 0 ≤ n2 ∧ n2 ≤ 1000) (hg : cm_ge (ch_x (ch_news (ch_new h 23 n n.toNat) n2 n2.toNat n.toNat) (ch_n h) (fun j => if 0 ≤ j ∧ j < n then ch_n h + 1 + j.toNat else 0)) hF) (K : sm_J p l e R s m args below meth c k D A ad0 h0 Fin nx ls (.inr (.inl (23, ch_n h)) :: st) (ch_x (ch_news (ch_new h 23 n n.toNat) n2 n2.toNat n.toNat) (ch_n h) (fun j => if 0 ≤ j ∧ j < n then ch_n h + 1 + j.toNat else 0))) : sm_J p l e R s m args below meth c k D A ad0 h0 Fin pc ls (.inl n2 :: .inl n :: st) h := by
  obtain ⟨raw, len, hd, rfl, hR⟩ := ok_I_inv ho
  obtain ⟨hx, hb, -, hown, hts, -, -, -, hK, -, -, -, hI, hA, -, hRc, hRs, -⟩ := X
  intro ad cl H locs ls' S
  obtain ⟨S1, S2, S3, S4, S5, S6, S7, S8, S9, S10⟩ := S
  have V := List.forall_mem_cons.mp S7
  have V2 := List.forall_mem_cons.mp V.2
  have cn : cm_i n := ⟨by omega, by omega⟩
  have cn2 : cm_i n2 := ⟨by omega, by omega⟩
  dsimp only [ok_R] at hR
  split at hR
  · simp only [Bool.and_eq_true] at hR
    obtain ⟨⟨⟨r1, r2⟩, r3⟩, r4⟩ := hR
    have hl := Nat.eq_of_beq_eq_true r4
    subst hl
    have h2 := Nat.eq_of_beq_eq_true r3
    subst h2
    have hd' := hd
    rw [← hb] at hd'
    unfold ok_2 at r1
    obtain ⟨q, hq, hq2⟩ := List.any_eq_true.mp r1
    obtain ⟨k1, k2⟩ := key_inv hq2 r2
    have hw := hts _ (lk_cm hq)
    rw [k1, k2] at hw
    obtain ⟨s1, s2, s3, s7, s4, s5, s6⟩ := nw_spec (ch_new h 23 n n.toNat) n2 n2.toNat n.toNat
    have en1 : ch_n (ch_new h 23 n n.toNat) = ch_n h + 1 := rfl
    have ec1 : ch_c (ch_new h 23 n n.toNat) = ch_c h + 1 := rfl
    have es1 : ch_s (ch_new h 23 n n.toNat) = ch_s h + n.toNat := rfl
    rw [en1] at s1 s2 s3 s7 s4
    rw [ec1] at s5
    rw [es1] at s6
    obtain ⟨f, hf⟩ : ∃ f : Int → Nat, f = fun j => if 0 ≤ j ∧ j < n then ch_n h + 1 + j.toNat else 0 := ⟨_, rfl⟩
    rw [← hf] at hg K
    generalize hY : ch_news (ch_new h 23 n n.toNat) n2 n2.toNat n.toNat = Y at s1 s2 s3 s7 s4 s5 s6 hg K
    have okY : sm_ok Y := by rw [← hY]; exact sm_ok_news (sm_ok_new S4 (Or.inr ⟨by decide, by decide⟩) ⟨by omega, by omega⟩) ⟨by omega, by omega⟩ _
    have tN : ch_T Y (ch_n h) = 23 := by
      show Y.2.2.2.1 (ch_n h) = 23
      rw [s7, if_neg (by omega)]
      show (if ch_n h = h.2.2.2.2.1 then 23 else _) = 23
      exact if_pos rfl
    have tI : ∀ j, j < n.toNat → ch_T Y (ch_n h + 1 + j) = 20 := fun j hj => by
      show Y.2.2.2.1 (ch_n h + 1 + j) = 20
      rw [s7, if_pos (by omega)]
    have lo : ∀ a, a < ch_n h → ch_T Y a = ch_T h a ∧ ch_L Y a = ch_L h a ∧ ch_I Y a = ch_I h a ∧ ch_R Y a = ch_R h a := fun a ha => by
      have ne : ¬ a = h.2.2.2.2.1 := Nat.ne_of_lt ha
      refine ⟨?_, ?_, ?_, ?_⟩
      · show Y.2.2.2.1 a = h.2.2.2.1 a
        rw [s7, if_neg (by omega)]; exact if_neg ne
      · show Y.2.2.1 a = h.2.2.1 a
        rw [s3, if_neg (by omega)]; exact if_neg ne
      · show Y.1 a = h.1 a
        rw [s1, if_neg (by omega)]; exact if_neg ne
      · show Y.2.1 a = h.2.1 a
        rw [s2, if_neg (by omega)]; exact if_neg ne
    have hfv : ∀ j, f j = 0 ∨ (f j < ch_n Y ∧ ch_T Y (f j) = 20) := fun j => by
      rw [hf]
      show (if 0 ≤ j ∧ j < n then ch_n h + 1 + j.toNat else 0) = 0 ∨ _
      by_cases w : 0 ≤ j ∧ j < n
      · refine Or.inr ?_
        show (if 0 ≤ j ∧ j < n then ch_n h + 1 + j.toNat else 0) < ch_n Y ∧ ch_T Y (if 0 ≤ j ∧ j < n then ch_n h + 1 + j.toNat else 0) = 20
        rw [if_pos w, s4]
        exact ⟨by omega, tI _ (by omega)⟩
      · exact Or.inl (if_neg w)
    have okh : sm_ok (ch_x Y (ch_n h) f) := sm_ok_x okY tN hfv
    have nn : ch_n (ch_x Y (ch_n h) f) = ch_n h + 1 + n.toNat := s4
    have g1 : ch_c Y ≤ ch_c hF := hg.1
    have g2 : ch_s Y ≤ ch_s hF := hg.2
    have c1 := S8.1
    have c2 := S8.2
    have N1 : (Int32.ofInt n).toNatClampNeg = n.toNat := i3_nat cn
    have N2 : (Int32.ofInt n2).toNatClampNeg = n2.toNat := i3_nat cn2
    have mle : n.toNat * n2.toNat ≤ 1000 * 1000 := Nat.mul_le_mul (by omega) (by omega)
    intro T hT X0
    obtain ⟨vm₁, cA, comp, hW, hfA, hfC, hO, hIn, X1, step⟩ := X0.multianewarray2F hx (own := sm_cn (sm_ow k)) (ty := .int) hown hw hI (hts _ tw_ar_int) (g := F0 m pc ls' ((Sum.inl n2 :: Sum.inl n :: st).map (en_V ad))) rfl hd' (n := Int32.ofInt n) (k := Int32.ofInt n2) (rest := st.map (en_V ad)) rfl (by rw [← i3_z, i3_lt cn i3_0]; omega) (by rw [← i3_z, i3_lt cn2 i3_0]; omega) (by rw [N1]; omega) (by rw [N2]; show n2.toNat * 4 ≤ _; omega) (by rw [N2]; omega) rfl rfl (by rw [N1, hRc]; omega) (by rw [N1, N2, hRs]; omega)
    rw [N1, N2] at X1 step
    have hTz : (T.setVm vm₁).heap = H := hT
    obtain ⟨f1, f2, f3, f4⟩ := Jvm.Free.Multi.fill_facts (T.setVm vm₁) cA comp n.toNat n2.toNat (defaultValue .int) n.toNat
    have fo := fun (a : Nat) (ha : a < (T.setVm vm₁).heap.size) => Jvm.Free.Multi.fill_old (T.setVm vm₁) cA comp n.toNat n2.toNat (defaultValue .int) ha n.toNat
    have fi := Jvm.Free.Multi.fill_inner (T.setVm vm₁) cA comp n.toNat n2.toNat (defaultValue .int) n.toNat
    rw [hTz] at f1 f2 fo fi
    generalize hU : Jvm.Free.Multi.fill (T.setVm vm₁) cA comp n.toNat n2.toNat (defaultValue .int) n.toNat = U at X1 step f1 f2 f3 f4 fo fi
    obtain ⟨ad', had⟩ : ∃ ad' : Nat → Nat, ad' = fun a => if a < ch_n h then ad a else H.size + (a - ch_n h) := ⟨_, rfl⟩
    obtain ⟨cl', hcl⟩ : ∃ cl' : Nat → ClassId, cl' = fun a => if a < ch_n h then cl a else if a = ch_n h then cA else comp := ⟨_, rfl⟩
    have a1 : ∀ a, a < ch_n h → ad' a = ad a := fun a ha => by rw [had]; exact if_pos ha
    have a2 : ∀ j, ad' (ch_n h + j) = H.size + j := fun j => by
      rw [had]
      show (if ch_n h + j < ch_n h then _ else H.size + (ch_n h + j - ch_n h)) = _
      rw [if_neg (by omega)]; omega
    have l1 : ∀ a, a < ch_n h → cl' a = cl a := fun a ha => by rw [hcl]; exact if_pos ha
    have l2 : cl' (ch_n h) = cA := by
      rw [hcl]
      show (if ch_n h < ch_n h then _ else if ch_n h = ch_n h then cA else comp) = cA
      rw [if_neg (by omega), if_pos rfl]
    have l3 : ∀ j, cl' (ch_n h + 1 + j) = comp := fun j => by
      rw [hcl]
      show (if ch_n h + 1 + j < ch_n h then _ else if ch_n h + 1 + j = ch_n h then cA else comp) = comp
      rw [if_neg (by omega), if_neg (by omega)]
    have hp0 : 0 < ch_n h := S4.1
    have kinds : ∀ a, 0 < a → a < ch_n h + 1 + n.toNat → a < ch_n h ∨ a = ch_n h ∨ ∃ j, j < n.toNat ∧ a = ch_n h + 1 + j := fun a _ ha => by
      rcases Nat.lt_trichotomy a (ch_n h) with q | q | q
      · exact Or.inl q
      · exact Or.inr (Or.inl q)
      · exact Or.inr (Or.inr ⟨a - ch_n h - 1, by omega, by omega⟩)
    have elo : ∀ a, a < ch_n h → en_C ad' cl' (ch_x Y (ch_n h) f) a = en_C ad cl h a := fun a ha => by
      obtain ⟨q1, q2, q3, q4⟩ := lo a ha
      refine en_C_ext S4 a1 (l1 a ha) q1 q2 q3 ?_
      rw [ch_R_x, if_neg (by omega)]; exact q4
    have hP' : va_P D vwCl (sm_ws ad' cl' (ch_x Y (ch_n h) f)) U.heap := by
      intro i q hq9
      obtain ⟨b1, rfl⟩ := ws_inv hq9
      rw [nn] at b1
      rcases kinds (i + 1) (by omega) b1 with q | q | ⟨j, hj, q⟩
      · rw [elo _ q, a1 _ q]
        have hw0 := sm_get (ad := ad) (cl := cl) (h := h) (a := i + 1) (by omega) q
        have ha := S1 _ _ hw0
        refine va_at.kept ha ?_
        exact fo _ (va_at.lt ha)
      · have hT23 : ch_T (ch_x Y (ch_n h) f) (ch_n h) = 23 := tN
        rw [q, en_C_ref hT23 (by decide), l2]
        show U.heap[ad' (ch_n h)]? = some (vp_cell cA _)
        rw [show ad' (ch_n h) = H.size from a2 0, f2]
        have el : ch_L (ch_x Y (ch_n h) f) (ch_n h) = n := by
          show Y.2.2.1 (ch_n h) = n
          rw [s3, if_neg (by omega)]
          exact if_pos rfl
        rw [el]
        show some _ = some (arrV cA n.toNat (fun j => va_rf (en_R ad' (ch_R (ch_x Y (ch_n h) f) (ch_n h) (j : Int)))))
        refine congrArg some (outer_arrV fun j hj => ?_)
        have ef : ch_R (ch_x Y (ch_n h) f) (ch_n h) (j : Int) = ch_n h + 1 + j := by
          rw [ch_R_x, if_pos rfl, hf]
          show (if 0 ≤ (j : Int) ∧ (j : Int) < n then ch_n h + 1 + (j : Int).toNat else 0) = _
          rw [if_pos (by omega)]; omega
        rw [ef]
        unfold en_R
        rw [if_neg (by omega), show ch_n h + 1 + j = ch_n h + (1 + j) by omega, a2]
        show Value.ref (H.size + (1 + j)) = Value.ref (H.size + 1 + j)
        rw [Nat.add_assoc]
      · have hT20 : ch_T (ch_x Y (ch_n h) f) (ch_n h + 1 + j) = 20 := tI j hj
        rw [q, en_C_int hT20 (by decide) (by decide), l3]
        show U.heap[ad' (ch_n h + 1 + j)]? = some (vp_cell comp _)
        rw [show ch_n h + 1 + j = ch_n h + (1 + j) by omega, a2, show H.size + (1 + j) = H.size + 1 + j by omega, fi j hj, inner_arrV]
        have el : ch_L (ch_x Y (ch_n h) f) (ch_n h + (1 + j)) = n2 := by
          show Y.2.2.1 (ch_n h + (1 + j)) = n2
          rw [s3, if_pos (by omega)]
        have ei : ch_I (ch_x Y (ch_n h) f) (ch_n h + (1 + j)) = fun _ => 0 := by
          show Y.1 (ch_n h + (1 + j)) = fun _ => 0
          rw [s1, if_pos (by omega)]
        rw [el, ei]
        rfl
    have hlt : ∀ a, 0 < a → a < ch_n h → ad a < H.size := fun a b1 b2 => va_at.lt (S1 _ _ (sm_get (ad := ad) (cl := cl) (h := h) b1 b2))
    have hD' : va_D A (sm_ws ad' cl' (ch_x Y (ch_n h) f)) := by
      constructor
      · intro i j q1 q2 e1 e2 ee
        obtain ⟨b1, rfl⟩ := ws_inv e1
        obtain ⟨b2, rfl⟩ := ws_inv e2
        rw [nn] at b1 b2
        have ee : ad' (i + 1) = ad' (j + 1) := ee
        by_cases qi : i + 1 < ch_n h
        · rw [a1 _ qi] at ee
          by_cases qj : j + 1 < ch_n h
          · rw [a1 _ qj] at ee
            exact S2.1 i j _ _ (sm_get (ad := ad) (cl := cl) (h := h) (a := i + 1) (by omega) qi) (sm_get (ad := ad) (cl := cl) (h := h) (a := j + 1) (by omega) qj) ee
          · have := hlt (i + 1) (by omega) qi
            rw [show j + 1 = ch_n h + (j + 1 - ch_n h) by omega, a2] at ee
            omega
        · rw [show i + 1 = ch_n h + (i + 1 - ch_n h) by omega, a2] at ee
          by_cases qj : j + 1 < ch_n h
          · have := hlt (j + 1) (by omega) qj
            rw [a1 _ qj] at ee
            omega
          · rw [show j + 1 = ch_n h + (j + 1 - ch_n h) by omega, a2] at ee
            omega
      · intro i q1 e1
        obtain ⟨b1, rfl⟩ := ws_inv e1
        show A (ad' (i + 1))
        by_cases qi : i + 1 < ch_n h
        · rw [a1 _ qi]
          exact S2.2 i _ (sm_get (ad := ad) (cl := cl) (h := h) (a := i + 1) (by omega) qi)
        · rw [show i + 1 = ch_n h + (i + 1 - ch_n h) by omega, a2]
          exact hA _ (by have := S3.1; omega)
    have hS' : va_S A s.heap U.heap locs := ⟨by rw [f1]; have := S3.1; omega, fun q b1 b2 => (fo q (Nat.lt_of_lt_of_le b1 S3.1)).trans (S3.2.1 q b1 b2), S3.2.2⟩
    have har : sm_ar s cl' (ch_x Y (ch_n h) f) := fun a b0 b1 b2 => by
      rw [nn] at b1
      rcases kinds a b0 b1 with q | q | ⟨j, hj, q⟩
      · have eT : ch_T (ch_x Y (ch_n h) f) a = ch_T h a := (lo a q).1
        rw [eT] at b2 ⊢
        rw [l1 a q]
        exact S5 a b0 q b2
      · have hT23 : ch_T (ch_x Y (ch_n h) f) (ch_n h) = 23 := tN
        rw [q, hT23, l2]
        exact ⟨arr_of (hO 0 0 0).1 (Jvm.Free.Multi.outerC_facts cA 0 0 0).1, hfA⟩
      · have hT20 : ch_T (ch_x Y (ch_n h) f) (ch_n h + 1 + j) = 20 := tI j hj
        rw [q, hT20, l3]
        exact ⟨arr_of (hIn 0 .null).1 rfl, hfC⟩
    have ev : ∀ v, vok h v → en_V ad' v = en_V ad v := fun v q => en_ext S4.1 a1 q
    have vv : ∀ v, vok h v → vok (ch_x Y (ch_n h) f) v := fun v q => vok_ext (show ch_n h ≤ ch_n (ch_x Y (ch_n h) f) by rw [nn]; omega) (fun a ha => (lo a ha).1) q
    have G := K ad' cl' U.heap locs ls' ⟨hP', hD', hS', okh, har, lr_heap S6 vv ev, List.forall_mem_cons.mpr ⟨Or.inr ⟨by rw [nn]; show ch_n h < _; omega, tN⟩, fun v q => vv v (V2.2 v q)⟩, S8.tr ⟨by show ch_c h ≤ ch_c Y; omega, by show ch_s h ≤ ch_s Y; omega⟩, by rw [nn]; omega, fun a q => ⟨(a1 a (by omega)).trans (S10 a q).1, ((lo a (by omega)).1).trans (S10 a q).2⟩⟩
    have e1 : ch_c (ch_x Y (ch_n h) f) - ch_c h0 = ch_c h - ch_c h0 + 1 + n.toNat := by show ch_c Y - ch_c h0 = _; omega
    have e2 : ch_s (ch_x Y (ch_n h) f) - ch_s h0 = ch_s h - ch_s h0 + n.toNat + n.toNat * n2.toNat := by show ch_s Y - ch_s h0 = _; omega
    rw [e1, e2, List.map_cons, en_ref hp0, show ad' (ch_n h) = H.size from a2 0, List.map_congr_left (fun v q => ev v (V2.2 v q))] at G
    obtain ⟨t9, b1, b2⟩ := G U rfl X1
    refine ⟨t9, step t9 ?_, b2⟩
    rw [hT]
    exact b1
  · cases hR
end SNM
