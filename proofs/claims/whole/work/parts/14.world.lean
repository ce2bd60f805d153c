/-! THE CLEAN HEAP as a world of the machine: cell a lies at address ad a; cl a is an array's class -/
def en_R (ad : Nat → Nat) (a : Nat) : Option Nat := if a = 0 then none else some (ad a)
def en_V (ad : Nat → Nat) (v : cm_V) : Value := match v with
  | .inl x => .int (Int32.ofInt x)
  | .inr (.inl r) => va_rf (en_R ad r.2)
  | .inr (.inr x) => .long (Int64.ofInt x)
def en_f (ad : Nat → Nat) (h : cm_H) (c a j : Nat) : Value := match sm_fk c j with
  | some _ => va_rf (en_R ad (ch_R h a (j : Int)))
  | none => .int (Int32.ofInt (ch_I h a (j : Int)))
def en_F (ad : Nat → Nat) (h : cm_H) (c a : Nat) : List Value := (List.range (sm_fn c)).map (en_f ad h c a)
def en_C (ad : Nat → Nat) (cl : Nat → ClassId) (h : cm_H) (a : Nat) : va_E :=
  if ch_T h a < 13 then .inr (ch_T h a, en_F ad h (ch_T h a) a)
  else if ch_T h a < 23 then .inl (cl a, (ch_L h a).toNat, .inl (fun j => Int32.ofInt (ch_I h a (j : Int))))
  else .inl (cl a, (ch_L h a).toNat, .inr (.inr (.inr (.inr (fun j => en_R ad (ch_R h a (j : Int)))))))
def sm_ws (ad : Nat → Nat) (cl : Nat → ClassId) (h : cm_H) : va_W := (List.range (ch_n h - 1)).map (fun k => (ad (k + 1), en_C ad cl h (k + 1)))
/-- the component type of an array kind -/
def sm_ty (c : Nat) : FieldType := if c = 20 then .int else if c = 21 then .byte else if c = 22 then .boolean else if c = 23 then .array .int else if c = 24 then .object RX2 else .object RX5
/-- the clean heap is well formed -/
def sm_ok (h : cm_H) : Prop :=
  1 ≤ ch_n h ∧ (∀ a j, cm_i (ch_I h a j)) ∧ (∀ a j, ch_R h a j < ch_n h) ∧ (∀ a, 0 < a → a < ch_n h → ch_T h a < 13 ∨ (20 ≤ ch_T h a ∧ ch_T h a ≤ 25)) ∧ (∀ a, 0 ≤ ch_L h a ∧ ch_L h a ≤ 1000000) ∧
  (∀ a, 0 < a → a < ch_n h → ch_T h a < 13 → ∀ (j kd : Nat), sm_fk (ch_T h a) j = some kd → ch_R h a (j : Int) = 0 ∨ ch_T h (ch_R h a (j : Int)) = kd) ∧
  (∀ a, 0 < a → a < ch_n h → 23 ≤ ch_T h a → ∀ j, ch_R h a j = 0 ∨ ch_T h (ch_R h a j) = cm_ek (ch_T h a))
def vok (h : cm_H) (v : cm_V) : Prop := match v with
  | .inl x => cm_i x
  | .inr (.inl r) => r.2 = 0 ∨ (r.2 < ch_n h ∧ ch_T h r.2 = r.1)
  | .inr (.inr x) => cm_l x
def sm_ar (s : State) (cl : Nat → ClassId) (h : cm_H) : Prop := ∀ a, 0 < a → a < ch_n h → 20 ≤ ch_T h a → ArrOfT s (cl a) (sm_ty (ch_T h a)) ∧ va_RA s (cl a) (sm_ty (ch_T h a))
theorem sm_get {ad : Nat → Nat} {cl : Nat → ClassId} {h : cm_H} {a : Nat} (h0 : 0 < a) (h1 : a < ch_n h) : (sm_ws ad cl h)[a - 1]? = some (ad a, en_C ad cl h a) := by
  unfold sm_ws
  rw [List.getElem?_map, List.getElem?_range (by omega)]
  simp [show a - 1 + 1 = a by omega]
theorem sm_len {ad : Nat → Nat} {cl : Nat → ClassId} {h : cm_H} : (sm_ws ad cl h).length = ch_n h - 1 := by simp [sm_ws]
theorem en_C_obj {ad : Nat → Nat} {cl : Nat → ClassId} {h : cm_H} {a c : Nat} (hc : ch_T h a = c) (h1 : c < 13) : en_C ad cl h a = .inr (c, en_F ad h c a) := by
  subst hc; unfold en_C; rw [if_pos h1]
theorem en_C_int {ad : Nat → Nat} {cl : Nat → ClassId} {h : cm_H} {a c : Nat} (hc : ch_T h a = c) (h1 : 13 ≤ c) (h2 : c < 23) : en_C ad cl h a = .inl (cl a, (ch_L h a).toNat, .inl (fun j => Int32.ofInt (ch_I h a (j : Int)))) := by
  subst hc; unfold en_C; rw [if_neg (by omega), if_pos h2]
theorem en_C_ref {ad : Nat → Nat} {cl : Nat → ClassId} {h : cm_H} {a c : Nat} (hc : ch_T h a = c) (h1 : 23 ≤ c) : en_C ad cl h a = .inl (cl a, (ch_L h a).toNat, .inr (.inr (.inr (.inr (fun j => en_R ad (ch_R h a (j : Int))))))) := by
  subst hc; unfold en_C; rw [if_neg (by omega), if_neg (by omega)]
theorem en_F_get {ad : Nat → Nat} {h : cm_H} {c a j : Nat} (hj : j < sm_fn c) : (en_F ad h c a)[j]? = some (en_f ad h c a j) := by
  unfold en_F
  rw [List.getElem?_map, List.getElem?_range hj]
  rfl
theorem en_F_len {ad : Nat → Nat} {h : cm_H} {c a : Nat} : (en_F ad h c a).length = sm_fn c := by simp [en_F]
/-- a world whose cell a alone has changed -/
theorem sm_set {ad : Nat → Nat} {cl : Nat → ClassId} {h h' : cm_H} {a : Nat} {e : va_E} (h0 : 0 < a) (h1 : a < ch_n h) (hn : ch_n h' = ch_n h) (ha : en_C ad cl h' a = e) (ho : ∀ b, b ≠ a → en_C ad cl h' b = en_C ad cl h b) : (sm_ws ad cl h).set (a - 1) (ad a, e) = sm_ws ad cl h' := by
  apply List.ext_getElem?
  intro i
  rw [List.getElem?_set]
  by_cases hi : a - 1 = i
  · rw [if_pos hi, if_pos (by rw [sm_len]; omega)]
    subst hi
    rw [sm_get h0 (by omega), ha]
  · rw [if_neg hi]
    unfold sm_ws
    rw [List.getElem?_map, List.getElem?_map, hn]
    by_cases hl : i < ch_n h - 1
    · rw [List.getElem?_range hl]
      simp [ho (i + 1) (by omega)]
    · rw [List.getElem?_eq_none (by simp; omega)]
      rfl
theorem en_C_congr {ad : Nat → Nat} {cl : Nat → ClassId} {h h' : cm_H} {b : Nat} (hT : ch_T h' b = ch_T h b) (hL : ch_L h' b = ch_L h b) (hI : ch_I h' b = ch_I h b) (hR : ch_R h' b = ch_R h b) : en_C ad cl h' b = en_C ad cl h b := by
  unfold en_C en_F en_f
  rw [hT, hL, hI, hR]
-- the parts of a changed heap
theorem ch_I_w (h : cm_H) (a b : Nat) (f : Int → Int) : ch_I (ch_w h a f) b = if b = a then f else ch_I h b := rfl
theorem ch_I_u (h : cm_H) (a b : Nat) (i v : Int) : ch_I (ch_u h a i v) b = if b = a then (fun j => if j = i then v else ch_I h a j) else ch_I h b := rfl
theorem ch_R_x (h : cm_H) (a b : Nat) (f : Int → Nat) : ch_R (ch_x h a f) b = if b = a then f else ch_R h b := rfl
theorem ch_R_r (h : cm_H) (a b : Nat) (i : Int) (v : Nat) : ch_R (ch_r h a i v) b = if b = a then (fun j => if j = i then v else ch_R h a j) else ch_R h b := rfl
theorem sm_ok_w {h : cm_H} {a : Nat} {f : Int → Int} (H : sm_ok h) (hf : ∀ j, cm_i (f j)) : sm_ok (ch_w h a f) := by
  obtain ⟨h1, h2, h3⟩ := H
  refine ⟨h1, fun b j => ?_, h3⟩
  rw [ch_I_w]
  split
  · exact hf j
  · exact h2 b j
theorem sm_ok_u {h : cm_H} {a : Nat} {i v : Int} (H : sm_ok h) (hv : cm_i v) : sm_ok (ch_u h a i v) := sm_ok_w H (fun j => by
  split
  · exact hv
  · exact H.2.1 a j)
theorem sm_ok_r {h : cm_H} {a c b : Nat} {j kd : Nat} (H : sm_ok h) (h0 : 0 < a) (hc : ch_T h a = c) (h13 : c < 13) (hk : sm_fk c j = some kd) (hb : b = 0 ∨ (b < ch_n h ∧ ch_T h b = kd)) : sm_ok (ch_r h a (j : Int) b) := by
  obtain ⟨h1, h2, h3, h4, h5, h6, h7⟩ := H
  have hbn : b < ch_n h := by rcases hb with rfl | q; exact h1; exact q.1
  refine ⟨h1, h2, fun x y => ?_, h4, h5, fun x hx0 hxn hxT y kd2 hk2 => ?_, fun x hx0 hxn hxT y => ?_⟩
  · rw [ch_R_r]
    split
    · show (if y = (j : Int) then b else ch_R h a y) < ch_n h
      split
      · exact hbn
      · exact h3 a y
    · exact h3 x y
  · rw [ch_R_r]
    by_cases hx : x = a
    · rw [if_pos hx]
      subst hx
      show (if (y : Int) = (j : Int) then b else ch_R h x y) = 0 ∨ ch_T h (if (y : Int) = (j : Int) then b else ch_R h x y) = kd2
      by_cases hy : (y : Int) = (j : Int)
      · have hy2 : y = j := by omega
        subst hy2
        rw [if_pos rfl]
        have e : sm_fk c y = some kd2 := by rw [← hc]; exact hk2
        rw [hk] at e
        cases e
        rcases hb with q | q
        · exact Or.inl q
        · exact Or.inr q.2
      · rw [if_neg hy]
        exact h6 x hx0 hxn hxT y kd2 hk2
    · rw [if_neg hx]
      exact h6 x hx0 hxn hxT y kd2 hk2
  · rw [ch_R_r]
    by_cases hx : x = a
    · subst hx
      have hxT2 : 23 ≤ ch_T h x := hxT
      omega
    · rw [if_neg hx]
      exact h7 x hx0 hxn hxT y
theorem sm_ok_ra {h : cm_H} {a c b : Nat} {i : Int} (H : sm_ok h) (hc : ch_T h a = c) (h23 : 23 ≤ c) (hb : b < ch_n h ∧ ch_T h b = cm_ek c) : sm_ok (ch_r h a i b) := by
  obtain ⟨h1, h2, h3, h4, h5, h6, h7⟩ := H
  refine ⟨h1, h2, fun x y => ?_, h4, h5, fun x hx0 hxn hxT y kd2 hk2 => ?_, fun x hx0 hxn hxT y => ?_⟩
  · rw [ch_R_r]
    split
    · show (if y = i then b else ch_R h a y) < ch_n h
      split
      · exact hb.1
      · exact h3 a y
    · exact h3 x y
  · rw [ch_R_r]
    by_cases hx : x = a
    · subst hx
      have hxT2 : ch_T h x < 13 := hxT
      omega
    · rw [if_neg hx]
      exact h6 x hx0 hxn hxT y kd2 hk2
  · rw [ch_R_r]
    by_cases hx : x = a
    · rw [if_pos hx]
      subst hx
      show (if y = i then b else ch_R h x y) = 0 ∨ ch_T h (if y = i then b else ch_R h x y) = cm_ek (ch_T h x)
      split
      · exact Or.inr (by rw [hb.2, hc])
      · exact h7 x hx0 hxn hxT y
    · rw [if_neg hx]
      exact h7 x hx0 hxn hxT y
-- a new cell
theorem ch_n_new (h : cm_H) (k : Nat) (len : Int) (sl : Nat) : ch_n (ch_new h k len sl) = ch_n h + 1 := rfl
theorem ch_T_new (h : cm_H) (k : Nat) (len : Int) (sl b : Nat) : ch_T (ch_new h k len sl) b = if b = ch_n h then k else ch_T h b := rfl
theorem ch_L_new (h : cm_H) (k : Nat) (len : Int) (sl b : Nat) : ch_L (ch_new h k len sl) b = if b = ch_n h then len else ch_L h b := rfl
theorem ch_I_new (h : cm_H) (k : Nat) (len : Int) (sl b : Nat) : ch_I (ch_new h k len sl) b = if b = ch_n h then (fun _ => 0) else ch_I h b := rfl
theorem ch_R_new (h : cm_H) (k : Nat) (len : Int) (sl b : Nat) : ch_R (ch_new h k len sl) b = if b = ch_n h then (fun _ => 0) else ch_R h b := rfl
theorem sm_ok_new {h : cm_H} {k : Nat} {len : Int} {sl : Nat} (H : sm_ok h) (hk : k < 13 ∨ (20 ≤ k ∧ k ≤ 25)) (hl : 0 ≤ len ∧ len ≤ 1000000) : sm_ok (ch_new h k len sl) := by
  obtain ⟨h1, h2, h3, h4, h5, h6, h7⟩ := H
  refine ⟨by rw [ch_n_new]; omega, fun a j => ?_, fun a j => ?_, fun a h0 hn => ?_, fun a => ?_, fun a h0 hn hT j kd hk2 => ?_, fun a h0 hn hT j => ?_⟩
  · rw [ch_I_new]; split
    · exact i3_0
    · exact h2 a j
  · rw [ch_R_new, ch_n_new]; split
    · show 0 < _; omega
    · have := h3 a j; omega
  · rw [ch_n_new] at hn
    rw [ch_T_new]; split
    · exact hk
    · exact h4 a h0 (by omega)
  · rw [ch_L_new]; split
    · exact hl
    · exact h5 a
  · rw [ch_n_new] at hn
    rw [ch_R_new]
    rw [ch_T_new] at hT hk2
    by_cases ha : a = ch_n h
    · rw [if_pos ha]; exact Or.inl rfl
    · rw [if_neg ha] at hT hk2 ⊢
      rcases h6 a h0 (by omega) hT j kd hk2 with q | q
      · exact Or.inl q
      · refine Or.inr ?_
        rw [ch_T_new, if_neg (by have := h3 a (j : Int); omega)]
        exact q
  · rw [ch_n_new] at hn
    rw [ch_R_new]
    rw [ch_T_new] at hT ⊢
    by_cases ha : a = ch_n h
    · rw [if_pos ha]; exact Or.inl rfl
    · rw [if_neg ha] at hT ⊢
      rw [ch_T_new, if_neg ha]
      rcases h7 a h0 (by omega) hT j with q | q
      · exact Or.inl q
      · refine Or.inr ?_
        rw [if_neg (by have := h3 a j; omega)]
        exact q
theorem vok_new {h : cm_H} {k : Nat} {len : Int} {sl : Nat} {v : cm_V} (hv : vok h v) : vok (ch_new h k len sl) v := by
  rcases v with x | r | x
  · exact hv
  · rcases hv with q | ⟨q1, q2⟩
    · exact Or.inl q
    · refine Or.inr ⟨by rw [ch_n_new]; omega, ?_⟩
      rw [ch_T_new, if_neg (by omega)]
      exact q2
  · exact hv
theorem en_R_up {ad : Nat → Nat} {n q a : Nat} (h : a < n) : en_R (va_up ad n q) a = en_R ad a := by
  unfold en_R va_up
  rw [if_neg (show ¬ a = n by omega)]
theorem en_V_up {ad : Nat → Nat} {h : cm_H} {q : Nat} {v : cm_V} (h1 : 1 ≤ ch_n h) (hv : vok h v) : en_V (va_up ad (ch_n h) q) v = en_V ad v := by
  rcases v with x | r | x
  · rfl
  · show va_rf (en_R _ r.2) = va_rf (en_R _ r.2)
    rw [en_R_up (by rcases hv with q | q; omega; exact q.1)]
  · rfl
theorem en_C_up {ad : Nat → Nat} {cl : Nat → ClassId} {h : cm_H} {q b : Nat} {c : ClassId} {k : Nat} {len : Int} {sl : Nat} (H : sm_ok h) (hb : b < ch_n h) : en_C (va_up ad (ch_n h) q) (va_up cl (ch_n h) c) (ch_new h k len sl) b = en_C ad cl h b := by
  have hne : ¬ b = ch_n h := by omega
  have e1 : ∀ j, en_R (va_up ad (ch_n h) q) (ch_R h b j) = en_R ad (ch_R h b j) := fun j => en_R_up (H.2.2.1 b j)
  unfold en_C en_F en_f
  rw [ch_T_new, ch_L_new, ch_I_new, ch_R_new, if_neg hne, if_neg hne, if_neg hne, if_neg hne]
  simp only [e1]
  unfold va_up
  rw [if_neg hne]
theorem sm_new {ad : Nat → Nat} {cl : Nat → ClassId} {h : cm_H} {q : Nat} {c : ClassId} {k : Nat} {len : Int} {sl : Nat} {e : va_E} (H : sm_ok h) (he : en_C (va_up ad (ch_n h) q) (va_up cl (ch_n h) c) (ch_new h k len sl) (ch_n h) = e) : sm_ws ad cl h ++ [(q, e)] = sm_ws (va_up ad (ch_n h) q) (va_up cl (ch_n h) c) (ch_new h k len sl) := by
  have h1 := H.1
  apply List.ext_getElem?
  intro i
  by_cases hi : i < ch_n h - 1
  · rw [List.getElem?_append_left (by rw [sm_len]; exact hi)]
    have a1 := sm_get (ad := ad) (cl := cl) (h := h) (a := i + 1) (by omega) (by omega)
    have a2 := sm_get (ad := va_up ad (ch_n h) q) (cl := va_up cl (ch_n h) c) (h := ch_new h k len sl) (a := i + 1) (by omega) (by rw [ch_n_new]; omega)
    rw [Nat.add_sub_cancel] at a1 a2
    rw [a1, a2, en_C_up H (by omega)]
    unfold va_up
    rw [if_neg (by omega)]
  · rw [List.getElem?_append_right (by rw [sm_len]; omega), sm_len]
    by_cases h2 : i = ch_n h - 1
    · subst h2
      have a2 := sm_get (ad := va_up ad (ch_n h) q) (cl := va_up cl (ch_n h) c) (h := ch_new h k len sl) (a := ch_n h) (by omega) (by rw [ch_n_new]; omega)
      rw [a2, he]
      simp [va_up]
    · rw [List.getElem?_eq_none (by simp; omega), List.getElem?_eq_none (by rw [sm_len, ch_n_new]; omega)]
theorem sm_ar_new {s : State} {cl : Nat → ClassId} {h : cm_H} {c : ClassId} {k : Nat} {len : Int} {sl : Nat} (H : sm_ar s cl h) (hc : 20 ≤ k → ArrOfT s c (sm_ty k) ∧ va_RA s c (sm_ty k)) : sm_ar s (va_up cl (ch_n h) c) (ch_new h k len sl) := by
  intro a h0 hn hT
  rw [ch_T_new] at hT ⊢
  rw [ch_n_new] at hn
  unfold va_up
  by_cases ha : a = ch_n h
  · rw [if_pos ha] at hT ⊢
    rw [if_pos ha]
    exact hc hT
  · rw [if_neg ha] at hT ⊢
    rw [if_neg ha]
    exact H a h0 (by omega) hT
