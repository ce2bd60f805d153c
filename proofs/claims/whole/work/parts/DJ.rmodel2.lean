/-! what the constructor of the reference lays -/
section RMD
variable {I : cm_I} {R : Nat → Int → Nat} {L : Nat → Int} {Tk : Nat → Nat} {c s : Nat}
theorem mEv_L (i : Nat) (hi : i < 38) : (cBl 209 mEv (I, R, L, Tk, 210, c, s)).2.2.1 (210 + i) = mLen (210 + i) := match i, hi with
  | 0, _ => rfl
  | 1, _ => rfl
  | 2, _ => rfl
  | 3, _ => rfl
  | 4, _ => rfl
  | 5, _ => rfl
  | 6, _ => rfl
  | 7, _ => rfl
  | 8, _ => rfl
  | 9, _ => rfl
  | 10, _ => rfl
  | 11, _ => rfl
  | 12, _ => rfl
  | 13, _ => rfl
  | 14, _ => rfl
  | 15, _ => rfl
  | 16, _ => rfl
  | 17, _ => rfl
  | 18, _ => rfl
  | 19, _ => rfl
  | 20, _ => rfl
  | 21, _ => rfl
  | 22, _ => rfl
  | 23, _ => rfl
  | 24, _ => rfl
  | 25, _ => rfl
  | 26, _ => rfl
  | 27, _ => rfl
  | 28, _ => rfl
  | 29, _ => rfl
  | 30, _ => rfl
  | 31, _ => rfl
  | 32, _ => rfl
  | 33, _ => rfl
  | 34, _ => rfl
  | 35, _ => rfl
  | 36, _ => rfl
  | 37, _ => rfl
  | n + 38, h => absurd h (by omega)
theorem mEv_I (i : Nat) (hi : i < 38) : (cBl 209 mEv (I, R, L, Tk, 210, c, s)).1 (210 + i) = fun _ => 0 := match i, hi with
  | 0, _ => rfl
  | 1, _ => rfl
  | 2, _ => rfl
  | 3, _ => rfl
  | 4, _ => rfl
  | 5, _ => rfl
  | 6, _ => rfl
  | 7, _ => rfl
  | 8, _ => rfl
  | 9, _ => rfl
  | 10, _ => rfl
  | 11, _ => rfl
  | 12, _ => rfl
  | 13, _ => rfl
  | 14, _ => rfl
  | 15, _ => rfl
  | 16, _ => rfl
  | 17, _ => rfl
  | 18, _ => rfl
  | 19, _ => rfl
  | 20, _ => rfl
  | 21, _ => rfl
  | 22, _ => rfl
  | 23, _ => rfl
  | 24, _ => rfl
  | 25, _ => rfl
  | 26, _ => rfl
  | 27, _ => rfl
  | 28, _ => rfl
  | 29, _ => rfl
  | 30, _ => rfl
  | 31, _ => rfl
  | 32, _ => rfl
  | 33, _ => rfl
  | 34, _ => rfl
  | 35, _ => rfl
  | 36, _ => rfl
  | 37, _ => rfl
  | n + 38, h => absurd h (by omega)
theorem mEv_Z (i : Nat) (hi : i < 38) : (cBl 209 mEv (I, R, L, Tk, 210, c, s)).2.1 (210 + i) = fun _ => 0 := match i, hi with
  | 0, _ => rfl
  | 1, _ => rfl
  | 2, _ => rfl
  | 3, _ => rfl
  | 4, _ => rfl
  | 5, _ => rfl
  | 6, _ => rfl
  | 7, _ => rfl
  | 8, _ => rfl
  | 9, _ => rfl
  | 10, _ => rfl
  | 11, _ => rfl
  | 12, _ => rfl
  | 13, _ => rfl
  | 14, _ => rfl
  | 15, _ => rfl
  | 16, _ => rfl
  | 17, _ => rfl
  | 18, _ => rfl
  | 19, _ => rfl
  | 20, _ => rfl
  | 21, _ => rfl
  | 22, _ => rfl
  | 23, _ => rfl
  | 24, _ => rfl
  | 25, _ => rfl
  | 26, _ => rfl
  | 27, _ => rfl
  | 28, _ => rfl
  | 29, _ => rfl
  | 30, _ => rfl
  | 31, _ => rfl
  | 32, _ => rfl
  | 33, _ => rfl
  | 34, _ => rfl
  | 35, _ => rfl
  | 36, _ => rfl
  | 37, _ => rfl
  | n + 38, h => absurd h (by omega)
set_option maxRecDepth 20000 in
theorem mEv_9 (j : Int) : (cBl 209 mEv (I, R, L, Tk, 210, c, s)).1 209 j = if j = 58 then -1 else if j = 11 then 1 else if j = 1 then 2 else I 209 j := rfl
theorem mEv_n : (cBl 209 mEv (I, R, L, Tk, 210, c, s)).2.2.2.2.1 = 248 := rfl
theorem mEv_c : (cBl 209 mEv (I, R, L, Tk, 210, c, s)).2.2.2.2.2.1 = c + 38 := rfl
theorem cBl_lo {o a : Nat} (ha : a ≠ o) : ∀ (es : List cEv) (h : cm_H), a < ch_n h → ch_I (cBl o es h) a = ch_I h a ∧ ch_R (cBl o es h) a = ch_R h a ∧ ch_L (cBl o es h) a = ch_L h a
  | [], _, _ => ⟨rfl, rfl, rfl⟩
  | .inl (i, v) :: es, h, hn => by
    obtain ⟨p, q, r⟩ := cBl_lo ha es (ch_u h o i v) hn
    refine ⟨p.trans ?_, q, r⟩
    show (if a = o then _ else h.1 a) = h.1 a
    rw [if_neg ha]
  | .inr (i, k, l) :: es, h, hn => by
    have ne : ¬ a = h.2.2.2.2.1 := Nat.ne_of_lt hn
    obtain ⟨p, q, r⟩ := cBl_lo ha es (ch_r (ch_new h k l l.toNat) o i (ch_n h)) (Nat.lt_succ_of_lt hn)
    refine ⟨p.trans ?_, q.trans ?_, r.trans ?_⟩
    · show (if a = h.2.2.2.2.1 then _ else h.1 a) = h.1 a
      rw [if_neg ne]
    · show (if a = o then _ else if a = h.2.2.2.2.1 then _ else h.2.1 a) = h.2.1 a
      rw [if_neg ha, if_neg ne]
    · show (if a = h.2.2.2.2.1 then _ else h.2.2.1 a) = h.2.2.1 a
      rw [if_neg ne]
theorem cBl_mono {o : Nat} : ∀ (es : List cEv) (h : cm_H), ch_n h ≤ ch_n (cBl o es h)
  | [], _ => Nat.le_refl _
  | .inl (i, v) :: es, h => cBl_mono es (ch_u h o i v)
  | .inr (i, k, l) :: es, h => Nat.le_trans (Nat.le_succ _) (cBl_mono es (ch_r (ch_new h k l l.toNat) o i (ch_n h)))
theorem cBl_hi {o a : Nat} (ha : a ≠ o) : ∀ (es : List cEv) (h : cm_H), ch_n (cBl o es h) ≤ a → ch_R (cBl o es h) a = ch_R h a ∧ ch_L (cBl o es h) a = ch_L h a ∧ ch_I (cBl o es h) a = ch_I h a
  | [], _, _ => ⟨rfl, rfl, rfl⟩
  | .inl (i, v) :: es, h, hn => by
    obtain ⟨p, q, r⟩ := cBl_hi ha es (ch_u h o i v) hn
    refine ⟨p, q, r.trans ?_⟩
    show (if a = o then _ else h.1 a) = h.1 a
    rw [if_neg ha]
  | .inr (i, k, l) :: es, h, hn => by
    have m := cBl_mono es (o := o) (ch_r (ch_new h k l l.toNat) o i (ch_n h))
    have ne : ¬ a = h.2.2.2.2.1 := by
      have h1 : ch_n (cBl o es (ch_r (ch_new h k l l.toNat) o i (ch_n h))) ≤ a := hn
      have h2 : ch_n (ch_r (ch_new h k l l.toNat) o i (ch_n h)) = h.2.2.2.2.1 + 1 := rfl
      omega
    obtain ⟨p, q, r⟩ := cBl_hi ha es (ch_r (ch_new h k l l.toNat) o i (ch_n h)) hn
    refine ⟨p.trans ?_, q.trans ?_, r.trans ?_⟩
    · show (if a = o then _ else if a = h.2.2.2.2.1 then _ else h.2.1 a) = h.2.1 a
      rw [if_neg ha, if_neg ne]
    · show (if a = h.2.2.2.2.1 then _ else h.2.2.1 a) = h.2.2.1 a
      rw [if_neg ne]
    · show (if a = h.2.2.2.2.1 then _ else h.1 a) = h.1 a
      rw [if_neg ne]
end RMD
