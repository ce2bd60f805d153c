/-! HOW MANY tuples an independent family can have -/
theorem ind_tuple {n s N B : Nat} (P Q : Nat → Nat → Nat → Bool) (W : Nat → Nat → Nat → Nat → Nat → cP) (hW : ∀ i j a b k, i < n → j < s → a < N → b < N → k < N → P a b k = true → ∀ x y w, ¬ (x < B ∧ y < B ∧ w < B ∧ Q x y w = true) → W i j a b k x y w = 0) (free : ∀ c : Nat → Nat → Nat → Nat → Nat → cF, (cSm n fun i => cSm N fun a => cSm N fun b => cSm N fun k => cSm s fun j => cS (c i j a b k) (W i j a b k)) = c0 → ∀ i j a b k, i < n → j < s → a < N → b < N → k < N → c i j a b k = 0) : (n : Int) * (s * gs N fun a => gs N fun b => gs N fun k => if P a b k then (1 : Int) else 0) ≤ gs B fun x => gs B fun y => gs B fun w => if Q x y w then (1 : Int) else 0 := by
  let M2 := N * s
  let M3 := N * (N * s)
  let M4 := N * (N * (N * s))
  let D1 : Nat → Nat := fun X => X / M4
  let D2 : Nat → Nat := fun X => X % M4 / M3
  let D3 : Nat → Nat := fun X => X % M4 % M3 / M2
  let D4 : Nat → Nat := fun X => X % M4 % M3 % M2 / s
  let D5 : Nat → Nat := fun X => X % M4 % M3 % M2 % s
  let cd : Nat → Nat → Nat → Nat → Nat → Nat := fun i a b k j => i * M4 + (a * M3 + (b * M2 + (k * s + j)))
  have un : ∀ i j a b k, i < n → j < s → a < N → b < N → k < N → D1 (cd i a b k j) = i ∧ D2 (cd i a b k j) = a ∧ D3 (cd i a b k j) = b ∧ D4 (cd i a b k j) = k ∧ D5 (cd i a b k j) = j ∧ cd i a b k j < n * M4 := by
    intro i j a b k hi hj ha hb hk
    have l2 : k * s + j < M2 := dv_lt hk hj
    have l3 : b * M2 + (k * s + j) < M3 := dv_lt hb l2
    have l4 : a * M3 + (b * M2 + (k * s + j)) < M4 := dv_lt ha l3
    have x4 := dv (a := i) l4
    have x3 := dv (a := a) l3
    have x2 := dv (a := b) l2
    have x1 := dv (a := k) hj
    refine ⟨x4.1, ?_, ?_, ?_, ?_, dv_lt hi l4⟩
    · show (i * M4 + (a * M3 + (b * M2 + (k * s + j)))) % M4 / M3 = a
      rw [x4.2, x3.1]
    · show (i * M4 + (a * M3 + (b * M2 + (k * s + j)))) % M4 % M3 / M2 = b
      rw [x4.2, x3.2, x2.1]
    · show (i * M4 + (a * M3 + (b * M2 + (k * s + j)))) % M4 % M3 % M2 / s = k
      rw [x4.2, x3.2, x2.2, x1.1]
    · show (i * M4 + (a * M3 + (b * M2 + (k * s + j)))) % M4 % M3 % M2 % s = j
      rw [x4.2, x3.2, x2.2, x1.2]
  have re : ∀ X, X < n * M4 → D1 X < n ∧ D2 X < N ∧ D3 X < N ∧ D4 X < N ∧ D5 X < s ∧ cd (D1 X) (D2 X) (D3 X) (D4 X) (D5 X) = X := by
    intro X hX
    obtain ⟨a1, a2, a3⟩ := dv_un hX
    obtain ⟨b1, b2, b3⟩ := dv_un (A := N) (B := M3) a2
    obtain ⟨c1, c2, c3⟩ := dv_un (A := N) (B := M2) b2
    obtain ⟨d1, d2, d3⟩ := dv_un (A := N) (B := s) c2
    refine ⟨a1, b1, c1, d1, d2, ?_⟩
    show X / M4 * M4 + (X % M4 / M3 * M3 + (X % M4 % M3 / M2 * M2 + (X % M4 % M3 % M2 / s * s + X % M4 % M3 % M2 % s))) = X
    rw [d3, c3, b3, a3]
  let E1 : Nat → Nat := fun K => K / (B * B)
  let E2 : Nat → Nat := fun K => K % (B * B) / B
  let E3 : Nat → Nat := fun K => K % (B * B) % B
  have une : ∀ x y w, x < B → y < B → w < B → E1 (x * (B * B) + (y * B + w)) = x ∧ E2 (x * (B * B) + (y * B + w)) = y ∧ E3 (x * (B * B) + (y * B + w)) = w ∧ x * (B * B) + (y * B + w) < B * (B * B) := by
    intro x y w hx hy hw
    have l2 : y * B + w < B * B := dv_lt hy hw
    have x2 := dv (a := x) l2
    have x1 := dv (a := y) hw
    refine ⟨x2.1, ?_, ?_, dv_lt hx l2⟩
    · show (x * (B * B) + (y * B + w)) % (B * B) / B = y
      rw [x2.2, x1.1]
    · show (x * (B * B) + (y * B + w)) % (B * B) % B = w
      rw [x2.2, x1.2]
  have le := ind_cnt (A := n * M4) (B := B * (B * B)) (fun X => P (D2 X) (D3 X) (D4 X)) (fun K => Q (E1 K) (E2 K) (E3 K)) (fun X K => W (D1 X) (D5 X) (D2 X) (D3 X) (D4 X) (E1 K) (E2 K) (E3 K)) (fun X hX hp K hK hq => ?_) (fun c hc hz => ?_)
  · have cl : (hmy (fun X => P (D2 X) (D3 X) (D4 X)) (n * M4) : Int) = (n : Int) * (s * gs N fun a => gs N fun b => gs N fun k => if P a b k then (1 : Int) else 0) := by
      rw [hmy_gs, ← gs_flat5 n N N N s, ← gs_k]
      refine gs_congr fun i hi => ?_
      rw [← gs_mul]
      refine gs_congr fun a ha => ?_
      rw [← gs_mul]
      refine gs_congr fun b hb => ?_
      rw [← gs_mul]
      refine gs_congr fun k hk => ?_
      rw [← gs_k]
      refine gs_congr fun j hj => ?_
      obtain ⟨u1, u2, u3, u4, u5, u6⟩ := un i j a b k hi hj ha hb hk
      show (if P (D2 (cd i a b k j)) (D3 (cd i a b k j)) (D4 (cd i a b k j)) then (1 : Int) else 0) = _
      rw [u2, u3, u4]
    have cr : (hmy (fun K => Q (E1 K) (E2 K) (E3 K)) (B * (B * B)) : Int) = gs B fun x => gs B fun y => gs B fun w => if Q x y w then (1 : Int) else 0 := by
      rw [hmy_gs, ← gs_flat3]
      refine gs_congr fun x hx => gs_congr fun y hy => gs_congr fun w hw => ?_
      obtain ⟨u1, u2, u3, u4⟩ := une x y w hx hy hw
      show (if Q (E1 (x * (B * B) + (y * B + w))) (E2 (x * (B * B) + (y * B + w))) (E3 (x * (B * B) + (y * B + w))) then (1 : Int) else 0) = _
      rw [u1, u2, u3]
    rw [← cl, ← cr]
    exact Int.ofNat_le.mpr le
  · obtain ⟨r1, r2, r3, r4, r5, r6⟩ := re X hX
    refine hW _ _ _ _ _ r1 r5 r2 r3 r4 hp _ _ _ fun y => ?_
    have : Q (E1 K) (E2 K) (E3 K) = false := hq
    rw [this] at y
    exact Bool.noConfusion y.2.2.2
  · have z := free (fun i j a b k => c (cd i a b k j)) ?_
    · intro X hX
      obtain ⟨r1, r2, r3, r4, r5, r6⟩ := re X hX
      have := z _ _ _ _ _ r1 r5 r2 r3 r4
      rw [r6] at this
      exact this
    · funext x y w
      show gs n (fun i => gs N fun a => gs N fun b => gs N fun k => gs s fun j => c (cd i a b k j) * W i j a b k x y w) = 0
      have fl : gs n (fun i => gs N fun a => gs N fun b => gs N fun k => gs s fun j => c (cd i a b k j) * W i j a b k x y w) = gs (n * M4) fun X => c X * W (D1 X) (D5 X) (D2 X) (D3 X) (D4 X) x y w := by
        rw [← gs_flat5 n N N N s]
        refine gs_congr fun i hi => gs_congr fun a ha => gs_congr fun b hb => gs_congr fun k hk => gs_congr fun j hj => ?_
        obtain ⟨u1, u2, u3, u4, u5, u6⟩ := un i j a b k hi hj ha hb hk
        show _ = c (cd i a b k j) * W (D1 (cd i a b k j)) (D5 (cd i a b k j)) (D2 (cd i a b k j)) (D3 (cd i a b k j)) (D4 (cd i a b k j)) x y w
        rw [u1, u2, u3, u4, u5]
      rw [fl]
      by_cases q : x < B ∧ y < B ∧ w < B
      · obtain ⟨u1, u2, u3, u4⟩ := une x y w q.1 q.2.1 q.2.2
        have := hz _ u4
        rw [u1, u2, u3] at this
        exact this
      · refine gs_zero fun X hX => ?_
        obtain ⟨r1, r2, r3, r4, r5, r6⟩ := re X hX
        by_cases p : P (D2 X) (D3 X) (D4 X) = true
        · rw [hW _ _ _ _ _ r1 r5 r2 r3 r4 p x y w fun v => q ⟨v.1, v.2.1, v.2.2.1⟩, gs_z3]
        · rw [hc X (by cases v : P (D2 X) (D3 X) (D4 X) <;> simp_all), gs_z1]
