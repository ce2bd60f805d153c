/-! THE CONSTRUCTOR OF THE REFERENCE -/
abbrev cEv : Type := (Int × Int) ⊕ (Int × Nat × Int)
def cSt (o : Nat) (h : cm_H) (e : cEv) : cm_H := match e with
  | .inl (s, v) => ch_u h o s v
  | .inr (s, k, l) => ch_r (ch_new h k l l.toNat) o s (ch_n h)
def cBl (o : Nat) : List cEv → cm_H → cm_H
  | [], h => h
  | e :: es, h => cBl o es (cSt o h e)
def mEv : List cEv := [.inl (1, 2), .inr (2, 20, 1140), .inr (3, 20, 1140), .inr (4, 20, 1140), .inr (5, 20, 6840), .inr (6, 20, 1140), .inr (7, 20, 1140), .inr (8, 20, 1140), .inr (10, 20, 36), .inl (11, 1), .inr (12, 20, 441), .inr (13, 21, 400), .inr (21, 20, 36), .inr (22, 20, 4), .inr (25, 20, 36), .inr (26, 20, 34200), .inr (30, 20, 111000), .inr (31, 20, 54720), .inr (32, 20, 137600), .inr (33, 20, 160), .inr (34, 20, 16), .inr (35, 20, 16), .inr (36, 20, 72000), .inr (38, 22, 160), .inr (39, 20, 18600), .inr (40, 20, 3420), .inr (43, 20, 3), .inr (44, 20, 3), .inr (45, 20, 3420), .inr (47, 20, 100), .inr (48, 20, 100), .inr (51, 20, 220), .inr (52, 20, 220), .inr (54, 20, 160), .inr (55, 20, 160), .inr (56, 20, 160), .inr (57, 20, 160), .inl (58, (-1)), .inr (59, 20, 4080), .inr (61, 20, 4080), .inr (62, 20, 21760)]
theorem cBl_c {o : Nat} {e : cEv} {es : List cEv} {h g x : cm_H} (k : g = cSt o h e) (r : x = cBl o es g) : x = cBl o (e :: es) h := by rw [r, k]; rfl
theorem r2_Model_init {d : Nat} {Q : cm_Q} {h : cm_H} (H : ∀ g, g = cBl 209 mEv h → cU d m_Model_laysMonomials [vR 12 209] g fun h80 => cI d m_Model_laysGroup [vR 12 209] h80 fun _ h81 => Q none h81) : cm_call (d + 1) m_Model_init [vR 12 209] h Q := by
  refine r_Model_init (by decide) ?_
  intro h1 e1 h2 e2 h3 e3 h4 e4 h5 e5 h6 e6 h7 e7 h8 e8 h9 e9 h10 e10 h11 e11 h12 e12 h13 e13 h14 e14 h15 e15 h16 e16 h17 e17 h18 e18 h19 e19 h20 e20 h21 e21 h22 e22 h23 e23 h24 e24 h25 e25 h26 e26 h27 e27 h28 e28 h29 e29 h30 e30 h31 e31 h32 e32 h33 e33 h34 e34 h35 e35 h36 e36 h37 e37 h38 e38 h39 e39 h40 e40 h41 e41 h42 e42 h43 e43 h44 e44 h45 e45 h46 e46 h47 e47 h48 e48 h49 e49 h50 e50 h51 e51 h52 e52 h53 e53 h54 e54 h55 e55 h56 e56 h57 e57 h58 e58 h59 e59 h60 e60 h61 e61 h62 e62 h63 e63 h64 e64 h65 e65 h66 e66 h67 e67 h68 e68 h69 e69 h70 e70 h71 e71 h72 e72 h73 e73 h74 e74 h75 e75 h76 e76 h77 e77 h78 e78 h79 e79
  have k0 : h1 = cSt 209 h (.inl (1, 2)) := e1
  have k1 : h3 = cSt 209 h1 (.inr (2, 20, 1140)) := by rw [e3, e2]; rfl
  have k2 : h5 = cSt 209 h3 (.inr (3, 20, 1140)) := by rw [e5, e4]; rfl
  have k3 : h7 = cSt 209 h5 (.inr (4, 20, 1140)) := by rw [e7, e6]; rfl
  have k4 : h9 = cSt 209 h7 (.inr (5, 20, 6840)) := by rw [e9, e8]; rfl
  have k5 : h11 = cSt 209 h9 (.inr (6, 20, 1140)) := by rw [e11, e10]; rfl
  have k6 : h13 = cSt 209 h11 (.inr (7, 20, 1140)) := by rw [e13, e12]; rfl
  have k7 : h15 = cSt 209 h13 (.inr (8, 20, 1140)) := by rw [e15, e14]; rfl
  have k8 : h17 = cSt 209 h15 (.inr (10, 20, 36)) := by rw [e17, e16]; rfl
  have k9 : h18 = cSt 209 h17 (.inl (11, 1)) := e18
  have k10 : h20 = cSt 209 h18 (.inr (12, 20, 441)) := by rw [e20, e19]; rfl
  have k11 : h22 = cSt 209 h20 (.inr (13, 21, 400)) := by rw [e22, e21]; rfl
  have k12 : h24 = cSt 209 h22 (.inr (21, 20, 36)) := by rw [e24, e23]; rfl
  have k13 : h26 = cSt 209 h24 (.inr (22, 20, 4)) := by rw [e26, e25]; rfl
  have k14 : h28 = cSt 209 h26 (.inr (25, 20, 36)) := by rw [e28, e27]; rfl
  have k15 : h30 = cSt 209 h28 (.inr (26, 20, 34200)) := by rw [e30, e29]; rfl
  have k16 : h32 = cSt 209 h30 (.inr (30, 20, 111000)) := by rw [e32, e31]; rfl
  have k17 : h34 = cSt 209 h32 (.inr (31, 20, 54720)) := by rw [e34, e33]; rfl
  have k18 : h36 = cSt 209 h34 (.inr (32, 20, 137600)) := by rw [e36, e35]; rfl
  have k19 : h38 = cSt 209 h36 (.inr (33, 20, 160)) := by rw [e38, e37]; rfl
  have k20 : h40 = cSt 209 h38 (.inr (34, 20, 16)) := by rw [e40, e39]; rfl
  have k21 : h42 = cSt 209 h40 (.inr (35, 20, 16)) := by rw [e42, e41]; rfl
  have k22 : h44 = cSt 209 h42 (.inr (36, 20, 72000)) := by rw [e44, e43]; rfl
  have k23 : h46 = cSt 209 h44 (.inr (38, 22, 160)) := by rw [e46, e45]; rfl
  have k24 : h48 = cSt 209 h46 (.inr (39, 20, 18600)) := by rw [e48, e47]; rfl
  have k25 : h50 = cSt 209 h48 (.inr (40, 20, 3420)) := by rw [e50, e49]; rfl
  have k26 : h52 = cSt 209 h50 (.inr (43, 20, 3)) := by rw [e52, e51]; rfl
  have k27 : h54 = cSt 209 h52 (.inr (44, 20, 3)) := by rw [e54, e53]; rfl
  have k28 : h56 = cSt 209 h54 (.inr (45, 20, 3420)) := by rw [e56, e55]; rfl
  have k29 : h58 = cSt 209 h56 (.inr (47, 20, 100)) := by rw [e58, e57]; rfl
  have k30 : h60 = cSt 209 h58 (.inr (48, 20, 100)) := by rw [e60, e59]; rfl
  have k31 : h62 = cSt 209 h60 (.inr (51, 20, 220)) := by rw [e62, e61]; rfl
  have k32 : h64 = cSt 209 h62 (.inr (52, 20, 220)) := by rw [e64, e63]; rfl
  have k33 : h66 = cSt 209 h64 (.inr (54, 20, 160)) := by rw [e66, e65]; rfl
  have k34 : h68 = cSt 209 h66 (.inr (55, 20, 160)) := by rw [e68, e67]; rfl
  have k35 : h70 = cSt 209 h68 (.inr (56, 20, 160)) := by rw [e70, e69]; rfl
  have k36 : h72 = cSt 209 h70 (.inr (57, 20, 160)) := by rw [e72, e71]; rfl
  have k37 : h73 = cSt 209 h72 (.inl (58, (-1))) := e73
  have k38 : h75 = cSt 209 h73 (.inr (59, 20, 4080)) := by rw [e75, e74]; rfl
  have k39 : h77 = cSt 209 h75 (.inr (61, 20, 4080)) := by rw [e77, e76]; rfl
  have k40 : h79 = cSt 209 h77 (.inr (62, 20, 21760)) := by rw [e79, e78]; rfl
  exact H _ (cBl_c k0 (cBl_c k1 (cBl_c k2 (cBl_c k3 (cBl_c k4 (cBl_c k5 (cBl_c k6 (cBl_c k7 (cBl_c k8 (cBl_c k9 (cBl_c k10 (cBl_c k11 (cBl_c k12 (cBl_c k13 (cBl_c k14 (cBl_c k15 (cBl_c k16 (cBl_c k17 (cBl_c k18 (cBl_c k19 (cBl_c k20 (cBl_c k21 (cBl_c k22 (cBl_c k23 (cBl_c k24 (cBl_c k25 (cBl_c k26 (cBl_c k27 (cBl_c k28 (cBl_c k29 (cBl_c k30 (cBl_c k31 (cBl_c k32 (cBl_c k33 (cBl_c k34 (cBl_c k35 (cBl_c k36 (cBl_c k37 (cBl_c k38 (cBl_c k39 (cBl_c k40 rfl)))))))))))))))))))))))))))))))))))))))))
theorem mEv_R {I : cm_I} {R : Nat → Int → Nat} {L : Nat → Int} {Tk : Nat → Nat} {c s : Nat} : ∀ j : Nat, mAdr j ≠ 0 → (cBl 209 mEv (I, R, L, Tk, 210, c, s)).2.1 209 (j : Int) = mAdr j := by
  intro j
  unfold mAdr
  split <;> intro hj <;> first | rfl | exact absurd rfl hj
