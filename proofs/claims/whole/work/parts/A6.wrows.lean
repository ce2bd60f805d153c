/-! THE CLASS: a state is the numbers I beside z (references, lengths, kinds, what is made); its layout -/
def wA (k : Nat) : Nat := match k with
  | 100 => 2
  | 102 => 3
  | 103 => 10
  | 104 => 11
  | 105 => 20
  | 109 => 49
  | 110 => 51
  | 111 => 53
  | 112 => 63
  | 113 => 66
  | 114 => 185
  | 115 => 198
  | 1102 => 12
  | 1103 => 13
  | 1104 => 18
  | 1105 => 19
  | 1106 => 14
  | 1107 => 16
  | 2002 => 21
  | 2003 => 22
  | 2004 => 27
  | 2005 => 28
  | 2006 => 23
  | 2007 => 25
  | 2903 => 30
  | 2904 => 31
  | 2905 => 32
  | 2906 => 33
  | 2907 => 34
  | 2908 => 35
  | 2909 => 36
  | 2910 => 37
  | 2911 => 38
  | 3903 => 40
  | 3904 => 41
  | 3905 => 42
  | 3906 => 43
  | 3907 => 44
  | 3908 => 45
  | 3909 => 46
  | 3910 => 47
  | 3911 => 48
  | 4900 => 2
  | 4901 => 50
  | 5100 => 49
  | 5302 => 54
  | 5304 => 55
  | 5305 => 56
  | 5306 => 57
  | 5307 => 58
  | 5308 => 59
  | 5309 => 60
  | 5311 => 61
  | 6303 => 65
  | 6600 => 53
  | 6601 => 63
  | 6604 => 67
  | 6605 => 68
  | 6606 => 69
  | 6607 => 70
  | 6608 => 71
  | 18500 => 66
  | 18501 => 63
  | 18508 => 186
  | 18509 => 187
  | 18510 => 188
  | 18511 => 189
  | 18512 => 190
  | 18513 => 191
  | 19800 => 66
  | 19801 => 185
  | 19805 => 199
  | 19806 => 200
  | 19808 => 201
  | 19811 => 202
  | 19812 => 203
  | 19813 => 204
  | 19814 => 205
  | 19815 => 207
  | _ => 0
def wL (a : Nat) : Int := match a with
  | 2 => 400
  | 3 => 6
  | 10 => 816
  | 12 => 19
  | 13 => 17
  | 18 => 16
  | 19 => 16
  | 21 => 19
  | 22 => 17
  | 27 => 136
  | 28 => 136
  | 30 => 36
  | 31 => 432
  | 32 => 192
  | 33 => 2304
  | 34 => 48
  | 35 => 48
  | 36 => 48
  | 37 => 48
  | 38 => 9
  | 40 => 36
  | 41 => 432
  | 42 => 192
  | 43 => 2304
  | 44 => 48
  | 45 => 48
  | 46 => 48
  | 47 => 48
  | 48 => 9
  | 50 => 4
  | 54 => 9
  | 55 => 3
  | 56 => 3
  | 57 => 3
  | 58 => 136
  | 59 => 136
  | 60 => 816
  | 65 => 153
  | 67 => 16
  | 68 => 16
  | 69 => 136
  | 70 => 136
  | 186 => 83
  | 187 => 83
  | 188 => 153
  | 189 => 3
  | 190 => 3
  | 191 => 3
  | 199 => 216
  | 200 => 216
  | 201 => 816
  | 202 => 136
  | 203 => 136
  | 204 => 136
  | _ => 0
/-- the layout; rows of kept ones, grades, pieces; what is made lies beyond -/
def wz (z : cm_Z) : Prop := (∀ a j : Nat, j < 100 → wA (a * 100 + j) ≠ 0 → z.1 a (j : Int) = wA (a * 100 + j)) ∧ (∀ a, wL a ≠ 0 → z.2.1 a = wL a) ∧ (∀ i : Int, 0 ≤ i → i < 6 → z.1 3 i = 4 + i.toNat ∧ z.2.1 (4 + i.toNat) = 816) ∧ (∀ i : Int, 0 ≤ i → i < 16 → z.1 68 i = 73 + 7 * i.toNat) ∧ (∀ i : Int, 0 ≤ i → i < 3 → z.1 189 i = 192 + 2 * i.toNat) ∧ 248 ≤ z.2.2.2.1
def isSh (a : Nat) : Prop := a = 11 ∨ a = 20
def isMb (a : Nat) : Prop := a = 29 ∨ a = 39
theorem isSh_pos {a : Nat} (h : isSh a) : 0 < a := by unfold isSh at h; omega
theorem isMb_pos {a : Nat} (h : isMb a) : 0 < a := by unfold isMb at h; omega
/-- rows that were made together -/
def isRws (z : cm_Z) (q : Nat) : Prop := ∀ i : Int, 0 ≤ i ∧ i < z.2.1 q → z.1 q i = q + 1 + i.toNat
theorem wz_R {z : cm_Z} (hz : wz z) (a j b : Nat) (h : wA (a * 100 + j) = b) (h0 : b ≠ 0) (hj : j < 100 := by decide) : z.1 a (j : Int) = b := by
  have := hz.1 a j hj (by rw [h]; exact h0)
  rw [h] at this
  exact this
theorem wz_L {z : cm_Z} (hz : wz z) (a : Nat) (b : Int) (h : wL a = b) (h0 : b ≠ 0) : z.2.1 a = b := by
  have := hz.2.1 a (by rw [h]; exact h0)
  rw [h] at this
  exact this
theorem wz_kept {z : cm_Z} (hz : wz z) {i : Int} (h : 0 ≤ i ∧ i < 6) : z.1 3 i = 4 + i.toNat := (hz.2.2.1 i h.1 h.2).1
theorem wz_keptL {z : cm_Z} (hz : wz z) {i : Int} (h : 0 ≤ i ∧ i < 6) : z.2.1 (4 + i.toNat) = 816 := (hz.2.2.1 i h.1 h.2).2
theorem wz_grades {z : cm_Z} (hz : wz z) {i : Int} (h : 0 ≤ i ∧ i < 16) : z.1 68 i = 73 + 7 * i.toNat := hz.2.2.2.1 i h.1 h.2
theorem wz_pieces {z : cm_Z} (hz : wz z) {i : Int} (h : 0 ≤ i ∧ i < 3) : z.1 189 i = 192 + 2 * i.toNat := hz.2.2.2.2.1 i h.1 h.2
theorem wz_sh2 {z : cm_Z} (hz : wz z) {a : Nat} (h : isSh a) : z.1 a ((2 : Nat) : Int) = a + 1 := by
  rcases h with e | e <;> subst e
  · exact wz_R hz 11 2 12 rfl (by decide)
  · exact wz_R hz 20 2 21 rfl (by decide)
theorem wz_sh3 {z : cm_Z} (hz : wz z) {a : Nat} (h : isSh a) : z.1 a ((3 : Nat) : Int) = a + 2 := by
  rcases h with e | e <;> subst e
  · exact wz_R hz 11 3 13 rfl (by decide)
  · exact wz_R hz 20 3 22 rfl (by decide)
theorem wz_sh4 {z : cm_Z} (hz : wz z) {a : Nat} (h : isSh a) : z.1 a ((4 : Nat) : Int) = a + 7 := by
  rcases h with e | e <;> subst e
  · exact wz_R hz 11 4 18 rfl (by decide)
  · exact wz_R hz 20 4 27 rfl (by decide)
theorem wz_sh5 {z : cm_Z} (hz : wz z) {a : Nat} (h : isSh a) : z.1 a ((5 : Nat) : Int) = a + 8 := by
  rcases h with e | e <;> subst e
  · exact wz_R hz 11 5 19 rfl (by decide)
  · exact wz_R hz 20 5 28 rfl (by decide)
theorem wz_sh6 {z : cm_Z} (hz : wz z) {a : Nat} (h : isSh a) : z.1 a ((6 : Nat) : Int) = a + 3 := by
  rcases h with e | e <;> subst e
  · exact wz_R hz 11 6 14 rfl (by decide)
  · exact wz_R hz 20 6 23 rfl (by decide)
theorem wz_sh7 {z : cm_Z} (hz : wz z) {a : Nat} (h : isSh a) : z.1 a ((7 : Nat) : Int) = a + 5 := by
  rcases h with e | e <;> subst e
  · exact wz_R hz 11 7 16 rfl (by decide)
  · exact wz_R hz 20 7 25 rfl (by decide)
theorem wz_shL1 {z : cm_Z} (hz : wz z) {a : Nat} (h : isSh a) : z.2.1 (a + 1) = 19 := by
  rcases h with e | e <;> subst e
  · exact wz_L hz 12 19 rfl (by decide)
  · exact wz_L hz 21 19 rfl (by decide)
theorem wz_shL2 {z : cm_Z} (hz : wz z) {a : Nat} (h : isSh a) : z.2.1 (a + 2) = 17 := by
  rcases h with e | e <;> subst e
  · exact wz_L hz 13 17 rfl (by decide)
  · exact wz_L hz 22 17 rfl (by decide)
theorem wz_mb3 {z : cm_Z} (hz : wz z) {a : Nat} (h : isMb a) : z.1 a ((3 : Nat) : Int) = a + 1 := by
  rcases h with e | e <;> subst e
  · exact wz_R hz 29 3 30 rfl (by decide)
  · exact wz_R hz 39 3 40 rfl (by decide)
theorem wz_mb4 {z : cm_Z} (hz : wz z) {a : Nat} (h : isMb a) : z.1 a ((4 : Nat) : Int) = a + 2 := by
  rcases h with e | e <;> subst e
  · exact wz_R hz 29 4 31 rfl (by decide)
  · exact wz_R hz 39 4 41 rfl (by decide)
theorem wz_mb5 {z : cm_Z} (hz : wz z) {a : Nat} (h : isMb a) : z.1 a ((5 : Nat) : Int) = a + 3 := by
  rcases h with e | e <;> subst e
  · exact wz_R hz 29 5 32 rfl (by decide)
  · exact wz_R hz 39 5 42 rfl (by decide)
theorem wz_mb6 {z : cm_Z} (hz : wz z) {a : Nat} (h : isMb a) : z.1 a ((6 : Nat) : Int) = a + 4 := by
  rcases h with e | e <;> subst e
  · exact wz_R hz 29 6 33 rfl (by decide)
  · exact wz_R hz 39 6 43 rfl (by decide)
theorem wz_mb7 {z : cm_Z} (hz : wz z) {a : Nat} (h : isMb a) : z.1 a ((7 : Nat) : Int) = a + 5 := by
  rcases h with e | e <;> subst e
  · exact wz_R hz 29 7 34 rfl (by decide)
  · exact wz_R hz 39 7 44 rfl (by decide)
theorem wz_mb8 {z : cm_Z} (hz : wz z) {a : Nat} (h : isMb a) : z.1 a ((8 : Nat) : Int) = a + 6 := by
  rcases h with e | e <;> subst e
  · exact wz_R hz 29 8 35 rfl (by decide)
  · exact wz_R hz 39 8 45 rfl (by decide)
theorem wz_mb9 {z : cm_Z} (hz : wz z) {a : Nat} (h : isMb a) : z.1 a ((9 : Nat) : Int) = a + 7 := by
  rcases h with e | e <;> subst e
  · exact wz_R hz 29 9 36 rfl (by decide)
  · exact wz_R hz 39 9 46 rfl (by decide)
theorem wz_mb10 {z : cm_Z} (hz : wz z) {a : Nat} (h : isMb a) : z.1 a ((10 : Nat) : Int) = a + 8 := by
  rcases h with e | e <;> subst e
  · exact wz_R hz 29 10 37 rfl (by decide)
  · exact wz_R hz 39 10 47 rfl (by decide)
theorem wz_mb11 {z : cm_Z} (hz : wz z) {a : Nat} (h : isMb a) : z.1 a ((11 : Nat) : Int) = a + 9 := by
  rcases h with e | e <;> subst e
  · exact wz_R hz 29 11 38 rfl (by decide)
  · exact wz_R hz 39 11 48 rfl (by decide)
theorem wz_mbL1 {z : cm_Z} (hz : wz z) {a : Nat} (h : isMb a) : z.2.1 (a + 1) = 36 := by
  rcases h with e | e <;> subst e
  · exact wz_L hz 30 36 rfl (by decide)
  · exact wz_L hz 40 36 rfl (by decide)
theorem wz_mbL2 {z : cm_Z} (hz : wz z) {a : Nat} (h : isMb a) : z.2.1 (a + 2) = 432 := by
  rcases h with e | e <;> subst e
  · exact wz_L hz 31 432 rfl (by decide)
  · exact wz_L hz 41 432 rfl (by decide)
theorem wz_mbL3 {z : cm_Z} (hz : wz z) {a : Nat} (h : isMb a) : z.2.1 (a + 3) = 192 := by
  rcases h with e | e <;> subst e
  · exact wz_L hz 32 192 rfl (by decide)
  · exact wz_L hz 42 192 rfl (by decide)
theorem wz_mbL4 {z : cm_Z} (hz : wz z) {a : Nat} (h : isMb a) : z.2.1 (a + 4) = 2304 := by
  rcases h with e | e <;> subst e
  · exact wz_L hz 33 2304 rfl (by decide)
  · exact wz_L hz 43 2304 rfl (by decide)
theorem wz_mbL5 {z : cm_Z} (hz : wz z) {a : Nat} (h : isMb a) : z.2.1 (a + 5) = 48 := by
  rcases h with e | e <;> subst e
  · exact wz_L hz 34 48 rfl (by decide)
  · exact wz_L hz 44 48 rfl (by decide)
theorem wz_mbL6 {z : cm_Z} (hz : wz z) {a : Nat} (h : isMb a) : z.2.1 (a + 6) = 48 := by
  rcases h with e | e <;> subst e
  · exact wz_L hz 35 48 rfl (by decide)
  · exact wz_L hz 45 48 rfl (by decide)
theorem wz_mbL7 {z : cm_Z} (hz : wz z) {a : Nat} (h : isMb a) : z.2.1 (a + 7) = 48 := by
  rcases h with e | e <;> subst e
  · exact wz_L hz 36 48 rfl (by decide)
  · exact wz_L hz 46 48 rfl (by decide)
theorem wz_mbL8 {z : cm_Z} (hz : wz z) {a : Nat} (h : isMb a) : z.2.1 (a + 8) = 48 := by
  rcases h with e | e <;> subst e
  · exact wz_L hz 37 48 rfl (by decide)
  · exact wz_L hz 47 48 rfl (by decide)
theorem wz_mbL9 {z : cm_Z} (hz : wz z) {a : Nat} (h : isMb a) : z.2.1 (a + 9) = 9 := by
  rcases h with e | e <;> subst e
  · exact wz_L hz 38 9 rfl (by decide)
  · exact wz_L hz 48 9 rfl (by decide)
/-- the next address; a new array; a reference is put; rows made together -/
abbrev zN (z : cm_Z) : Nat := z.2.2.2.1
def zNew (z : cm_Z) (k : Nat) (len : Int) (sl : Nat) : cm_Z := (fun b => if b = zN z then (fun _ => 0) else z.1 b, fun b => if b = zN z then len else z.2.1 b, fun b => if b = zN z then k else z.2.2.1 b, z.2.2.2.1 + 1, z.2.2.2.2.1 + 1, z.2.2.2.2.2 + sl)
def zr (z : cm_Z) (a : Nat) (i : Int) (v : Nat) : cm_Z := (fun b => if b = a then (fun j => if j = i then v else z.1 a j) else z.1 b, z.2)
def nwM (h : cm_H) (n m : Int) : cm_H := ch_x (ch_news (ch_new h 23 n n.toNat) m m.toNat n.toNat) (ch_n h) (fun j => if 0 ≤ j ∧ j < n then ch_n h + 1 + j.toNat else 0)
def zcI (d k : Nat) (as : List cm_V) (z : cm_Z) (I : cm_I) (P : Int → cm_I → cm_Z → Prop) : Prop := cm_call d k as (I, z) fun r h1 => ∃ v I1 z1, r = some (vI v) ∧ h1 = ((I1, z1) : cm_H) ∧ P v I1 z1
def zcU (d k : Nat) (as : List cm_V) (z : cm_Z) (I : cm_I) (P : cm_I → cm_Z → Prop) : Prop := cm_call d k as (I, z) fun r h1 => ∃ I1 z1, r = none ∧ h1 = ((I1, z1) : cm_H) ∧ P I1 z1
def zcA (d k : Nat) (as : List cm_V) (z : cm_Z) (I : cm_I) (c : Nat) (P : Nat → cm_I → cm_Z → Prop) : Prop := cm_call d k as (I, z) fun r h1 => ∃ a I1 z1, r = some (vR c a) ∧ h1 = ((I1, z1) : cm_H) ∧ P a I1 z1
def kI (P : Int → cm_I → cm_Z → Prop) : cm_Q := fun r h1 => ∃ v I1 z1, r = some (vI v) ∧ h1 = ((I1, z1) : cm_H) ∧ P v I1 z1
def kU (P : cm_I → cm_Z → Prop) : cm_Q := fun r h1 => ∃ I1 z1, r = none ∧ h1 = ((I1, z1) : cm_H) ∧ P I1 z1
def kA (c : Nat) (P : Nat → cm_I → cm_Z → Prop) : cm_Q := fun r h1 => ∃ a I1 z1, r = some (vR c a) ∧ h1 = ((I1, z1) : cm_H) ∧ P a I1 z1
theorem kI_mk {P : Int → cm_I → cm_Z → Prop} {v : Int} {I : cm_I} {z : cm_Z} (h : P v I z) : kI P (some (vI v)) (I, z) := ⟨v, I, z, rfl, rfl, h⟩
theorem kU_mk {P : cm_I → cm_Z → Prop} {I : cm_I} {z : cm_Z} (h : P I z) : kU P none (I, z) := ⟨I, z, rfl, rfl, h⟩
theorem kA_mk {c : Nat} {P : Nat → cm_I → cm_Z → Prop} {a : Nat} {I : cm_I} {z : cm_Z} (h : P a I z) : kA c P (some (vR c a)) (I, z) := ⟨a, I, z, rfl, rfl, h⟩
theorem zcI_mono {d k : Nat} {as : List cm_V} {z : cm_Z} {I : cm_I} {P P' : Int → cm_I → cm_Z → Prop} (H : zcI d k as z I P) (f : ∀ v I1 z1, P v I1 z1 → P' v I1 z1) : zcI d k as z I P' := cm_call_mono H fun _ _ ⟨v, I1, z1, e1, e2, p⟩ => ⟨v, I1, z1, e1, e2, f v I1 z1 p⟩
theorem zcU_mono {d k : Nat} {as : List cm_V} {z : cm_Z} {I : cm_I} {P P' : cm_I → cm_Z → Prop} (H : zcU d k as z I P) (f : ∀ I1 z1, P I1 z1 → P' I1 z1) : zcU d k as z I P' := cm_call_mono H fun _ _ ⟨I1, z1, e1, e2, p⟩ => ⟨I1, z1, e1, e2, f I1 z1 p⟩
theorem zcA_mono {d k : Nat} {as : List cm_V} {z : cm_Z} {I : cm_I} {c : Nat} {P P' : Nat → cm_I → cm_Z → Prop} (H : zcA d k as z I c P) (f : ∀ a I1 z1, P a I1 z1 → P' a I1 z1) : zcA d k as z I c P' := cm_call_mono H fun _ _ ⟨v, I1, z1, e1, e2, p⟩ => ⟨v, I1, z1, e1, e2, f v I1 z1 p⟩
section NROWS
variable {d : Nat} {C : cm_C} {Q : cm_Q} {pc nx : Nat} {ls : cm_L} {st : List cm_V} {I : cm_I} {z : cm_Z}
theorem n_getR {w c a b : Nat} (i e : Nat) (hc : C pc = some (.getstatic w, nx)) (hk : Nat.beq c (w / 10000) = true) (hi : w / 100 % 100 = i) (he : w % 100 = e) (ha : 0 < a) (hb : z.1 a (i : Int) = b) (k : cw d C Q nx ls (vR e b :: st) (I, z)) : cw d C Q pc ls (vR c a :: st) (I, z) := by
  refine w_getR (i : Int) e hc hk (by rw [hi]) he ha ?_
  have e1 : ch_R ((I, z) : cm_H) a (i : Int) = b := hb
  rw [e1]
  exact k
theorem n_putR {w c a e b : Nat} (i : Int) (hc : C pc = some (.putstatic w, nx)) (hk : Nat.beq c (w / 10000) = true) (hk2 : Nat.beq e (w % 100) = true) (hi : ((w / 100 % 100 : Nat) : Int) = i) (ha : 0 < a) (k : ∀ z1, z1 = zr z a i b → cw d C Q nx ls st (I, z1)) : cw d C Q pc ls (vR e b :: vR c a :: st) (I, z) := w_putR i hc hk hk2 hi ha fun h1 e1 => by rw [e1]; exact k _ rfl
theorem n_iaload {i len : Int} {a : Nat} (hc : C pc = some (.iaload, nx)) (ha : 0 < a) (hl : z.2.1 a = len) (hi : 0 ≤ i ∧ i < len) (k : cw d C Q nx ls (vI (I a i) :: st) (I, z)) : cw d C Q pc ls (vI i :: vR 20 a :: st) (I, z) := by subst hl; exact w_iaload hc ha hi k
theorem n_baload {i len : Int} {c a : Nat} (hc : C pc = some (.baload, nx)) (hk : (Nat.beq c 21 || Nat.beq c 22) = true) (ha : 0 < a) (hl : z.2.1 a = len) (hi : 0 ≤ i ∧ i < len) (k : cw d C Q nx ls (vI (I a i) :: st) (I, z)) : cw d C Q pc ls (vI i :: vR c a :: st) (I, z) := by subst hl; exact w_baload hc hk ha hi k
theorem n_aaload {i len : Int} {c a e b : Nat} (hc : C pc = some (.aaload, nx)) (hk : (Nat.ble 23 c && Nat.ble c 25) = true) (he : cm_ek c = e) (ha : 0 < a) (hl : z.2.1 a = len) (hi : 0 ≤ i ∧ i < len) (hb : z.1 a i = b) (k : cw d C Q nx ls (vR e b :: st) (I, z)) : cw d C Q pc ls (vI i :: vR c a :: st) (I, z) := by
  subst hl; subst hb; exact w_aaload hc hk he ha hi k
theorem n_iastore {i v len : Int} {a : Nat} (hc : C pc = some (.iastore, nx)) (ha : 0 < a) (hl : z.2.1 a = len) (hi : 0 ≤ i ∧ i < len) (k : ∀ I1, I1 = iu I a i v → cw d C Q nx ls st (I1, z)) : cw d C Q pc ls (vI v :: vI i :: vR 20 a :: st) (I, z) := by subst hl; exact w_iastore hc ha hi fun h1 e => by rw [e]; exact k _ rfl
theorem n_bastore {i v len : Int} {c a : Nat} (hc : C pc = some (.bastore, nx)) (hk : (Nat.beq c 21 || Nat.beq c 22) = true) (hv : (c = 21 ∧ -128 ≤ v ∧ v ≤ 127) ∨ v = 0 ∨ v = 1) (ha : 0 < a) (hl : z.2.1 a = len) (hi : 0 ≤ i ∧ i < len) (k : ∀ I1, I1 = iu I a i v → cw d C Q nx ls st (I1, z)) : cw d C Q pc ls (vI v :: vI i :: vR c a :: st) (I, z) := by subst hl; exact w_bastore hc hk hv ha hi fun h1 e => by rw [e]; exact k _ rfl
theorem n_alen {c a : Nat} {len : Int} (hc : C pc = some (.arraylength, nx)) (hk : (Nat.ble 20 c && Nat.ble c 25) = true) (ha : 0 < a) (hl : z.2.1 a = len) (k : cw d C Q nx ls (vI len :: st) (I, z)) : cw d C Q pc ls (vR c a :: st) (I, z) := by subst hl; exact w_alen hc hk ha k
theorem n_newI {n : Int} (hc : C pc = some (.newarray .int, nx)) (hn : 0 ≤ n ∧ n ≤ 1000000) (k : ∀ I1 z1, I1 = iw I (zN z) (fun _ => 0) → z1 = zNew z 20 n n.toNat → cw d C Q nx ls (vR 20 (zN z) :: st) (I1, z1)) : cw d C Q pc ls (vI n :: st) (I, z) := w_newI hc hn fun h1 e => by rw [e]; exact k _ _ rfl rfl
theorem n_newM {w y : Nat} {n m : Int} (hc : C pc = some (.multianewarray w y, nx)) (hn : 0 ≤ n ∧ n ≤ 1000 ∧ 0 ≤ m ∧ m ≤ 1000) (k : ∀ I1 z1, (I1, z1) = nwM (I, z) n m → cw d C Q nx ls (vR 23 (zN z) :: st) (I1, z1)) : cw d C Q pc ls (vI m :: vI n :: st) (I, z) := w_newM hc hn fun h1 e => k h1.1 h1.2 e
theorem n_copy {a b : Nat} {i j n la lb : Int} {c : Nat} (hc : C pc = some (.invokedynamic c, nx)) (hk : Nat.ble (cm_sum st) 8 = true) (ha : 0 < a) (hb : 0 < b) (hla : z.2.1 a = la) (hlb : z.2.1 b = lb) (ho : 0 ≤ i ∧ 0 ≤ j ∧ 0 ≤ n ∧ i + n ≤ la ∧ j + n ≤ lb) (k : ∀ I1, I1 = iw I b (cpyF (I a) i (I b) j n) → cw d C Q nx ls st (I1, z)) : cw d C Q pc ls (vI n :: vI j :: vR 20 b :: vI i :: vR 20 a :: st) (I, z) := by subst hla; subst hlb; exact w_copy hc hk ha hb ho fun h1 e => by rw [e]; exact k _ rfl
theorem n_callI {m n : Nat} {as t : List cm_V} (hc : C pc = some (.invokeinterface m n, nx)) (hp : ∀ k, cm_pop n [] st k = k as t) (hk : Nat.ble (cm_sum t) 8 = true) (k : zcI d m as z I fun v I1 z1 => cw d C Q nx ls (vI v :: t) (I1, z1)) : cw d C Q pc ls st (I, z) := w_call hc hp hk (cm_call_mono k fun _ _ ⟨_, _, _, e, e2, p⟩ => by subst e; subst e2; exact p)
theorem n_callU {m n : Nat} {as t : List cm_V} (hc : C pc = some (.invokeinterface m n, nx)) (hp : ∀ k, cm_pop n [] st k = k as t) (hk : Nat.ble (cm_sum t) 8 = true) (k : zcU d m as z I fun I1 z1 => cw d C Q nx ls t (I1, z1)) : cw d C Q pc ls st (I, z) := w_call hc hp hk (cm_call_mono k fun _ _ ⟨_, _, e, e2, p⟩ => by subst e; subst e2; exact p)
theorem n_callA {m n c : Nat} {as t : List cm_V} (hc : C pc = some (.invokeinterface m n, nx)) (hp : ∀ k, cm_pop n [] st k = k as t) (hk : Nat.ble (cm_sum t) 8 = true) (k : zcA d m as z I c fun a I1 z1 => cw d C Q nx ls (vR c a :: t) (I1, z1)) : cw d C Q pc ls st (I, z) := w_call hc hp hk (cm_call_mono k fun _ _ ⟨_, _, _, e, e2, p⟩ => by subst e; subst e2; exact p)
end NROWS
