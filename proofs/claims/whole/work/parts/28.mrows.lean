/-! THE REFERENCE's object lies at 209, its arrays at 210 to 247: none of its methods (but the constructor) makes or moves a cell, so a state is the numbers I beside what stays, z -/
abbrev cm_I : Type := Nat → Int → Int
abbrev cm_Z : Type := (Nat → Int → Nat) × (Nat → Int) × (Nat → Nat) × Nat × Nat × Nat
def iw (I : cm_I) (a : Nat) (f : Int → Int) : cm_I := fun b => if b = a then f else I b
def iu (I : cm_I) (a : Nat) (i v : Int) : cm_I := fun b => if b = a then (fun j => if j = i then v else I a j) else I b
def mLen (a : Nat) : Int := match a with
  | 210 => 1140
  | 211 => 1140
  | 212 => 1140
  | 213 => 6840
  | 214 => 1140
  | 215 => 1140
  | 216 => 1140
  | 217 => 36
  | 218 => 441
  | 219 => 400
  | 220 => 36
  | 221 => 4
  | 222 => 36
  | 223 => 34200
  | 224 => 111000
  | 225 => 54720
  | 226 => 137600
  | 227 => 160
  | 228 => 16
  | 229 => 16
  | 230 => 72000
  | 231 => 160
  | 232 => 18600
  | 233 => 3420
  | 234 => 3
  | 235 => 3
  | 236 => 3420
  | 237 => 100
  | 238 => 100
  | 239 => 220
  | 240 => 220
  | 241 => 160
  | 242 => 160
  | 243 => 160
  | 244 => 160
  | 245 => 4080
  | 246 => 4080
  | 247 => 21760
  | _ => 0
/-- where the reference's reference fields point -/
def mAdr (j : Nat) : Nat := match j with
  | 2 => 210
  | 3 => 211
  | 4 => 212
  | 5 => 213
  | 6 => 214
  | 7 => 215
  | 8 => 216
  | 10 => 217
  | 12 => 218
  | 13 => 219
  | 21 => 220
  | 22 => 221
  | 25 => 222
  | 26 => 223
  | 30 => 224
  | 31 => 225
  | 32 => 226
  | 33 => 227
  | 34 => 228
  | 35 => 229
  | 36 => 230
  | 38 => 231
  | 39 => 232
  | 40 => 233
  | 43 => 234
  | 44 => 235
  | 45 => 236
  | 47 => 237
  | 48 => 238
  | 51 => 239
  | 52 => 240
  | 54 => 241
  | 55 => 242
  | 56 => 243
  | 57 => 244
  | 59 => 245
  | 61 => 246
  | 62 => 247
  | _ => 0
def mz (z : cm_Z) : Prop := (∀ j : Nat, mAdr j ≠ 0 → z.1 209 (j : Int) = mAdr j) ∧ ∀ a, 210 ≤ a → a ≤ 247 → z.2.1 a = mLen a
def mA (a : Nat) : Prop := 210 ≤ a ∧ a ≤ 247
/-- answers a number; answers nothing -/
def qI (z : cm_Z) (P : Int → cm_I → Prop) : cm_Q := fun r h1 => ∃ v I1, r = some (vI v) ∧ h1 = ((I1, z) : cm_H) ∧ P v I1
def qU (z : cm_Z) (P : cm_I → Prop) : cm_Q := fun r h1 => ∃ I1, r = none ∧ h1 = ((I1, z) : cm_H) ∧ P I1
def mI (d k : Nat) (as : List cm_V) (z : cm_Z) (I : cm_I) (P : Int → cm_I → Prop) : Prop := cm_call d k as (I, z) (qI z P)
def mU (d k : Nat) (as : List cm_V) (z : cm_Z) (I : cm_I) (P : cm_I → Prop) : Prop := cm_call d k as (I, z) (qU z P)
theorem qI_mk {z : cm_Z} {P : Int → cm_I → Prop} {v : Int} {I : cm_I} (h : P v I) : qI z P (some (vI v)) (I, z) := ⟨v, I, rfl, rfl, h⟩
theorem qU_mk {z : cm_Z} {P : cm_I → Prop} {I : cm_I} (h : P I) : qU z P none (I, z) := ⟨I, rfl, rfl, h⟩
theorem mI_mono {d k : Nat} {as : List cm_V} {z : cm_Z} {I : cm_I} {P P' : Int → cm_I → Prop} (H : mI d k as z I P) (f : ∀ v I1, P v I1 → P' v I1) : mI d k as z I P' := cm_call_mono H fun _ _ ⟨v, I1, e1, e2, p⟩ => ⟨v, I1, e1, e2, f v I1 p⟩
theorem mU_mono {d k : Nat} {as : List cm_V} {z : cm_Z} {I : cm_I} {P P' : cm_I → Prop} (H : mU d k as z I P) (f : ∀ I1, P I1 → P' I1) : mU d k as z I P' := cm_call_mono H fun _ _ ⟨I1, e1, e2, p⟩ => ⟨I1, e1, e2, f I1 p⟩
section MROWS
variable {d : Nat} {C : cm_C} {Q : cm_Q} {pc nx : Nat} {ls : cm_L} {st : List cm_V} {I : cm_I} {z : cm_Z}
theorem m_getI {w c a : Nat} (i : Int) (hc : C pc = some (.getfield w, nx)) (hk : Nat.beq c (w / 100) = true) (hi : ((w % 100 : Nat) : Int) = i) (ha : 0 < a) (k : cw d C Q nx ls (vI (I a i) :: st) (I, z)) : cw d C Q pc ls (vR c a :: st) (I, z) := w_getI i hc hk hi ha k
theorem m_getR {w c a : Nat} (i : Nat) (e b : Nat) (hz : mz z) (ha9 : a = 209) (hc : C pc = some (.getstatic w, nx)) (hk : Nat.beq c (w / 10000) = true) (hi : w / 100 % 100 = i) (he : w % 100 = e) (hb : mAdr i = b) (hb0 : b ≠ 0) (k : cw d C Q nx ls (vR e b :: st) (I, z)) : cw d C Q pc ls (vR c a :: st) (I, z) := by
  subst ha9
  refine w_getR (i : Int) e hc hk (by rw [hi]) he (by decide) ?_
  have e1 : ch_R ((I, z) : cm_H) 209 (i : Int) = b := by
    have := hz.1 i (by rw [hb]; exact hb0)
    rw [hb] at this
    exact this
  rw [e1]
  exact k
theorem m_putI {w c a : Nat} {v : Int} (i : Int) (hc : C pc = some (.putfield w, nx)) (hk : Nat.beq c (w / 100) = true) (hi : ((w % 100 : Nat) : Int) = i) (ha : 0 < a) (k : ∀ I1, I1 = iu I a i v → cw d C Q nx ls st (I1, z)) : cw d C Q pc ls (vI v :: vR c a :: st) (I, z) := w_putI i hc hk hi ha fun h1 e => by rw [e]; exact k _ rfl
theorem m_putZ {w c a : Nat} {v : Int} (i : Int) (hc : C pc = some (.ret w, nx)) (hk : Nat.beq c (w / 100) = true) (hi : ((w % 100 : Nat) : Int) = i) (hv : v = 0 ∨ v = 1) (ha : 0 < a) (k : ∀ I1, I1 = iu I a i v → cw d C Q nx ls st (I1, z)) : cw d C Q pc ls (vI v :: vR c a :: st) (I, z) := w_putZ i hc hk hi hv ha fun h1 e => by rw [e]; exact k _ rfl
theorem mLen_eq (hz : mz z) {a : Nat} (ha : mA a) : ch_L ((I, z) : cm_H) a = mLen a := hz.2 a ha.1 ha.2
theorem m_iaload {i : Int} {a : Nat} (hz : mz z) (ha : mA a) (hc : C pc = some (.iaload, nx)) (hi : 0 ≤ i ∧ i < mLen a) (k : cw d C Q nx ls (vI (I a i) :: st) (I, z)) : cw d C Q pc ls (vI i :: vR 20 a :: st) (I, z) := w_iaload hc (by have := ha.1; omega) (by rw [mLen_eq hz ha]; exact hi) k
theorem m_baload {c a : Nat} {i : Int} (hz : mz z) (ha : mA a) (hc : C pc = some (.baload, nx)) (hk : (Nat.beq c 21 || Nat.beq c 22) = true) (hi : 0 ≤ i ∧ i < mLen a) (k : cw d C Q nx ls (vI (I a i) :: st) (I, z)) : cw d C Q pc ls (vI i :: vR c a :: st) (I, z) := w_baload hc hk (by have := ha.1; omega) (by rw [mLen_eq hz ha]; exact hi) k
theorem m_iastore {i v : Int} {a : Nat} (hz : mz z) (ha : mA a) (hc : C pc = some (.iastore, nx)) (hi : 0 ≤ i ∧ i < mLen a) (k : ∀ I1, I1 = iu I a i v → cw d C Q nx ls st (I1, z)) : cw d C Q pc ls (vI v :: vI i :: vR 20 a :: st) (I, z) := w_iastore hc (by have := ha.1; omega) (by rw [mLen_eq hz ha]; exact hi) fun h1 e => by rw [e]; exact k _ rfl
theorem m_bastore {i v : Int} {c a : Nat} (hz : mz z) (ha : mA a) (hc : C pc = some (.bastore, nx)) (hk : (Nat.beq c 21 || Nat.beq c 22) = true) (hv : (c = 21 ∧ -128 ≤ v ∧ v ≤ 127) ∨ v = 0 ∨ v = 1) (hi : 0 ≤ i ∧ i < mLen a) (k : ∀ I1, I1 = iu I a i v → cw d C Q nx ls st (I1, z)) : cw d C Q pc ls (vI v :: vI i :: vR c a :: st) (I, z) := w_bastore hc hk hv (by have := ha.1; omega) (by rw [mLen_eq hz ha]; exact hi) fun h1 e => by rw [e]; exact k _ rfl
theorem m_callI {m n : Nat} {as t : List cm_V} (hc : C pc = some (.invokeinterface m n, nx)) (hp : ∀ k, cm_pop n [] st k = k as t) (hk : Nat.ble (cm_sum t) 8 = true) (k : mI d m as z I fun v I1 => cw d C Q nx ls (vI v :: t) (I1, z)) : cw d C Q pc ls st (I, z) := w_call hc hp hk (cm_call_mono k fun _ _ ⟨_, _, e, e2, p⟩ => by subst e; subst e2; exact p)
theorem m_callU {m n : Nat} {as t : List cm_V} (hc : C pc = some (.invokeinterface m n, nx)) (hp : ∀ k, cm_pop n [] st k = k as t) (hk : Nat.ble (cm_sum t) 8 = true) (k : mU d m as z I fun I1 => cw d C Q nx ls t (I1, z)) : cw d C Q pc ls st (I, z) := w_call hc hp hk (cm_call_mono k fun _ _ ⟨_, e, e2, p⟩ => by subst e; subst e2; exact p)
end MROWS
