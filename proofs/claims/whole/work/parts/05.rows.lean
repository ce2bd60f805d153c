/-! CALLS, and a row for each instruction: from the next place to this one -/
def cm_call : Nat → cm_E
  | 0 => fun _ _ _ _ => False
  | d + 1 => fun k as h Q => cm_ck (Nat.ble (cm_ent as).length (cm_maxL k) && cm_lok (cm_LI k) 0 (cm_ent as) && cm_rk (cm_ow k) as) (cm_rc (cm_ow k) as ∧ cm_w (cm_call d) (cm_code k) Q 0 (cm_entry (cm_maxL k) as) [] h)
theorem cm_call_nice : ∀ d, cm_niceE (cm_call d)
  | 0 => fun _ _ _ _ q => q.elim
  | d + 1 => fun k as h Q q => by
    unfold cm_call at q ⊢
    cases hb : (Nat.ble (cm_ent as).length (cm_maxL k) && cm_lok (cm_LI k) 0 (cm_ent as) && cm_rk (cm_ow k) as) with
    | false => rw [hb] at q; exact q.elim
    | true =>
      rw [hb] at q
      obtain ⟨r, h1, a, b, e⟩ := cm_w_leaf (cm_call_nice d) q.2
      exact ⟨r, h1, a, b, fun Q' z => ⟨q.1, e Q' z⟩⟩
abbrev vI (x : Int) : cm_V := .inl x
abbrev vR (k a : Nat) : cm_V := .inr (.inl (k, a))
abbrev vL (x : Int) : cm_V := .inr (.inr x)
abbrev cw (d : Nat) (C : cm_C) (Q : cm_Q) : cm_K := cm_w (cm_call d) C Q
theorem cm_call_in {d k : Nat} {C : cm_C} {as : List cm_V} {ls : cm_L} {h : cm_H} {Q : cm_Q} (hk : cm_code k = C) (hb : (Nat.ble (cm_ent as).length (cm_maxL k) && cm_lok (cm_LI k) 0 (cm_ent as) && cm_rk (cm_ow k) as) = true) (hr : cm_rc (cm_ow k) as) (he : cm_entry (cm_maxL k) as = ls) (w : cw d C Q 0 ls [] h) : cm_call (d + 1) k as h Q := by
  subst hk; subst he
  unfold cm_call
  rw [hb]
  exact ⟨hr, w⟩
theorem cm_call_mono {d k : Nat} {as : List cm_V} {h : cm_H} {Q Q' : cm_Q} (H : cm_call d k as h Q) (f : ∀ r h1, Q r h1 → Q' r h1) : cm_call d k as h Q' := by
  obtain ⟨r, h1, a, -, e⟩ := cm_call_nice d k as h Q H
  exact e Q' (f r h1 a)
/-- a call that answers a number; nothing; a reference of a kind -/
def cI (d k : Nat) (as : List cm_V) (h : cm_H) (P : Int → cm_H → Prop) : Prop := cm_call d k as h fun r h1 => ∃ v, r = some (vI v) ∧ P v h1
def cU (d k : Nat) (as : List cm_V) (h : cm_H) (P : cm_H → Prop) : Prop := cm_call d k as h fun r h1 => r = none ∧ P h1
def cA (d k : Nat) (as : List cm_V) (h : cm_H) (c : Nat) (P : Nat → cm_H → Prop) : Prop := cm_call d k as h fun r h1 => ∃ a, r = some (vR c a) ∧ P a h1
theorem cI_mono {d k : Nat} {as : List cm_V} {h : cm_H} {P P' : Int → cm_H → Prop} (H : cI d k as h P) (f : ∀ v h1, P v h1 → P' v h1) : cI d k as h P' := cm_call_mono H fun _ h1 ⟨v, e, p⟩ => ⟨v, e, f v h1 p⟩
theorem cU_mono {d k : Nat} {as : List cm_V} {h : cm_H} {P P' : cm_H → Prop} (H : cU d k as h P) (f : ∀ h1, P h1 → P' h1) : cU d k as h P' := cm_call_mono H fun _ h1 ⟨e, p⟩ => ⟨e, f h1 p⟩
theorem cA_mono {d k : Nat} {as : List cm_V} {h : cm_H} {c : Nat} {P P' : Nat → cm_H → Prop} (H : cA d k as h c P) (f : ∀ v h1, P v h1 → P' v h1) : cA d k as h c P' := cm_call_mono H fun _ h1 ⟨v, e, p⟩ => ⟨v, e, f v h1 p⟩
theorem cm_ck_t {b : Bool} {P : Prop} (hb : b = true) (p : P) : cm_ck b P := by subst hb; exact p
theorem cm_gi_t {ls : cm_L} {i : Nat} {v : Int} {k : Int → Prop} (hl : cm_get ls i = some (vI v)) (p : k v) : cm_gi ls i k := by unfold cm_gi; rw [hl]; exact p
theorem cm_gl_t {ls : cm_L} {i : Nat} {v : Int} {k : Int → Prop} (hl : cm_get ls i = some (vL v)) (p : k v) : cm_gl ls i k := by unfold cm_gl; rw [hl]; exact p
theorem cm_gr_t {ls : cm_L} {i c a : Nat} {k : Nat → Nat → Prop} (hl : cm_get ls i = some (vR c a)) (p : k c a) : cm_gr ls i k := by unfold cm_gr; rw [hl]; exact p
section ROWS
variable {d : Nat} {C : cm_C} {Q : cm_Q} {pc nx : Nat} {ls : cm_L} {st : List cm_V} {h : cm_H}
theorem w_go {ins : Instr} (hc : C pc = some (ins, nx)) (k : cm_ins (cm_call d) ins nx ls st h (cw d C Q) Q) : cw d C Q pc ls st h := by
  refine cm_w_step (cm_call_nice d) ?_
  unfold cm_step
  rw [hc]
  exact k
theorem w_iconst {v : Int} (hc : C pc = some (.iconst v, nx)) (hv : cm_i v) (k : cw d C Q nx ls (vI v :: st) h) : cw d C Q pc ls st h := w_go hc ⟨hv, k⟩
theorem w_lconst {v : Int} (hc : C pc = some (.goto_w v, nx)) (hv : cm_l v) (k : cw d C Q nx ls (vL v :: st) h) : cw d C Q pc ls st h := w_go hc ⟨hv, k⟩
theorem w_iload {i : Nat} {v : Int} (hc : C pc = some (.iload i, nx)) (hl : cm_get ls i = some (vI v)) (k : cw d C Q nx ls (vI v :: st) h) : cw d C Q pc ls st h := w_go hc (cm_gi_t hl k)
theorem w_lload {i : Nat} {v : Int} (hc : C pc = some (.lload i, nx)) (hl : cm_get ls i = some (vL v)) (k : cw d C Q nx ls (vL v :: st) h) : cw d C Q pc ls st h := w_go hc (cm_gl_t hl k)
theorem w_aload {i c a : Nat} (hc : C pc = some (.aload i, nx)) (hl : cm_get ls i = some (vR c a)) (k : cw d C Q nx ls (vR c a :: st) h) : cw d C Q pc ls st h := w_go hc (cm_gr_t hl k)
theorem w_istore {i : Nat} {v : Int} {ls' : cm_L} (hc : C pc = some (.istore i, nx)) (hl : ls.set i (some (vI v)) = ls') (k : cw d C Q nx ls' st h) : cw d C Q pc ls (vI v :: st) h := w_go hc (by subst hl; exact k)
theorem w_lstore {i : Nat} {v : Int} {ls' : cm_L} (hc : C pc = some (.lstore i, nx)) (hl : (ls.set i (some (vL v))).set (i + 1) none = ls') (k : cw d C Q nx ls' st h) : cw d C Q pc ls (vL v :: st) h := w_go hc (by subst hl; exact k)
theorem w_astore {i c a : Nat} {ls' : cm_L} (hc : C pc = some (.astore i, nx)) (hl : ls.set i (some (vR c a)) = ls') (k : cw d C Q nx ls' st h) : cw d C Q pc ls (vR c a :: st) h := w_go hc (by subst hl; exact k)
theorem w_iinc {i : Nat} {n v : Int} {ls' : cm_L} (hc : C pc = some (.iinc i n, nx)) (hg : cm_get ls i = some (vI v)) (hl : ls.set i (some (vI (v + n))) = ls') (hv : cm_i (v + n)) (k : cw d C Q nx ls' st h) : cw d C Q pc ls st h := w_go hc (by subst hl; exact cm_gi_t hg ⟨hv, k⟩)
theorem w_iadd {x y : Int} (hc : C pc = some (.iadd, nx)) (hv : cm_i (x + y)) (k : cw d C Q nx ls (vI (x + y) :: st) h) : cw d C Q pc ls (vI y :: vI x :: st) h := w_go hc ⟨hv, k⟩
theorem w_isub {x y : Int} (hc : C pc = some (.isub, nx)) (hv : cm_i (x - y)) (k : cw d C Q nx ls (vI (x - y) :: st) h) : cw d C Q pc ls (vI y :: vI x :: st) h := w_go hc ⟨hv, k⟩
theorem w_imul {x y : Int} (hc : C pc = some (.imul, nx)) (hv : cm_i (x * y)) (k : cw d C Q nx ls (vI (x * y) :: st) h) : cw d C Q pc ls (vI y :: vI x :: st) h := w_go hc ⟨hv, k⟩
theorem w_idiv {x y : Int} (hc : C pc = some (.idiv, nx)) (hv : 0 < y) (k : cw d C Q nx ls (vI (x.tdiv y) :: st) h) : cw d C Q pc ls (vI y :: vI x :: st) h := w_go hc ⟨hv, k⟩
theorem w_irem {x y : Int} (hc : C pc = some (.irem, nx)) (hv : 0 < y) (k : cw d C Q nx ls (vI (x.tmod y) :: st) h) : cw d C Q pc ls (vI y :: vI x :: st) h := w_go hc ⟨hv, k⟩
theorem w_ineg {x : Int} (hc : C pc = some (.ineg, nx)) (hv : cm_i (-x)) (k : cw d C Q nx ls (vI (-x) :: st) h) : cw d C Q pc ls (vI x :: st) h := w_go hc ⟨hv, k⟩
theorem w_iand {x y : Int} (hc : C pc = some (.iand, nx)) (hv : y = 1 ∨ y = 255) (k : cw d C Q nx ls (vI (x % (y + 1)) :: st) h) : cw d C Q pc ls (vI y :: vI x :: st) h := w_go hc ⟨hv, k⟩
theorem w_ishr {x y : Int} (hc : C pc = some (.ishr, nx)) (hv : 0 ≤ y ∧ y < 32) (k : cw d C Q nx ls (vI (x / 2 ^ y.toNat) :: st) h) : cw d C Q pc ls (vI y :: vI x :: st) h := w_go hc ⟨hv, k⟩
theorem w_i2b {x : Int} (hc : C pc = some (.i2b, nx)) (k : cw d C Q nx ls (vI ((x + 128) % 256 - 128) :: st) h) : cw d C Q pc ls (vI x :: st) h := w_go hc k
theorem w_floorMod {x y : Int} (hc : C pc = some (.drem, nx)) (hk : Nat.ble (cm_sum st) 8 = true) (hv : 0 < y) (k : cw d C Q nx ls (vI (x % y) :: st) h) : cw d C Q pc ls (vI y :: vI x :: st) h := w_go hc (cm_ck_t hk ⟨hv, k⟩)
theorem w_max {x y : Int} (hc : C pc = some (.dadd, nx)) (hk : Nat.ble (cm_sum st) 8 = true) (k : cw d C Q nx ls (vI (max x y) :: st) h) : cw d C Q pc ls (vI y :: vI x :: st) h := w_go hc (cm_ck_t hk k)
theorem w_min {x y : Int} (hc : C pc = some (.dsub, nx)) (hk : Nat.ble (cm_sum st) 8 = true) (k : cw d C Q nx ls (vI (min x y) :: st) h) : cw d C Q pc ls (vI y :: vI x :: st) h := w_go hc (cm_ck_t hk k)
theorem w_i2l {x : Int} (hc : C pc = some (.i2l, nx)) (k : cw d C Q nx ls (vL x :: st) h) : cw d C Q pc ls (vI x :: st) h := w_go hc k
theorem w_l2i {x : Int} (hc : C pc = some (.l2i, nx)) (hv : cm_i x) (k : cw d C Q nx ls (vI x :: st) h) : cw d C Q pc ls (vL x :: st) h := w_go hc ⟨hv, k⟩
theorem w_ladd {x y : Int} (hc : C pc = some (.ladd, nx)) (hv : cm_l (x + y)) (k : cw d C Q nx ls (vL (x + y) :: st) h) : cw d C Q pc ls (vL y :: vL x :: st) h := w_go hc ⟨hv, k⟩
theorem w_lsub {x y : Int} (hc : C pc = some (.lsub, nx)) (hv : cm_l (x - y)) (k : cw d C Q nx ls (vL (x - y) :: st) h) : cw d C Q pc ls (vL y :: vL x :: st) h := w_go hc ⟨hv, k⟩
theorem w_lmul {x y : Int} (hc : C pc = some (.lmul, nx)) (hv : cm_l (x * y)) (k : cw d C Q nx ls (vL (x * y) :: st) h) : cw d C Q pc ls (vL y :: vL x :: st) h := w_go hc ⟨hv, k⟩
theorem w_lrem {x y : Int} (hc : C pc = some (.lrem, nx)) (hv : 0 < y) (k : cw d C Q nx ls (vL (x.tmod y) :: st) h) : cw d C Q pc ls (vL y :: vL x :: st) h := w_go hc ⟨hv, k⟩
theorem w_lcmp {x y : Int} (hc : C pc = some (.lcmp, nx)) (k : cw d C Q nx ls (vI (if x < y then -1 else if x = y then 0 else 1) :: st) h) : cw d C Q pc ls (vL y :: vL x :: st) h := w_go hc k
theorem w_icmp {c : ClassFile.Cond} {t : Nat} {x y : Int} (hc : C pc = some (.if_icmp c (.ofNat t), nx)) (k : cm_cmp c x y (cw d C Q t ls st h) (cw d C Q nx ls st h)) : cw d C Q pc ls (vI y :: vI x :: st) h := w_go hc k
theorem w_if {c : ClassFile.Cond} {t : Nat} {x : Int} (hc : C pc = some (.ifCond c (.ofNat t), nx)) (k : cm_cmp c x 0 (cw d C Q t ls st h) (cw d C Q nx ls st h)) : cw d C Q pc ls (vI x :: st) h := w_go hc k
theorem w_goto {t : Nat} (hc : C pc = some (.goto (.ofNat t), nx)) (k : cw d C Q t ls st h) : cw d C Q pc ls st h := w_go hc k
theorem w_switch {x dd : Int} {ps : Array (Int × Int)} (hc : C pc = some (.lookupswitch dd ps, nx)) (k : cm_sw x dd (fun t => cw d C Q t ls st h) ps.toList) : cw d C Q pc ls (vI x :: st) h := w_go hc k
theorem w_getI {w c a : Nat} (i : Int) (hc : C pc = some (.getfield w, nx)) (hk : Nat.beq c (w / 100) = true) (hi : ((w % 100 : Nat) : Int) = i) (ha : 0 < a) (k : cw d C Q nx ls (vI (ch_I h a i) :: st) h) : cw d C Q pc ls (vR c a :: st) h := w_go hc (by subst hi; exact cm_ck_t hk (⟨ha, k⟩))
theorem w_getR {w c a : Nat} (i : Int) (e : Nat) (hc : C pc = some (.getstatic w, nx)) (hk : Nat.beq c (w / 10000) = true) (hi : ((w / 100 % 100 : Nat) : Int) = i) (he : w % 100 = e) (ha : 0 < a) (k : cw d C Q nx ls (vR e (ch_R h a i) :: st) h) : cw d C Q pc ls (vR c a :: st) h := w_go hc (by subst hi; subst he; exact cm_ck_t hk (⟨ha, k⟩))
theorem w_putI {w c a : Nat} {v : Int} (i : Int) (hc : C pc = some (.putfield w, nx)) (hk : Nat.beq c (w / 100) = true) (hi : ((w % 100 : Nat) : Int) = i) (ha : 0 < a) (k : ∀ h1, h1 = ch_u h a i v → cw d C Q nx ls st h1) : cw d C Q pc ls (vI v :: vR c a :: st) h := w_go hc (by subst hi; exact cm_ck_t hk (⟨ha, k _ rfl⟩))
theorem w_putZ {w c a : Nat} {v : Int} (i : Int) (hc : C pc = some (.ret w, nx)) (hk : Nat.beq c (w / 100) = true) (hi : ((w % 100 : Nat) : Int) = i) (hv : v = 0 ∨ v = 1) (ha : 0 < a) (k : ∀ h1, h1 = ch_u h a i v → cw d C Q nx ls st h1) : cw d C Q pc ls (vI v :: vR c a :: st) h := w_go hc (by subst hi; exact cm_ck_t hk (⟨hv, ha, k _ rfl⟩))
theorem w_putR {w c a e b : Nat} (i : Int) (hc : C pc = some (.putstatic w, nx)) (hk : Nat.beq c (w / 10000) = true) (hk2 : Nat.beq e (w % 100) = true) (hi : ((w / 100 % 100 : Nat) : Int) = i) (ha : 0 < a) (k : ∀ h1, h1 = ch_r h a i b → cw d C Q nx ls st h1) : cw d C Q pc ls (vR e b :: vR c a :: st) h := w_go hc (by subst hi; exact cm_ck_t hk (cm_ck_t hk2 (⟨ha, k _ rfl⟩)))
theorem w_iaload {i : Int} {a : Nat} (hc : C pc = some (.iaload, nx)) (ha : 0 < a) (hi : 0 ≤ i ∧ i < ch_L h a) (k : cw d C Q nx ls (vI (ch_I h a i) :: st) h) : cw d C Q pc ls (vI i :: vR 20 a :: st) h := w_go hc ⟨ha, hi.1, hi.2, k⟩
theorem w_baload {c a : Nat} {i : Int} (hc : C pc = some (.baload, nx)) (hk : (Nat.beq c 21 || Nat.beq c 22) = true) (ha : 0 < a) (hi : 0 ≤ i ∧ i < ch_L h a) (k : cw d C Q nx ls (vI (ch_I h a i) :: st) h) : cw d C Q pc ls (vI i :: vR c a :: st) h := w_go hc (by exact cm_ck_t hk (⟨ha, hi.1, hi.2, k⟩))
theorem w_aaload {c a e : Nat} {i : Int} (hc : C pc = some (.aaload, nx)) (hk : (Nat.ble 23 c && Nat.ble c 25) = true) (he : cm_ek c = e) (ha : 0 < a) (hi : 0 ≤ i ∧ i < ch_L h a) (k : cw d C Q nx ls (vR e (ch_R h a i) :: st) h) : cw d C Q pc ls (vI i :: vR c a :: st) h := w_go hc (by subst he; exact cm_ck_t hk (⟨ha, hi.1, hi.2, k⟩))
theorem w_iastore {i v : Int} {a : Nat} (hc : C pc = some (.iastore, nx)) (ha : 0 < a) (hi : 0 ≤ i ∧ i < ch_L h a) (k : ∀ h1, h1 = ch_u h a i v → cw d C Q nx ls st h1) : cw d C Q pc ls (vI v :: vI i :: vR 20 a :: st) h := w_go hc ⟨ha, hi.1, hi.2, k _ rfl⟩
theorem w_bastore {i v : Int} {c a : Nat} (hc : C pc = some (.bastore, nx)) (hk : (Nat.beq c 21 || Nat.beq c 22) = true) (hv : (c = 21 ∧ -128 ≤ v ∧ v ≤ 127) ∨ v = 0 ∨ v = 1) (ha : 0 < a) (hi : 0 ≤ i ∧ i < ch_L h a) (k : ∀ h1, h1 = ch_u h a i v → cw d C Q nx ls st h1) : cw d C Q pc ls (vI v :: vI i :: vR c a :: st) h := w_go hc (by exact cm_ck_t hk (⟨hv, ha, hi.1, hi.2, k _ rfl⟩))
theorem w_aastore {i : Int} {c a e b : Nat} (hc : C pc = some (.aastore, nx)) (hk : (Nat.beq c 24 || Nat.beq c 25) = true) (hk2 : Nat.beq e (cm_ek c) = true) (hb : 0 < b) (ha : 0 < a) (hi : 0 ≤ i ∧ i < ch_L h a) (k : ∀ h1, h1 = ch_r h a i b → cw d C Q nx ls st h1) : cw d C Q pc ls (vR e b :: vI i :: vR c a :: st) h := w_go hc (by exact cm_ck_t hk (cm_ck_t hk2 (⟨hb, ha, hi.1, hi.2, k _ rfl⟩)))
theorem w_alen {c a : Nat} (hc : C pc = some (.arraylength, nx)) (hk : (Nat.ble 20 c && Nat.ble c 25) = true) (ha : 0 < a) (k : cw d C Q nx ls (vI (ch_L h a) :: st) h) : cw d C Q pc ls (vR c a :: st) h := w_go hc (by exact cm_ck_t hk (⟨ha, k⟩))
theorem w_new {w : Nat} (c n : Nat) (hc : C pc = some (.new w, nx)) (h1 : w / 100 = c) (h2 : w % 100 = n) (k : ∀ h1, h1 = ch_new h c 0 n → cw d C Q nx ls (vR c (ch_n h) :: st) h1) : cw d C Q pc ls st h := w_go hc (by subst h1; subst h2; exact k _ rfl)
theorem w_newI {n : Int} (hc : C pc = some (.newarray .int, nx)) (hn : 0 ≤ n ∧ n ≤ 1000000) (k : ∀ h1, h1 = ch_new h 20 n n.toNat → cw d C Q nx ls (vR 20 (ch_n h) :: st) h1) : cw d C Q pc ls (vI n :: st) h := w_go hc ⟨hn, k _ rfl⟩
theorem w_newB {n : Int} (hc : C pc = some (.newarray .byte, nx)) (hn : 0 ≤ n ∧ n ≤ 1000000) (k : ∀ h1, h1 = ch_new h 21 n n.toNat → cw d C Q nx ls (vR 21 (ch_n h) :: st) h1) : cw d C Q pc ls (vI n :: st) h := w_go hc ⟨hn, k _ rfl⟩
theorem w_newZ {n : Int} (hc : C pc = some (.newarray .boolean, nx)) (hn : 0 ≤ n ∧ n ≤ 1000000) (k : ∀ h1, h1 = ch_new h 22 n n.toNat → cw d C Q nx ls (vR 22 (ch_n h) :: st) h1) : cw d C Q pc ls (vI n :: st) h := w_go hc ⟨hn, k _ rfl⟩
theorem w_newA {w : Nat} {n : Int} (hc : C pc = some (.anewarray w, nx)) (hn : 0 ≤ n ∧ n ≤ 1000000) (k : ∀ h1, h1 = ch_new h w n n.toNat → cw d C Q nx ls (vR w (ch_n h) :: st) h1) : cw d C Q pc ls (vI n :: st) h := w_go hc ⟨hn, k _ rfl⟩
theorem w_newM {w z : Nat} {n m : Int} (hc : C pc = some (.multianewarray w z, nx)) (hn : 0 ≤ n ∧ n ≤ 1000 ∧ 0 ≤ m ∧ m ≤ 1000) (k : ∀ h1, h1 = ch_x (ch_news (ch_new h 23 n n.toNat) m m.toNat n.toNat) (ch_n h) (fun j => if 0 ≤ j ∧ j < n then ch_n h + 1 + j.toNat else 0) → cw d C Q nx ls (vR 23 (ch_n h) :: st) h1) : cw d C Q pc ls (vI m :: vI n :: st) h := w_go hc ⟨hn, k _ rfl⟩
theorem w_dup {v : cm_V} (hc : C pc = some (.dup, nx)) (hk : Nat.beq (cm_cat v) 1 = true) (k : cw d C Q nx ls (v :: v :: st) h) : cw d C Q pc ls (v :: st) h := w_go hc (by exact cm_ck_t hk (k))
theorem w_dup2 {v w : cm_V} (hc : C pc = some (.dup2, nx)) (hk : (Nat.beq (cm_cat v) 1 && Nat.beq (cm_cat w) 1) = true) (k : cw d C Q nx ls (v :: w :: v :: w :: st) h) : cw d C Q pc ls (v :: w :: st) h := w_go hc (by exact cm_ck_t hk (k))
theorem w_pop {v : cm_V} (hc : C pc = some (.pop, nx)) (hk : Nat.beq (cm_cat v) 1 = true) (k : cw d C Q nx ls st h) : cw d C Q pc ls (v :: st) h := w_go hc (by exact cm_ck_t hk (k))
theorem w_objInit {w c a : Nat} (hc : C pc = some (.invokespecial w, nx)) (hk : Nat.ble (cm_sum st) 8 = true) (ha : 0 < a) (k : cw d C Q nx ls st h) : cw d C Q pc ls (vR c a :: st) h := w_go hc (by exact cm_ck_t hk (⟨ha, k⟩))
theorem w_copy {w a b : Nat} {i j n : Int} (hc : C pc = some (.invokedynamic w, nx)) (hk : (Nat.beq 20 20 && Nat.beq 20 20 && Nat.ble (cm_sum st) 8) = true) (ha : 0 < a) (hb : 0 < b) (ho : 0 ≤ i ∧ 0 ≤ j ∧ 0 ≤ n ∧ i + n ≤ ch_L h a ∧ j + n ≤ ch_L h b) (k : ∀ h1, h1 = ch_cp h a i b j n → cw d C Q nx ls st h1) : cw d C Q pc ls (vI n :: vI j :: vR 20 b :: vI i :: vR 20 a :: st) h := w_go hc (by exact cm_ck_t hk (⟨ha, hb, ho.1, ho.2.1, ho.2.2.1, ho.2.2.2.1, ho.2.2.2.2, k _ rfl⟩))
theorem w_call {m n : Nat} {as t : List cm_V} (hc : C pc = some (.invokeinterface m n, nx)) (hp : ∀ k, cm_pop n [] st k = k as t) (hk : Nat.ble (cm_sum t) 8 = true) (k : cm_call d m as h fun r h2 => cw d C Q nx ls (cm_push r t) h2) : cw d C Q pc ls st h := w_go hc (by show cm_pop n [] st _; rw [hp]; exact cm_ck_t hk k)
theorem w_callI {m n : Nat} {as t : List cm_V} (hc : C pc = some (.invokeinterface m n, nx)) (hp : ∀ k, cm_pop n [] st k = k as t) (hk : Nat.ble (cm_sum t) 8 = true) (k : cI d m as h fun v h2 => cw d C Q nx ls (vI v :: t) h2) : cw d C Q pc ls st h := w_call hc hp hk (cm_call_mono k fun _ _ ⟨_, e, p⟩ => by subst e; exact p)
theorem w_callU {m n : Nat} {as t : List cm_V} (hc : C pc = some (.invokeinterface m n, nx)) (hp : ∀ k, cm_pop n [] st k = k as t) (hk : Nat.ble (cm_sum t) 8 = true) (k : cU d m as h fun h2 => cw d C Q nx ls t h2) : cw d C Q pc ls st h := w_call hc hp hk (cm_call_mono k fun _ _ ⟨e, p⟩ => by subst e; exact p)
theorem w_callA {m n c : Nat} {as t : List cm_V} (hc : C pc = some (.invokeinterface m n, nx)) (hp : ∀ k, cm_pop n [] st k = k as t) (hk : Nat.ble (cm_sum t) 8 = true) (k : cA d m as h c fun a h2 => cw d C Q nx ls (vR c a :: t) h2) : cw d C Q pc ls st h := w_call hc hp hk (cm_call_mono k fun _ _ ⟨_, e, p⟩ => by subst e; exact p)
theorem w_ireturn {v : Int} (hc : C pc = some (.ireturn, nx)) (k : Q (some (vI v)) h) : cw d C Q pc ls [vI v] h := w_go hc k
theorem w_zreturn {v : Int} (hc : C pc = some (.freturn, nx)) (hv : v = 0 ∨ v = 1) (k : Q (some (vI v)) h) : cw d C Q pc ls [vI v] h := w_go hc ⟨hv, k⟩
theorem w_areturn {c a : Nat} (hc : C pc = some (.areturn, nx)) (ha : 0 < a) (k : Q (some (vR c a)) h) : cw d C Q pc ls [vR c a] h := w_go hc ⟨ha, k⟩
theorem w_return (hc : C pc = some (.return_, nx)) (k : Q none h) : cw d C Q pc ls [] h := w_go hc k
theorem w_throw (hc : C pc = some (.athrow, nx)) (k : Q cm_exc (ch_thr h)) : cw d C Q pc ls st h := w_go hc k
end ROWS
