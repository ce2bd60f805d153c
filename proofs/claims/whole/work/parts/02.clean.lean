/-! THE CLEAN MACHINE: whole numbers as Int, heaps as functions; a value is a number, a reference (kind, address; address 0 is null) or a long -/
abbrev cm_V : Type := Int ⊕ ((Nat × Nat) ⊕ Int)
abbrev cm_H : Type := (Nat → Int → Int) × (Nat → Int → Nat) × (Nat → Int) × (Nat → Nat) × Nat × Nat × Nat
abbrev cm_Q : Type := Option cm_V → cm_H → Prop
abbrev cm_L : Type := List (Option cm_V)
abbrev cm_C : Type := Nat → Option (Instr × Nat)
abbrev cm_K : Type := Nat → cm_L → List cm_V → cm_H → Prop
abbrev cm_E : Type := Nat → List cm_V → cm_H → cm_Q → Prop
/-- numbers of a cell: an array's elements, an object's number fields by slot -/
def ch_I (h : cm_H) : Nat → Int → Int := h.1
/-- references of a cell -/
def ch_R (h : cm_H) : Nat → Int → Nat := h.2.1
/-- an array's length -/
def ch_L (h : cm_H) : Nat → Int := h.2.2.1
/-- a cell's kind -/
def ch_T (h : cm_H) : Nat → Nat := h.2.2.2.1
/-- the next address; cells made; slots made -/
def ch_n (h : cm_H) : Nat := h.2.2.2.2.1
def ch_c (h : cm_H) : Nat := h.2.2.2.2.2.1
def ch_s (h : cm_H) : Nat := h.2.2.2.2.2.2
/-- the numbers of cell a are f -/
def ch_w (h : cm_H) (a : Nat) (f : Int → Int) : cm_H := (fun b => if b = a then f else h.1 b, h.2)
def ch_u (h : cm_H) (a : Nat) (i v : Int) : cm_H := ch_w h a (fun j => if j = i then v else ch_I h a j)
/-- the references of cell a are f -/
def ch_x (h : cm_H) (a : Nat) (f : Int → Nat) : cm_H := (h.1, fun b => if b = a then f else h.2.1 b, h.2.2)
def ch_r (h : cm_H) (a : Nat) (i : Int) (v : Nat) : cm_H := ch_x h a (fun j => if j = i then v else ch_R h a j)
/-- a new cell of kind k, of length len, that takes sl slots -/
def ch_new (h : cm_H) (k : Nat) (len : Int) (sl : Nat) : cm_H :=
  (fun b => if b = h.2.2.2.2.1 then (fun _ => 0) else h.1 b, fun b => if b = h.2.2.2.2.1 then (fun _ => 0) else h.2.1 b, fun b => if b = h.2.2.2.2.1 then len else h.2.2.1 b, fun b => if b = h.2.2.2.2.1 then k else h.2.2.2.1 b, h.2.2.2.2.1 + 1, h.2.2.2.2.2.1 + 1, h.2.2.2.2.2.2 + sl)
/-- n new int arrays of length len, at the addresses from the next on -/
def ch_news (h : cm_H) (len : Int) (sl : Nat) : Nat → cm_H
  | 0 => h
  | n + 1 => ch_new (ch_news h len sl n) 20 len sl
/-- System.arraycopy -/
def ch_cp (h : cm_H) (s : Nat) (i : Int) (t : Nat) (j n : Int) : cm_H := ch_w h t (fun q => if j ≤ q ∧ q < j + n then ch_I h s (i + (q - j)) else ch_I h t q)
def cm_i (x : Int) : Prop := -2147483648 ≤ x ∧ x ≤ 2147483647
def cm_l (x : Int) : Prop := -9223372036854775808 ≤ x ∧ x ≤ 9223372036854775807
def cm_get : cm_L → Nat → Option cm_V
  | [], _ => none
  | x :: _, 0 => x
  | _ :: t, i + 1 => cm_get t i
def cm_ent : List cm_V → cm_L
  | [] => []
  | .inl v :: t => some (.inl v) :: cm_ent t
  | .inr (.inl r) :: t => some (.inr (.inl r)) :: cm_ent t
  | .inr (.inr v) :: t => some (.inr (.inr v)) :: none :: cm_ent t
def cm_rep : Nat → cm_L → cm_L
  | 0, _ => []
  | n + 1, [] => none :: cm_rep n []
  | n + 1, x :: t => x :: cm_rep n t
/-- the locals at a method's entry -/
def cm_entry (m : Nat) (args : List cm_V) : cm_L := cm_rep m (cm_ent args)
/-- longs lie at places of the list alone -/
def cm_lok (L : List Nat) : Nat → cm_L → Bool
  | _, [] => true
  | i, some (.inr (.inr _)) :: t => L.contains i && cm_lok L (i + 1) t
  | i, _ :: t => cm_lok L (i + 1) t
/-- the receiver's kind; 99: there is none -/
def cm_rk (o : Nat) (as : List cm_V) : Bool := match Nat.beq o 99 with
  | true => true
  | false => match as with
    | .inr (.inl (c, _)) :: _ => Nat.beq c o
    | _ => false
/-- the receiver is not null -/
def cm_rc (o : Nat) (as : List cm_V) : Prop := match Nat.beq o 99 with
  | true => True
  | false => match as with
    | .inr (.inl (_, a)) :: _ => 0 < a
    | _ => False
-- what lies on top of the stack
def cm_p1 (st : List cm_V) (k : Int → List cm_V → Prop) : Prop := match st with
  | .inl x :: t => k x t
  | _ => False
def cm_p2 (st : List cm_V) (k : Int → Int → List cm_V → Prop) : Prop := match st with
  | .inl y :: .inl x :: t => k x y t
  | _ => False
def cm_pr (st : List cm_V) (k : Nat → Nat → List cm_V → Prop) : Prop := match st with
  | .inr (.inl (c, a)) :: t => k c a t
  | _ => False
def cm_pl (st : List cm_V) (k : Int → List cm_V → Prop) : Prop := match st with
  | .inr (.inr x) :: t => k x t
  | _ => False
def cm_pv (st : List cm_V) (k : cm_V → List cm_V → Prop) : Prop := match st with
  | v :: t => k v t
  | _ => False
def cm_gi (ls : cm_L) (i : Nat) (k : Int → Prop) : Prop := match cm_get ls i with
  | some (.inl v) => k v
  | _ => False
def cm_gr (ls : cm_L) (i : Nat) (k : Nat → Nat → Prop) : Prop := match cm_get ls i with
  | some (.inr (.inl (c, a))) => k c a
  | _ => False
def cm_gl (ls : cm_L) (i : Nat) (k : Int → Prop) : Prop := match cm_get ls i with
  | some (.inr (.inr v)) => k v
  | _ => False
/-- a static check that must come out true -/
def cm_ck (b : Bool) (P : Prop) : Prop := match b with
  | true => P
  | false => False
def cm_cmp (c : ClassFile.Cond) (x y : Int) (P N : Prop) : Prop := match c with
  | .eq => (x = y → P) ∧ (¬ x = y → N)
  | .ne => (¬ x = y → P) ∧ (x = y → N)
  | .lt => (x < y → P) ∧ (y ≤ x → N)
  | .ge => (y ≤ x → P) ∧ (x < y → N)
  | .gt => (y < x → P) ∧ (x ≤ y → N)
  | .le => (x ≤ y → P) ∧ (y < x → N)
def cm_sw (x : Int) (d : Int) (P : Nat → Prop) : List (Int × Int) → Prop
  | [] => P d.toNat
  | (k, t) :: r => (x = k → P t.toNat) ∧ (¬ x = k → cm_sw x d P r)
/-- what an array of references holds -/
def cm_ek (c : Nat) : Nat := match c with
  | 23 => 20
  | 24 => 2
  | _ => 5
def cm_cat (v : cm_V) : Nat := match v with
  | .inr (.inr _) => 2
  | _ => 1
def cm_sum : List cm_V → Nat
  | [] => 0
  | v :: t => cm_cat v + cm_sum t
/-- the first n of the stack as arguments, and the rest -/
def cm_pop : Nat → List cm_V → List cm_V → (List cm_V → List cm_V → Prop) → Prop
  | 0, acc, st, k => k acc st
  | n + 1, acc, v :: t, k => cm_pop n (v :: acc) t k
  | _ + 1, _, [], _ => False
def cm_push (r : Option cm_V) (st : List cm_V) : List cm_V := match r with
  | none => st
  | some v => v :: st
/-- a thrown NoSuchElementException as an answer -/
abbrev cm_exc : Option cm_V := some (.inr (.inl (99, 0)))
/-- the cells and slots that such a throw makes -/
def ch_thr (h : cm_H) : cm_H := (h.1, h.2.1, h.2.2.1, h.2.2.2.1, h.2.2.2.2.1, h.2.2.2.2.2.1 + 1, h.2.2.2.2.2.2 + 5)
/-- ONE INSTRUCTION: what must hold now so that the machine goes on to a place of K, or ends in Q. Some of Instr's names stand for more than they say: goto_w a long constant; getstatic, putstatic a field that is a reference ((class, slot), kind); ret a boolean field; freturn a boolean answer; drem, dadd, dsub Math.floorMod, max, min; invokeinterface any call (method, how many values); invokespecial Object's constructor; invokedynamic System.arraycopy; lookupswitch any switch; targets are absolute -/
def cm_ins (E : cm_E) (ins : Instr) (nx : Nat) (ls : cm_L) (st : List cm_V) (h : cm_H) (K : cm_K) (Q : cm_Q) : Prop := match ins with
  | .iconst v => cm_i v ∧ K nx ls (.inl v :: st) h
  | .goto_w v => cm_l v ∧ K nx ls (.inr (.inr v) :: st) h
  | .iload i => cm_gi ls i fun v => K nx ls (.inl v :: st) h
  | .lload i => cm_gl ls i fun v => K nx ls (.inr (.inr v) :: st) h
  | .aload i => cm_gr ls i fun c a => K nx ls (.inr (.inl (c, a)) :: st) h
  | .istore i => cm_p1 st fun v t => K nx (ls.set i (some (.inl v))) t h
  | .lstore i => cm_pl st fun v t => K nx ((ls.set i (some (.inr (.inr v)))).set (i + 1) none) t h
  | .astore i => cm_pr st fun c a t => K nx (ls.set i (some (.inr (.inl (c, a))))) t h
  | .iinc i n => cm_gi ls i fun v => cm_i (v + n) ∧ K nx (ls.set i (some (.inl (v + n)))) st h
  | .iadd => cm_p2 st fun x y t => cm_i (x + y) ∧ K nx ls (.inl (x + y) :: t) h
  | .isub => cm_p2 st fun x y t => cm_i (x - y) ∧ K nx ls (.inl (x - y) :: t) h
  | .imul => cm_p2 st fun x y t => cm_i (x * y) ∧ K nx ls (.inl (x * y) :: t) h
  | .idiv => cm_p2 st fun x y t => 0 < y ∧ K nx ls (.inl (x.tdiv y) :: t) h
  | .irem => cm_p2 st fun x y t => 0 < y ∧ K nx ls (.inl (x.tmod y) :: t) h
  | .ineg => cm_p1 st fun x t => cm_i (-x) ∧ K nx ls (.inl (-x) :: t) h
  | .iand => cm_p2 st fun x y t => (y = 1 ∨ y = 255) ∧ K nx ls (.inl (x % (y + 1)) :: t) h
  | .ishr => cm_p2 st fun x y t => (0 ≤ y ∧ y < 32) ∧ K nx ls (.inl (x / 2 ^ y.toNat) :: t) h
  | .i2b => cm_p1 st fun x t => K nx ls (.inl ((x + 128) % 256 - 128) :: t) h
  | .drem => cm_p2 st fun x y t => cm_ck (Nat.ble (cm_sum t) 8) (0 < y ∧ K nx ls (.inl (x % y) :: t) h)
  | .dadd => cm_p2 st fun x y t => cm_ck (Nat.ble (cm_sum t) 8) (K nx ls (.inl (max x y) :: t) h)
  | .dsub => cm_p2 st fun x y t => cm_ck (Nat.ble (cm_sum t) 8) (K nx ls (.inl (min x y) :: t) h)
  | .i2l => cm_p1 st fun x t => K nx ls (.inr (.inr x) :: t) h
  | .l2i => cm_pl st fun x t => cm_i x ∧ K nx ls (.inl x :: t) h
  | .ladd => cm_pl st fun y t => cm_pl t fun x t => cm_l (x + y) ∧ K nx ls (.inr (.inr (x + y)) :: t) h
  | .lsub => cm_pl st fun y t => cm_pl t fun x t => cm_l (x - y) ∧ K nx ls (.inr (.inr (x - y)) :: t) h
  | .lmul => cm_pl st fun y t => cm_pl t fun x t => cm_l (x * y) ∧ K nx ls (.inr (.inr (x * y)) :: t) h
  | .lrem => cm_pl st fun y t => cm_pl t fun x t => 0 < y ∧ K nx ls (.inr (.inr (x.tmod y)) :: t) h
  | .lcmp => cm_pl st fun y t => cm_pl t fun x t => K nx ls (.inl (if x < y then -1 else if x = y then 0 else 1) :: t) h
  | .if_icmp c t => cm_p2 st fun x y r => cm_cmp c x y (K t.toNat ls r h) (K nx ls r h)
  | .ifCond c t => cm_p1 st fun x r => cm_cmp c x 0 (K t.toNat ls r h) (K nx ls r h)
  | .goto t => K t.toNat ls st h
  | .lookupswitch d ps => cm_p1 st fun x r => cm_sw x d (fun t => K t ls r h) ps.toList
  | .getfield w => cm_pr st fun c a t => cm_ck (Nat.beq c (w / 100)) (0 < a ∧ K nx ls (.inl (ch_I h a (w % 100 : Nat)) :: t) h)
  | .getstatic w => cm_pr st fun c a t => cm_ck (Nat.beq c (w / 10000)) (0 < a ∧ K nx ls (.inr (.inl (w % 100, ch_R h a (w / 100 % 100 : Nat))) :: t) h)
  | .putfield w => cm_p1 st fun v t => cm_pr t fun c a t => cm_ck (Nat.beq c (w / 100)) (0 < a ∧ K nx ls t (ch_u h a (w % 100 : Nat) v))
  | .ret w => cm_p1 st fun v t => cm_pr t fun c a t => cm_ck (Nat.beq c (w / 100)) ((v = 0 ∨ v = 1) ∧ 0 < a ∧ K nx ls t (ch_u h a (w % 100 : Nat) v))
  | .putstatic w => cm_pr st fun c2 b t => cm_pr t fun c a t => cm_ck (Nat.beq c (w / 10000)) (cm_ck (Nat.beq c2 (w % 100)) (0 < a ∧ K nx ls t (ch_r h a (w / 100 % 100 : Nat) b)))
  | .iaload => cm_p1 st fun i t => cm_pr t fun c a t => cm_ck (Nat.beq c 20) (0 < a ∧ 0 ≤ i ∧ i < ch_L h a ∧ K nx ls (.inl (ch_I h a i) :: t) h)
  | .baload => cm_p1 st fun i t => cm_pr t fun c a t => cm_ck (Nat.beq c 21 || Nat.beq c 22) (0 < a ∧ 0 ≤ i ∧ i < ch_L h a ∧ K nx ls (.inl (ch_I h a i) :: t) h)
  | .aaload => cm_p1 st fun i t => cm_pr t fun c a t => cm_ck (Nat.ble 23 c && Nat.ble c 25) (0 < a ∧ 0 ≤ i ∧ i < ch_L h a ∧ K nx ls (.inr (.inl (cm_ek c, ch_R h a i)) :: t) h)
  | .iastore => cm_p2 st fun i v t => cm_pr t fun c a t => cm_ck (Nat.beq c 20) (0 < a ∧ 0 ≤ i ∧ i < ch_L h a ∧ K nx ls t (ch_u h a i v))
  | .bastore => cm_p2 st fun i v t => cm_pr t fun c a t => cm_ck (Nat.beq c 21 || Nat.beq c 22) (((c = 21 ∧ -128 ≤ v ∧ v ≤ 127) ∨ v = 0 ∨ v = 1) ∧ 0 < a ∧ 0 ≤ i ∧ i < ch_L h a ∧ K nx ls t (ch_u h a i v))
  | .aastore => cm_pr st fun c2 b t => cm_p1 t fun i t => cm_pr t fun c a t => cm_ck (Nat.beq c 24 || Nat.beq c 25) (cm_ck (Nat.beq c2 (cm_ek c)) (0 < b ∧ 0 < a ∧ 0 ≤ i ∧ i < ch_L h a ∧ K nx ls t (ch_r h a i b)))
  | .arraylength => cm_pr st fun c a t => cm_ck (Nat.ble 20 c && Nat.ble c 25) (0 < a ∧ K nx ls (.inl (ch_L h a) :: t) h)
  | .new w => K nx ls (.inr (.inl (w / 100, ch_n h)) :: st) (ch_new h (w / 100) 0 (w % 100))
  | .newarray .int => cm_p1 st fun n t => (0 ≤ n ∧ n ≤ 1000000) ∧ K nx ls (.inr (.inl (20, ch_n h)) :: t) (ch_new h 20 n n.toNat)
  | .newarray .byte => cm_p1 st fun n t => (0 ≤ n ∧ n ≤ 1000000) ∧ K nx ls (.inr (.inl (21, ch_n h)) :: t) (ch_new h 21 n n.toNat)
  | .newarray .boolean => cm_p1 st fun n t => (0 ≤ n ∧ n ≤ 1000000) ∧ K nx ls (.inr (.inl (22, ch_n h)) :: t) (ch_new h 22 n n.toNat)
  | .anewarray w => cm_p1 st fun n t => (0 ≤ n ∧ n ≤ 1000000) ∧ K nx ls (.inr (.inl (w, ch_n h)) :: t) (ch_new h w n n.toNat)
  | .multianewarray _ _ => cm_p2 st fun n m t => (0 ≤ n ∧ n ≤ 1000 ∧ 0 ≤ m ∧ m ≤ 1000) ∧ K nx ls (.inr (.inl (23, ch_n h)) :: t) (ch_x (ch_news (ch_new h 23 n n.toNat) m m.toNat n.toNat) (ch_n h) (fun j => if 0 ≤ j ∧ j < n then ch_n h + 1 + j.toNat else 0))
  | .dup => cm_pv st fun v t => cm_ck (Nat.beq (cm_cat v) 1) (K nx ls (v :: v :: t) h)
  | .dup2 => cm_pv st fun v t => cm_pv t fun w t => cm_ck (Nat.beq (cm_cat v) 1 && Nat.beq (cm_cat w) 1) (K nx ls (v :: w :: v :: w :: t) h)
  | .pop => cm_pv st fun v t => cm_ck (Nat.beq (cm_cat v) 1) (K nx ls t h)
  | .invokespecial _ => cm_pr st fun c a t => cm_ck (Nat.ble (cm_sum t) 8) (0 < a ∧ K nx ls t h)
  | .invokedynamic _ => cm_p2 st fun j n t => cm_pr t fun c b t => cm_p1 t fun i t => cm_pr t fun e a t => cm_ck (Nat.beq c 20 && Nat.beq e 20 && Nat.ble (cm_sum t) 8) (0 < a ∧ 0 < b ∧ 0 ≤ i ∧ 0 ≤ j ∧ 0 ≤ n ∧ i + n ≤ ch_L h a ∧ j + n ≤ ch_L h b ∧ K nx ls t (ch_cp h a i b j n))
  | .invokeinterface m n => cm_pop n [] st fun as t => cm_ck (Nat.ble (cm_sum t) 8) (E m as h fun r h2 => K nx ls (cm_push r t) h2)
  | .ireturn => cm_p1 st fun v t => cm_ck t.isEmpty (Q (some (.inl v)) h)
  | .freturn => cm_p1 st fun v t => cm_ck t.isEmpty ((v = 0 ∨ v = 1) ∧ Q (some (.inl v)) h)
  | .areturn => cm_pr st fun c a t => cm_ck t.isEmpty (0 < a ∧ Q (some (.inr (.inl (c, a)))) h)
  | .return_ => cm_ck st.isEmpty (Q none h)
  | .athrow => Q cm_exc (ch_thr h)
  | _ => False
def cm_step (E : cm_E) (C : cm_C) (pc : Nat) (ls : cm_L) (st : List cm_V) (h : cm_H) (K : cm_K) (Q : cm_Q) : Prop := match C pc with
  | some (ins, nx) => cm_ins E ins nx ls st h K Q
  | none => False
/-- at most n instructions -/
def cm_wN (E : cm_E) (C : cm_C) (Q : cm_Q) : Nat → cm_K
  | 0 => fun _ _ _ _ => False
  | n + 1 => fun pc ls st h => cm_step E C pc ls st h (cm_wN E C Q n) Q
