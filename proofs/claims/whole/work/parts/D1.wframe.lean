/-! THE FRAME RULE: what cannot be reached is left alone (S: the addresses that are not reached) -/
def fv (S : Nat → Prop) (v : cm_V) : Prop := match v with
  | .inr (.inl (_, a)) => ¬ S a
  | _ => True
def fl (S : Nat → Prop) (ls : cm_L) : Prop := ∀ v, some v ∈ ls → fv S v
def fk (S : Nat → Prop) (st : List cm_V) : Prop := ∀ v, v ∈ st → fv S v
def fh (S : Nat → Prop) (h : cm_H) : Prop := ¬ S 0 ∧ (∀ a j, ¬ S a → ¬ S (ch_R h a j)) ∧ ∀ a, ch_n h ≤ a → ¬ S a
def fq (S : Nat → Prop) (h g : cm_H) : Prop := ∀ a, S a → ch_I g a = ch_I h a ∧ ch_R g a = ch_R h a ∧ ch_L g a = ch_L h a ∧ ch_T g a = ch_T h a
def fm (S : Nat → Prop) (h : cm_H) (F : cm_K → cm_Q → Prop) : Prop := ∀ (K : cm_K) (Q : cm_Q), F K Q → F (fun p l s g => K p l s g ∧ fl S l ∧ fk S s ∧ fh S g ∧ fq S h g) (fun r g => Q r g ∧ (∀ v, r = some v → fv S v) ∧ fh S g ∧ fq S h g)
def fmE (S : Nat → Prop) (E : cm_E) : Prop := ∀ k as h (Q : cm_Q), fk S as → fh S h → E k as h Q → E k as h fun r g => Q r g ∧ (∀ v, r = some v → fv S v) ∧ fh S g ∧ fq S h g
section FRM
variable {S : Nat → Prop} {h : cm_H}
theorem fq_rf : fq S h h := fun _ _ => ⟨rfl, rfl, rfl, rfl⟩
theorem fq_tr {g g1 : cm_H} (a : fq S h g) (b : fq S g g1) : fq S h g1 := fun x hx => ⟨(b x hx).1.trans (a x hx).1, (b x hx).2.1.trans (a x hx).2.1, (b x hx).2.2.1.trans (a x hx).2.2.1, (b x hx).2.2.2.trans (a x hx).2.2.2⟩
theorem fk_c {v : cm_V} {t : List cm_V} (a : fv S v) (b : fk S t) : fk S (v :: t) := fun x hx => by
  rcases List.mem_cons.mp hx with e | e
  · rw [e]; exact a
  · exact b x e
theorem fk_h {v : cm_V} {t : List cm_V} (a : fk S (v :: t)) : fv S v := a v (List.mem_cons_self ..)
theorem fk_t {v : cm_V} {t : List cm_V} (a : fk S (v :: t)) : fk S t := fun x hx => a x (List.mem_cons_of_mem _ hx)
theorem fk_n : fk S [] := fun _ hx => by simp at hx
theorem fv_i {x : Int} : fv S (.inl x) := trivial
theorem fv_l {x : Int} : fv S (.inr (.inr x)) := trivial
theorem fl_set {ls : cm_L} {v : cm_V} (i : Nat) (a : fl S ls) (b : fv S v) : fl S (ls.set i (some v)) := fun x hx => by
  rcases List.mem_or_eq_of_mem_set hx with e | e
  · exact a x e
  · rw [Option.some.inj e]; exact b
theorem fl_setn {ls : cm_L} (i : Nat) (a : fl S ls) : fl S (ls.set i none) := fun x hx => by
  rcases List.mem_or_eq_of_mem_set hx with e | e
  · exact a x e
  · exact absurd e (by simp)
theorem cm_get_mem : ∀ (ls : cm_L) (i : Nat) (v : cm_V), cm_get ls i = some v → some v ∈ ls
  | [], _, _, e => by simp [cm_get] at e
  | x :: t, 0, v, e => by
    have : x = some v := e
    rw [this]; exact List.mem_cons_self ..
  | x :: t, i + 1, v, e => List.mem_cons_of_mem _ (cm_get_mem t i v e)
theorem fh_u {a : Nat} {i v : Int} (f : fh S h) : fh S (ch_u h a i v) := f
theorem fq_w {a : Nat} {f : Int → Int} (n : ¬ S a) : fq S h (ch_w h a f) := fun x hx => by
  refine ⟨?_, rfl, rfl, rfl⟩
  show (if x = a then f else h.1 x) = h.1 x
  rw [if_neg]
  intro e; rw [e] at hx; exact n hx
theorem fh_x {a : Nat} {g : Int → Nat} (f : fh S h) (hg : ∀ j, ¬ S (g j)) : fh S (ch_x h a g) := ⟨f.1, fun b j hb => by
  show ¬ S ((if b = a then g else h.2.1 b) j)
  by_cases e : b = a
  · rw [if_pos e]; exact hg j
  · rw [if_neg e]; exact f.2.1 b j hb, f.2.2⟩
theorem fq_x {a : Nat} {g : Int → Nat} (n : ¬ S a) : fq S h (ch_x h a g) := fun x hx => by
  refine ⟨rfl, ?_, rfl, rfl⟩
  show (if x = a then g else h.2.1 x) = h.2.1 x
  rw [if_neg]
  intro e; rw [e] at hx; exact n hx
theorem fh_r {a b : Nat} {i : Int} (f : fh S h) (n : ¬ S a) (hb : ¬ S b) : fh S (ch_r h a i b) := fh_x f fun j => by
  show ¬ S (if j = i then b else ch_R h a j)
  by_cases e : j = i
  · rw [if_pos e]; exact hb
  · rw [if_neg e]; exact f.2.1 a j n
theorem fh_new {k : Nat} {len : Int} {sl : Nat} (f : fh S h) : fh S (ch_new h k len sl) := ⟨f.1, fun b j hb => by
  show ¬ S ((if b = h.2.2.2.2.1 then (fun _ => 0) else h.2.1 b) j)
  by_cases e : b = h.2.2.2.2.1
  · rw [if_pos e]; exact f.1
  · rw [if_neg e]; exact f.2.1 b j hb, fun a ha => f.2.2 a (Nat.le_trans (Nat.le_succ _) ha)⟩
theorem fq_new {k : Nat} {len : Int} {sl : Nat} (f : fh S h) : fq S h (ch_new h k len sl) := fun x hx => by
  have ne : ¬ x = h.2.2.2.2.1 := fun e => f.2.2 x (by rw [e]; exact Nat.le_refl _) hx
  refine ⟨?_, ?_, ?_, ?_⟩
  · show (if x = h.2.2.2.2.1 then _ else h.1 x) = h.1 x
    rw [if_neg ne]
  · show (if x = h.2.2.2.2.1 then _ else h.2.1 x) = h.2.1 x
    rw [if_neg ne]
  · show (if x = h.2.2.2.2.1 then _ else h.2.2.1 x) = h.2.2.1 x
    rw [if_neg ne]
  · show (if x = h.2.2.2.2.1 then _ else h.2.2.2.1 x) = h.2.2.2.1 x
    rw [if_neg ne]
theorem f_news (f : fh S h) (len : Int) (sl : Nat) : ∀ n, fh S (ch_news h len sl n) ∧ fq S h (ch_news h len sl n)
  | 0 => ⟨f, fq_rf⟩
  | n + 1 => ⟨fh_new (f_news f len sl n).1, fq_tr (f_news f len sl n).2 (fq_new (f_news f len sl n).1)⟩
theorem f_nwM (f : fh S h) (n m : Int) (k : Nat) : fh S (ch_x (ch_news (ch_new h 23 n k) m m.toNat n.toNat) (ch_n h) (fun j => if 0 ≤ j ∧ j < n then ch_n h + 1 + j.toNat else 0)) ∧ fq S h (ch_x (ch_news (ch_new h 23 n k) m m.toNat n.toNat) (ch_n h) (fun j => if 0 ≤ j ∧ j < n then ch_n h + 1 + j.toNat else 0)) := by
  have f1 := f_news (fh_new (k := 23) (len := n) (sl := k) f) m m.toNat n.toNat
  refine ⟨fh_x f1.1 fun j => ?_, fq_tr (fq_tr (fq_new f) f1.2) (fq_x (f.2.2 _ (Nat.le_refl _)))⟩
  by_cases e : 0 ≤ j ∧ j < n
  · rw [if_pos e]; exact f.2.2 _ (by omega)
  · rw [if_neg e]; exact f.1
theorem fm_F : fm S h (fun _ _ => False) := fun _ _ q => q.elim
theorem fm_K {g : cm_H} {p : Nat} {l : cm_L} {s : List cm_V} (a : fl S l) (b : fk S s) (c : fh S g ∧ fq S h g) : fm S h (fun K _ => K p l s g) := fun _ _ q => ⟨q, a, b, c.1, c.2⟩
theorem fm_Q {g : cm_H} {r : Option cm_V} (a : ∀ v, r = some v → fv S v) (c : fh S g ∧ fq S h g) : fm S h (fun _ Q => Q r g) := fun _ _ q => ⟨q, a, c.1, c.2⟩
theorem fm_and {x : Prop} {F : cm_K → cm_Q → Prop} (H : fm S h F) : fm S h (fun K Q => x ∧ F K Q) := fun K Q q => ⟨q.1, H K Q q.2⟩
theorem fm_imp2 {x y : Prop} {F G : cm_K → cm_Q → Prop} (H : fm S h F) (J : fm S h G) : fm S h (fun K Q => (x → F K Q) ∧ (y → G K Q)) := fun K Q q => ⟨fun w => H K Q (q.1 w), fun w => J K Q (q.2 w)⟩
theorem fm_p1 {st : List cm_V} (b : fk S st) {F : Int → List cm_V → cm_K → cm_Q → Prop} (H : ∀ x t, fk S t → fm S h (F x t)) : fm S h (fun K Q => cm_p1 st fun x t => F x t K Q) := by
  unfold cm_p1
  split
  · exact H _ _ (fk_t b)
  · exact fm_F
theorem fm_p2 {st : List cm_V} (b : fk S st) {F : Int → Int → List cm_V → cm_K → cm_Q → Prop} (H : ∀ x y t, fk S t → fm S h (F x y t)) : fm S h (fun K Q => cm_p2 st fun x y t => F x y t K Q) := by
  unfold cm_p2
  split
  · exact H _ _ _ (fk_t (fk_t b))
  · exact fm_F
theorem fm_pr {st : List cm_V} (b : fk S st) {F : Nat → Nat → List cm_V → cm_K → cm_Q → Prop} (H : ∀ x y t, ¬ S y → fk S t → fm S h (F x y t)) : fm S h (fun K Q => cm_pr st fun x y t => F x y t K Q) := by
  unfold cm_pr
  split
  · exact H _ _ _ (fk_h b) (fk_t b)
  · exact fm_F
theorem fm_pl {st : List cm_V} (b : fk S st) {F : Int → List cm_V → cm_K → cm_Q → Prop} (H : ∀ x t, fk S t → fm S h (F x t)) : fm S h (fun K Q => cm_pl st fun x t => F x t K Q) := by
  unfold cm_pl
  split
  · exact H _ _ (fk_t b)
  · exact fm_F
theorem fm_pv {st : List cm_V} (b : fk S st) {F : cm_V → List cm_V → cm_K → cm_Q → Prop} (H : ∀ x t, fv S x → fk S t → fm S h (F x t)) : fm S h (fun K Q => cm_pv st fun x t => F x t K Q) := by
  unfold cm_pv
  split
  · exact H _ _ (fk_h b) (fk_t b)
  · exact fm_F
theorem fm_gi {ls : cm_L} {i : Nat} {F : Int → cm_K → cm_Q → Prop} (H : ∀ x, fm S h (F x)) : fm S h (fun K Q => cm_gi ls i fun x => F x K Q) := by
  unfold cm_gi
  split
  · exact H _
  · exact fm_F
theorem fm_gl {ls : cm_L} {i : Nat} {F : Int → cm_K → cm_Q → Prop} (H : ∀ x, fm S h (F x)) : fm S h (fun K Q => cm_gl ls i fun x => F x K Q) := by
  unfold cm_gl
  split
  · exact H _
  · exact fm_F
theorem fm_gr {ls : cm_L} (b : fl S ls) {i : Nat} {F : Nat → Nat → cm_K → cm_Q → Prop} (H : ∀ x y, ¬ S y → fm S h (F x y)) : fm S h (fun K Q => cm_gr ls i fun x y => F x y K Q) := by
  unfold cm_gr
  split
  · next c a e => exact H _ _ (b _ (cm_get_mem _ _ _ e))
  · exact fm_F
theorem fm_ck {b : Bool} {F : cm_K → cm_Q → Prop} (H : fm S h F) : fm S h (fun K Q => cm_ck b (F K Q)) := by
  cases b
  · exact fm_F
  · exact H
theorem fm_cmp {x : ClassFile.Cond} {y y' : Int} {F G : cm_K → cm_Q → Prop} (H : fm S h F) (J : fm S h G) : fm S h (fun K Q => cm_cmp x y y' (F K Q) (G K Q)) := by
  cases x
  · exact fm_imp2 H J
  · exact fm_imp2 H J
  · exact fm_imp2 H J
  · exact fm_imp2 H J
  · exact fm_imp2 H J
  · exact fm_imp2 H J
theorem fm_sw {x y : Int} {F : Nat → cm_K → cm_Q → Prop} (H : ∀ t, fm S h (F t)) : ∀ ps : List (Int × Int), fm S h (fun K Q => cm_sw x y (fun t => F t K Q) ps)
  | [] => H _
  | (_, _) :: r => fm_imp2 (H _) (fm_sw H r)
theorem fm_pop {F : List cm_V → List cm_V → cm_K → cm_Q → Prop} (H : ∀ as t, fk S as → fk S t → fm S h (F as t)) : ∀ (n : Nat) (acc st : List cm_V), fk S acc → fk S st → fm S h (fun K Q => cm_pop n acc st fun as t => F as t K Q)
  | 0, _, _, a, b => H _ _ a b
  | n + 1, acc, v :: t, a, b => fm_pop H n (v :: acc) t (fk_c (fk_h b) a) (fk_t b)
  | _ + 1, _, [], _, _ => fm_F
theorem fk_push {r : Option cm_V} {t : List cm_V} (a : ∀ v, r = some v → fv S v) (b : fk S t) : fk S (cm_push r t) := by
  cases r with
  | none => exact b
  | some v => exact fk_c (a v rfl) b
theorem fm_E {E : cm_E} (hE : cm_niceE E) (hb : fmE S E) (f : fh S h) {m : Nat} {as : List cm_V} {nx : Nat} {ls : cm_L} {t : List cm_V} (a : fl S ls) (b : fk S as) (c : fk S t) : fm S h (fun K _ => E m as h fun r h2 => K nx ls (cm_push r t) h2) := fun K Q q => by
  obtain ⟨r, g, ⟨w, e1, e2, e3⟩, _, e⟩ := hE _ _ _ _ (hb m as h _ b f q)
  exact e _ ⟨w, a, fk_push e1 c, e2, e3⟩
theorem fh_thr (f : fh S h) : fh S (ch_thr h) ∧ fq S h (ch_thr h) := ⟨f, fq_rf⟩
set_option maxHeartbeats 4000000 in
set_option maxRecDepth 100000 in
theorem fm_ins {E : cm_E} (hE : cm_niceE E) (hb : fmE S E) (ins : Instr) (nx : Nat) (ls : cm_L) (st : List cm_V) (a : fl S ls) (b : fk S st) (f : fh S h) (f0 : ¬ S 0) (f99 : fv S (.inr (.inl (99, 0)))) : fm S h (fun K Q => cm_ins E ins nx ls st h K Q) := by
  have ff : fh S h ∧ fq S h h := ⟨f, fq_rf⟩
  unfold cm_ins
  split
  all_goals first
    | exact fm_F
    | (repeat first
        | exact fm_K a (fk_c fv_i ‹_›) ff
        | exact fm_K a (fk_c fv_l ‹_›) ff
        | exact fm_K a (fk_c (show fv S (.inr (.inl (_, _))) from ‹_›) ‹_›) ff
        | exact fm_K a (fk_c (show fv S (.inr (.inl (_, _))) from f.2.1 _ _ ‹_›) ‹_›) ff
        | exact fm_K a ‹_› ff
        | exact fm_K (fl_set _ a fv_i) ‹_› ff
        | exact fm_K (fl_setn _ (fl_set _ a fv_l)) ‹_› ff
        | exact fm_K (fl_set _ a (show fv S (.inr (.inl (_, _))) from ‹_›)) ‹_› ff
        | exact fm_K a ‹_› ⟨f, fq_w ‹_›⟩
        | exact fm_K a ‹_› ⟨fh_r f ‹_› ‹_›, fq_x ‹_›⟩
        | exact fm_K a (fk_c (show fv S (.inr (.inl (_, _))) from f.2.2 _ (Nat.le_refl _)) ‹_›) ⟨fh_new f, fq_new f⟩
        | exact fm_K a (fk_c (show fv S (.inr (.inl (_, _))) from f.2.2 _ (Nat.le_refl _)) ‹_›) (f_nwM f _ _ _)
        | exact fm_K a (fk_c ‹_› (fk_c ‹_› ‹_›)) ff
        | exact fm_K a (fk_c ‹fv S _› (fk_c ‹fv S _› (fk_c ‹fv S _› (fk_c ‹fv S _› ‹_›)))) ff
        | exact fm_Q (fun v e => by cases e; exact fv_i) ff
        | exact fm_Q (fun v e => by cases e; exact (show fv S (.inr (.inl (_, _))) from ‹_›)) ff
        | exact fm_Q (fun v e => by cases e) ff
        | exact fm_Q (fun v e => by cases e; exact f99) (fh_thr f)
        | exact fm_E hE hb f a ‹_› ‹_›
        | refine fm_and ?_
        | refine fm_ck ?_
        | refine fm_cmp ?_ ?_
        | refine fm_p1 ‹_› fun _ _ _ => ?_
        | refine fm_p2 ‹_› fun _ _ _ _ => ?_
        | refine fm_pr ‹_› fun _ _ _ _ _ => ?_
        | refine fm_pl ‹_› fun _ _ _ => ?_
        | refine fm_pv ‹_› fun _ _ _ _ => ?_
        | refine fm_gi fun _ => ?_
        | refine fm_gl fun _ => ?_
        | refine fm_gr a fun _ _ _ => ?_
        | refine fm_pop (fun _ _ _ _ => ?_) _ _ _ fk_n b
        | refine fm_sw (fun _ => ?_) _)
end FRM
