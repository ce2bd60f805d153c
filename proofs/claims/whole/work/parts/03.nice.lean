/-! ONE LEAF: whatever an instruction asks for rests on one place of K, or on one end -/
def cm_ge (h h' : cm_H) : Prop := ch_c h ≤ ch_c h' ∧ ch_s h ≤ ch_s h'
theorem cm_ge.rf (h : cm_H) : cm_ge h h := ⟨Nat.le_refl _, Nat.le_refl _⟩
theorem cm_ge.tr {h h1 h2 : cm_H} (a : cm_ge h h1) (b : cm_ge h1 h2) : cm_ge h h2 := ⟨Nat.le_trans a.1 b.1, Nat.le_trans a.2 b.2⟩
theorem cm_ge_new (h : cm_H) (k : Nat) (len : Int) (sl : Nat) : cm_ge h (ch_new h k len sl) := ⟨Nat.le_succ _, Nat.le_add_right _ _⟩
theorem cm_ge_news (h : cm_H) (len : Int) (sl : Nat) : ∀ n, cm_ge h (ch_news h len sl n)
  | 0 => cm_ge.rf h
  | n + 1 => (cm_ge_news h len sl n).tr (cm_ge_new _ _ _ _)
theorem cm_ge_thr (h : cm_H) : cm_ge h (ch_thr h) := ⟨Nat.le_succ _, Nat.le_add_right _ _⟩
def cm_nice (h : cm_H) (F : cm_K → cm_Q → Prop) : Prop := ∀ K Q, F K Q →
  (∃ p l s h1, K p l s h1 ∧ cm_ge h h1 ∧ ∀ (K' : cm_K) (Q' : cm_Q), K' p l s h1 → F K' Q') ∨ (∃ r h1, Q r h1 ∧ cm_ge h h1 ∧ ∀ (K' : cm_K) (Q' : cm_Q), Q' r h1 → F K' Q')
def cm_niceE (E : cm_E) : Prop := ∀ k as h Q, E k as h Q → ∃ r h1, Q r h1 ∧ cm_ge h h1 ∧ ∀ Q' : cm_Q, Q' r h1 → E k as h Q'
theorem nice_F {h : cm_H} : cm_nice h (fun _ _ => False) := fun _ _ q => q.elim
theorem nice_K {h h1 : cm_H} {p : Nat} {l : cm_L} {s : List cm_V} (g : cm_ge h h1) : cm_nice h (fun K _ => K p l s h1) := fun _ _ q => Or.inl ⟨p, l, s, h1, q, g, fun _ _ z => z⟩
theorem nice_Q {h h1 : cm_H} {r : Option cm_V} (g : cm_ge h h1) : cm_nice h (fun _ Q => Q r h1) := fun _ _ q => Or.inr ⟨r, h1, q, g, fun _ _ z => z⟩
theorem nice_and {h : cm_H} {c : Prop} {F : cm_K → cm_Q → Prop} (H : cm_nice h F) : cm_nice h (fun K Q => c ∧ F K Q) := fun K Q q => by
  rcases H K Q q.2 with ⟨p, l, s, h1, a, b, e⟩ | ⟨r, h1, a, b, e⟩
  · exact Or.inl ⟨p, l, s, h1, a, b, fun K' Q' z => ⟨q.1, e K' Q' z⟩⟩
  · exact Or.inr ⟨r, h1, a, b, fun K' Q' z => ⟨q.1, e K' Q' z⟩⟩
theorem nice_br {h : cm_H} {c d : Prop} {F G : cm_K → cm_Q → Prop} (hd : d ↔ ¬ c) (H : cm_nice h F) (J : cm_nice h G) : cm_nice h (fun K Q => (c → F K Q) ∧ (d → G K Q)) := fun K Q q => by
  by_cases hc : c
  · rcases H K Q (q.1 hc) with ⟨p, l, s, h1, a, b, e⟩ | ⟨r, h1, a, b, e⟩
    · exact Or.inl ⟨p, l, s, h1, a, b, fun K' Q' z => ⟨fun _ => e K' Q' z, fun w => absurd hc (hd.mp w)⟩⟩
    · exact Or.inr ⟨r, h1, a, b, fun K' Q' z => ⟨fun _ => e K' Q' z, fun w => absurd hc (hd.mp w)⟩⟩
  · rcases J K Q (q.2 (hd.mpr hc)) with ⟨p, l, s, h1, a, b, e⟩ | ⟨r, h1, a, b, e⟩
    · exact Or.inl ⟨p, l, s, h1, a, b, fun K' Q' z => ⟨fun w => absurd w hc, fun _ => e K' Q' z⟩⟩
    · exact Or.inr ⟨r, h1, a, b, fun K' Q' z => ⟨fun w => absurd w hc, fun _ => e K' Q' z⟩⟩
theorem nice_p1 {h : cm_H} {st : List cm_V} {F : Int → List cm_V → cm_K → cm_Q → Prop} (H : ∀ x t, cm_nice h (F x t)) : cm_nice h (fun K Q => cm_p1 st fun x t => F x t K Q) := by
  unfold cm_p1
  split
  · exact H _ _
  · exact nice_F
theorem nice_p2 {h : cm_H} {st : List cm_V} {F : Int → Int → List cm_V → cm_K → cm_Q → Prop} (H : ∀ x y t, cm_nice h (F x y t)) : cm_nice h (fun K Q => cm_p2 st fun x y t => F x y t K Q) := by
  unfold cm_p2
  split
  · exact H _ _ _
  · exact nice_F
theorem nice_pr {h : cm_H} {st : List cm_V} {F : Nat → Nat → List cm_V → cm_K → cm_Q → Prop} (H : ∀ x y t, cm_nice h (F x y t)) : cm_nice h (fun K Q => cm_pr st fun x y t => F x y t K Q) := by
  unfold cm_pr
  split
  · exact H _ _ _
  · exact nice_F
theorem nice_pl {h : cm_H} {st : List cm_V} {F : Int → List cm_V → cm_K → cm_Q → Prop} (H : ∀ x t, cm_nice h (F x t)) : cm_nice h (fun K Q => cm_pl st fun x t => F x t K Q) := by
  unfold cm_pl
  split
  · exact H _ _
  · exact nice_F
theorem nice_pv {h : cm_H} {st : List cm_V} {F : cm_V → List cm_V → cm_K → cm_Q → Prop} (H : ∀ x t, cm_nice h (F x t)) : cm_nice h (fun K Q => cm_pv st fun x t => F x t K Q) := by
  unfold cm_pv
  split
  · exact H _ _
  · exact nice_F
theorem nice_gi {h : cm_H} {ls : cm_L} {i : Nat} {F : Int → cm_K → cm_Q → Prop} (H : ∀ x, cm_nice h (F x)) : cm_nice h (fun K Q => cm_gi ls i fun x => F x K Q) := by
  unfold cm_gi
  split
  · exact H _
  · exact nice_F
theorem nice_gl {h : cm_H} {ls : cm_L} {i : Nat} {F : Int → cm_K → cm_Q → Prop} (H : ∀ x, cm_nice h (F x)) : cm_nice h (fun K Q => cm_gl ls i fun x => F x K Q) := by
  unfold cm_gl
  split
  · exact H _
  · exact nice_F
theorem nice_gr {h : cm_H} {ls : cm_L} {i : Nat} {F : Nat → Nat → cm_K → cm_Q → Prop} (H : ∀ x y, cm_nice h (F x y)) : cm_nice h (fun K Q => cm_gr ls i fun x y => F x y K Q) := by
  unfold cm_gr
  split
  · exact H _ _
  · exact nice_F
theorem nice_ck {h : cm_H} {b : Bool} {F : cm_K → cm_Q → Prop} (H : cm_nice h F) : cm_nice h (fun K Q => cm_ck b (F K Q)) := by
  cases b
  · exact nice_F
  · exact H
theorem nice_cmp {h : cm_H} {c : ClassFile.Cond} {x y : Int} {F G : cm_K → cm_Q → Prop} (H : cm_nice h F) (J : cm_nice h G) : cm_nice h (fun K Q => cm_cmp c x y (F K Q) (G K Q)) := by
  cases c
  · exact nice_br (by omega) H J
  · exact nice_br (by omega) H J
  · exact nice_br (by omega) H J
  · exact nice_br (by omega) H J
  · exact nice_br (by omega) H J
  · exact nice_br (by omega) H J
theorem nice_sw {h : cm_H} {x d : Int} {F : Nat → cm_K → cm_Q → Prop} (H : ∀ t, cm_nice h (F t)) : ∀ ps : List (Int × Int), cm_nice h (fun K Q => cm_sw x d (fun t => F t K Q) ps)
  | [] => H _
  | (_, _) :: r => nice_br Iff.rfl (H _) (nice_sw H r)
theorem nice_pop {h : cm_H} {F : List cm_V → List cm_V → cm_K → cm_Q → Prop} (H : ∀ as t, cm_nice h (F as t)) : ∀ (n : Nat) (acc st : List cm_V), cm_nice h (fun K Q => cm_pop n acc st fun as t => F as t K Q)
  | 0, _, _ => H _ _
  | n + 1, acc, v :: t => nice_pop H n (v :: acc) t
  | _ + 1, _, [] => nice_F
theorem nice_E {E : cm_E} (hE : cm_niceE E) {h : cm_H} {m : Nat} {as : List cm_V} {nx : Nat} {ls : cm_L} {t : List cm_V} : cm_nice h (fun K _ => E m as h fun r h2 => K nx ls (cm_push r t) h2) := fun K Q q => by
  obtain ⟨r, h1, a, b, e⟩ := hE m as h _ q
  exact Or.inl ⟨nx, ls, cm_push r t, h1, a, b, fun K' Q' z => e _ z⟩
set_option maxHeartbeats 4000000 in
set_option maxRecDepth 100000 in
theorem nice_ins {E : cm_E} (hE : cm_niceE E) (ins : Instr) (nx : Nat) (ls : cm_L) (st : List cm_V) (h : cm_H) : cm_nice h (fun K Q => cm_ins E ins nx ls st h K Q) := by
  unfold cm_ins
  split
  all_goals first
    | exact nice_F
    | (repeat first
        | exact nice_K (cm_ge.rf h)
        | exact nice_K (cm_ge_new h _ _ _)
        | exact nice_K ((cm_ge_new h _ _ _).tr (cm_ge_news _ _ _ _))
        | exact nice_Q (cm_ge.rf h)
        | exact nice_Q (cm_ge_thr h)
        | exact nice_E hE
        | refine nice_and ?_
        | refine nice_ck ?_
        | refine nice_cmp ?_ ?_
        | refine nice_p1 fun _ _ => ?_
        | refine nice_p2 fun _ _ _ => ?_
        | refine nice_pr fun _ _ _ => ?_
        | refine nice_pl fun _ _ => ?_
        | refine nice_pv fun _ _ => ?_
        | refine nice_gi fun _ => ?_
        | refine nice_gl fun _ => ?_
        | refine nice_gr fun _ _ => ?_
        | refine nice_pop (fun _ _ => ?_) _ _ _
        | refine nice_sw (fun _ => ?_) _)
theorem nice_step {E : cm_E} (hE : cm_niceE E) (C : cm_C) (pc : Nat) (ls : cm_L) (st : List cm_V) (h : cm_H) : cm_nice h (fun K Q => cm_step E C pc ls st h K Q) := by
  unfold cm_step
  split
  · exact nice_ins hE _ _ _ _ _
  · exact nice_F
theorem cm_wN_leaf {E : cm_E} (hE : cm_niceE E) {C : cm_C} {Q : cm_Q} : ∀ (n pc : Nat) (ls : cm_L) (st : List cm_V) (h : cm_H), cm_wN E C Q n pc ls st h → ∃ r h1, Q r h1 ∧ cm_ge h h1 ∧ ∀ Q' : cm_Q, Q' r h1 → cm_wN E C Q' n pc ls st h
  | 0, _, _, _, _, q => q.elim
  | n + 1, pc, ls, st, h, q => by
    rcases nice_step hE C pc ls st h _ _ q with ⟨p, l, s, h1, a, b, e⟩ | ⟨r, h1, a, b, e⟩
    · obtain ⟨r, h2, a2, b2, e2⟩ := cm_wN_leaf hE n p l s h1 a
      exact ⟨r, h2, a2, b.tr b2, fun Q' z => e _ Q' (e2 Q' z)⟩
    · exact ⟨r, h1, a, b, fun Q' z => e _ Q' z⟩
/-- a place of the code: from here the method ends in Q -/
def cm_w (E : cm_E) (C : cm_C) (Q : cm_Q) : cm_K := fun pc ls st h => ∃ n, cm_wN E C Q n pc ls st h
theorem cm_w_step {E : cm_E} (hE : cm_niceE E) {C : cm_C} {Q : cm_Q} {pc : Nat} {ls : cm_L} {st : List cm_V} {h : cm_H} (q : cm_step E C pc ls st h (cm_w E C Q) Q) : cm_w E C Q pc ls st h := by
  rcases nice_step hE C pc ls st h _ _ q with ⟨p, l, s, h1, ⟨n, a⟩, b, e⟩ | ⟨r, h1, a, b, e⟩
  · exact ⟨n + 1, e _ Q a⟩
  · exact ⟨1, e _ Q a⟩
theorem cm_w_leaf {E : cm_E} (hE : cm_niceE E) {C : cm_C} {Q : cm_Q} {pc : Nat} {ls : cm_L} {st : List cm_V} {h : cm_H} (q : cm_w E C Q pc ls st h) : ∃ r h1, Q r h1 ∧ cm_ge h h1 ∧ ∀ Q' : cm_Q, Q' r h1 → cm_w E C Q' pc ls st h := by
  obtain ⟨n, q⟩ := q
  obtain ⟨r, h1, a, b, e⟩ := cm_wN_leaf hE n pc ls st h q
  exact ⟨r, h1, a, b, fun Q' z => ⟨n, e Q' z⟩⟩
