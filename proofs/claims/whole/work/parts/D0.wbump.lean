/-! WHERE NOTHING IS MADE the next address does not matter -/
def bp (M : Nat) (h : cm_H) : cm_H := (h.1, h.2.1, h.2.2.1, h.2.2.2.1, M, h.2.2.2.2.2)
def bm (M c : Nat) (F F' : cm_K → cm_Q → Prop) : Prop := ∀ (K K' : cm_K) (Q Q' : cm_Q), (∀ p l s g, K p l s g → ch_c g ≤ c) → (∀ p l s g, ch_c g = c → K p l s g → K' p l s (bp M g)) → (∀ r g, Q r g → ch_c g ≤ c) → (∀ r g, ch_c g = c → Q r g → Q' r (bp M g)) → F K Q → F' K' Q'
def bmE (M : Nat) (E : cm_E) : Prop := ∀ k as h (Q : cm_Q), E k as h Q → (∀ r g, Q r g → ch_c g ≤ ch_c h) → E k as (bp M h) fun r h' => ∃ g, ch_c g = ch_c h ∧ h' = bp M g ∧ Q r g
section BUMP
variable {M c : Nat}
theorem bm_F {F' : cm_K → cm_Q → Prop} : bm M c (fun _ _ => False) F' := fun _ _ _ _ _ _ _ _ q => q.elim
theorem bm_K {g : cm_H} {p : Nat} {l : cm_L} {s : List cm_V} (hg : ch_c g = c) : bm M c (fun K _ => K p l s g) (fun K _ => K p l s (bp M g)) := fun _ _ _ _ _ a _ _ q => a _ _ _ _ hg q
theorem bm_Q {g : cm_H} {r : Option cm_V} (hg : ch_c g = c) : bm M c (fun _ Q => Q r g) (fun _ Q => Q r (bp M g)) := fun _ _ _ _ _ _ _ a q => a _ _ hg q
theorem bm_nK {g : cm_H} {p : Nat} {l : cm_L} {s : List cm_V} {F' : cm_K → cm_Q → Prop} (hg : c < ch_c g) : bm M c (fun K _ => K p l s g) F' := fun _ _ _ _ a _ _ _ q => absurd (a _ _ _ _ q) (by omega)
theorem bm_nQ {g : cm_H} {r : Option cm_V} {F' : cm_K → cm_Q → Prop} (hg : c < ch_c g) : bm M c (fun _ Q => Q r g) F' := fun _ _ _ _ _ _ a _ q => absurd (a _ _ q) (by omega)
theorem bm_and {x : Prop} {F F' : cm_K → cm_Q → Prop} (H : bm M c F F') : bm M c (fun K Q => x ∧ F K Q) (fun K Q => x ∧ F' K Q) := fun K K' Q Q' a b e f q => ⟨q.1, H K K' Q Q' a b e f q.2⟩
theorem bm_imp2 {x y : Prop} {F F' G G' : cm_K → cm_Q → Prop} (H : bm M c F F') (J : bm M c G G') : bm M c (fun K Q => (x → F K Q) ∧ (y → G K Q)) (fun K Q => (x → F' K Q) ∧ (y → G' K Q)) := fun K K' Q Q' a b e f q => ⟨fun w => H K K' Q Q' a b e f (q.1 w), fun w => J K K' Q Q' a b e f (q.2 w)⟩
theorem bm_p1 {st : List cm_V} {F F' : Int → List cm_V → cm_K → cm_Q → Prop} (H : ∀ x t, bm M c (F x t) (F' x t)) : bm M c (fun K Q => cm_p1 st fun x t => F x t K Q) (fun K Q => cm_p1 st fun x t => F' x t K Q) := by
  unfold cm_p1
  split
  · exact H _ _
  · exact bm_F
theorem bm_p2 {st : List cm_V} {F F' : Int → Int → List cm_V → cm_K → cm_Q → Prop} (H : ∀ x y t, bm M c (F x y t) (F' x y t)) : bm M c (fun K Q => cm_p2 st fun x y t => F x y t K Q) (fun K Q => cm_p2 st fun x y t => F' x y t K Q) := by
  unfold cm_p2
  split
  · exact H _ _ _
  · exact bm_F
theorem bm_pr {st : List cm_V} {F F' : Nat → Nat → List cm_V → cm_K → cm_Q → Prop} (H : ∀ x y t, bm M c (F x y t) (F' x y t)) : bm M c (fun K Q => cm_pr st fun x y t => F x y t K Q) (fun K Q => cm_pr st fun x y t => F' x y t K Q) := by
  unfold cm_pr
  split
  · exact H _ _ _
  · exact bm_F
theorem bm_pl {st : List cm_V} {F F' : Int → List cm_V → cm_K → cm_Q → Prop} (H : ∀ x t, bm M c (F x t) (F' x t)) : bm M c (fun K Q => cm_pl st fun x t => F x t K Q) (fun K Q => cm_pl st fun x t => F' x t K Q) := by
  unfold cm_pl
  split
  · exact H _ _
  · exact bm_F
theorem bm_pv {st : List cm_V} {F F' : cm_V → List cm_V → cm_K → cm_Q → Prop} (H : ∀ x t, bm M c (F x t) (F' x t)) : bm M c (fun K Q => cm_pv st fun x t => F x t K Q) (fun K Q => cm_pv st fun x t => F' x t K Q) := by
  unfold cm_pv
  split
  · exact H _ _
  · exact bm_F
theorem bm_gi {ls : cm_L} {i : Nat} {F F' : Int → cm_K → cm_Q → Prop} (H : ∀ x, bm M c (F x) (F' x)) : bm M c (fun K Q => cm_gi ls i fun x => F x K Q) (fun K Q => cm_gi ls i fun x => F' x K Q) := by
  unfold cm_gi
  split
  · exact H _
  · exact bm_F
theorem bm_gl {ls : cm_L} {i : Nat} {F F' : Int → cm_K → cm_Q → Prop} (H : ∀ x, bm M c (F x) (F' x)) : bm M c (fun K Q => cm_gl ls i fun x => F x K Q) (fun K Q => cm_gl ls i fun x => F' x K Q) := by
  unfold cm_gl
  split
  · exact H _
  · exact bm_F
theorem bm_gr {ls : cm_L} {i : Nat} {F F' : Nat → Nat → cm_K → cm_Q → Prop} (H : ∀ x y, bm M c (F x y) (F' x y)) : bm M c (fun K Q => cm_gr ls i fun x y => F x y K Q) (fun K Q => cm_gr ls i fun x y => F' x y K Q) := by
  unfold cm_gr
  split
  · exact H _ _
  · exact bm_F
theorem bm_ck {b : Bool} {F F' : cm_K → cm_Q → Prop} (H : bm M c F F') : bm M c (fun K Q => cm_ck b (F K Q)) (fun K Q => cm_ck b (F' K Q)) := by
  cases b
  · exact bm_F
  · exact H
theorem bm_cmp {x : ClassFile.Cond} {y y' : Int} {F F' G G' : cm_K → cm_Q → Prop} (H : bm M c F F') (J : bm M c G G') : bm M c (fun K Q => cm_cmp x y y' (F K Q) (G K Q)) (fun K Q => cm_cmp x y y' (F' K Q) (G' K Q)) := by
  cases x
  · exact bm_imp2 H J
  · exact bm_imp2 H J
  · exact bm_imp2 H J
  · exact bm_imp2 H J
  · exact bm_imp2 H J
  · exact bm_imp2 H J
theorem bm_sw {x y : Int} {F F' : Nat → cm_K → cm_Q → Prop} (H : ∀ t, bm M c (F t) (F' t)) : ∀ ps : List (Int × Int), bm M c (fun K Q => cm_sw x y (fun t => F t K Q) ps) (fun K Q => cm_sw x y (fun t => F' t K Q) ps)
  | [] => H _
  | (_, _) :: r => bm_imp2 (H _) (bm_sw H r)
theorem bm_pop {F F' : List cm_V → List cm_V → cm_K → cm_Q → Prop} (H : ∀ as t, bm M c (F as t) (F' as t)) : ∀ (n : Nat) (acc st : List cm_V), bm M c (fun K Q => cm_pop n acc st fun as t => F as t K Q) (fun K Q => cm_pop n acc st fun as t => F' as t K Q)
  | 0, _, _ => H _ _
  | n + 1, acc, v :: t => bm_pop H n (v :: acc) t
  | _ + 1, _, [] => bm_F
theorem bm_E {E : cm_E} (hE : cm_niceE E) (hb : bmE M E) {h : cm_H} (hc : ch_c h = c) {m : Nat} {as : List cm_V} {nx : Nat} {ls : cm_L} {t : List cm_V} : bm M c (fun K _ => E m as h fun r h2 => K nx ls (cm_push r t) h2) (fun K _ => E m as (bp M h) fun r h2 => K nx ls (cm_push r t) h2) := fun K K' Q Q' a b _ _ q => by
  have := hb m as h _ q fun r g w => by rw [hc]; exact a _ _ _ _ w
  obtain ⟨r, h1, ⟨g, e1, e2, w⟩, _, e⟩ := hE _ _ _ _ this
  refine e _ ?_
  rw [e2]
  exact b _ _ _ _ (by rw [e1, hc]) w
theorem ch_c_news (h : cm_H) (len : Int) (sl : Nat) : ∀ n, ch_c h ≤ ch_c (ch_news h len sl n) := fun n => (cm_ge_news h len sl n).1
set_option maxHeartbeats 4000000 in
set_option maxRecDepth 100000 in
theorem bm_ins {E : cm_E} (hE : cm_niceE E) (hb : bmE M E) (ins : Instr) (nx : Nat) (ls : cm_L) (st : List cm_V) (h : cm_H) (hc : ch_c h = c) : bm M c (fun K Q => cm_ins E ins nx ls st h K Q) (fun K Q => cm_ins E ins nx ls st (bp M h) K Q) := by
  unfold cm_ins
  split
  all_goals first
    | exact bm_F
    | (repeat first
        | exact bm_K (M := M) (g := h) hc
        | exact bm_K (M := M) (g := ch_u h _ _ _) hc
        | exact bm_K (M := M) (g := ch_r h _ _ _) hc
        | exact bm_K (M := M) (g := ch_cp h _ _ _ _ _) hc
        | exact bm_nK (g := ch_new h _ _ _) (by rw [← hc]; exact Nat.lt_succ_self _)
        | exact bm_nK (Nat.lt_of_lt_of_le (by rw [← hc]; exact Nat.lt_succ_self _) (ch_c_news (ch_new h 23 _ _) _ _ _))
        | exact bm_Q (M := M) (g := h) hc
        | exact bm_nQ (g := ch_thr h) (by rw [← hc]; exact Nat.lt_succ_self _)
        | exact bm_E hE hb hc
        | refine bm_and ?_
        | refine bm_ck ?_
        | refine bm_cmp ?_ ?_
        | refine bm_p1 fun _ _ => ?_
        | refine bm_p2 fun _ _ _ => ?_
        | refine bm_pr fun _ _ _ => ?_
        | refine bm_pl fun _ _ => ?_
        | refine bm_pv fun _ _ => ?_
        | refine bm_gi fun _ => ?_
        | refine bm_gl fun _ => ?_
        | refine bm_gr fun _ _ => ?_
        | refine bm_pop (fun _ _ => ?_) _ _ _
        | refine bm_sw (fun _ => ?_) _)
theorem bm_wN {E : cm_E} (hE : cm_niceE E) (hb : bmE M E) {C : cm_C} {Q Q' : cm_Q} (a : ∀ r g, Q r g → ch_c g ≤ c) (b : ∀ r g, ch_c g = c → Q r g → Q' r (bp M g)) : ∀ (n pc : Nat) (ls : cm_L) (st : List cm_V) (h : cm_H), ch_c h = c → cm_wN E C Q n pc ls st h → cm_wN E C Q' n pc ls st (bp M h)
  | 0, _, _, _, _, _, q => q.elim
  | n + 1, pc, ls, st, h, hc, q => by
    unfold cm_wN cm_step at q ⊢
    cases hp : C pc with
    | none => rw [hp] at q; exact q.elim
    | some w =>
      rw [hp] at q
      exact bm_ins hE hb w.1 w.2 ls st h hc _ _ _ _ (fun p l s g w => by
        obtain ⟨r, h1, w1, w2, _⟩ := cm_wN_leaf hE n p l s g w
        exact Nat.le_trans w2.1 (a r h1 w1)) (fun p l s g e w => bm_wN hE hb a b n p l s g e w) a b q
theorem bmE_call : ∀ d, bmE M (cm_call d)
  | 0 => fun _ _ _ _ q => q.elim
  | d + 1 => fun k as h Q q a => by
    unfold cm_call at q ⊢
    cases hb : (Nat.ble (cm_ent as).length (cm_maxL k) && cm_lok (cm_LI k) 0 (cm_ent as) && cm_rk (cm_ow k) as) with
    | false => rw [hb] at q; exact q.elim
    | true =>
      rw [hb] at q
      obtain ⟨q1, n, q2⟩ := q
      exact ⟨q1, n, bm_wN (cm_call_nice d) (bmE_call d) a (fun r g e w => ⟨g, e, rfl, w⟩) n 0 _ [] h rfl q2⟩
end BUMP
/-- a call that makes nothing, at another next address -/
def zb (M : Nat) (z : cm_Z) : cm_Z := (z.1, z.2.1, z.2.2.1, M, z.2.2.2.2)
theorem mI_zb {M d k : Nat} {as : List cm_V} {z : cm_Z} {I : cm_I} {P : Int → cm_I → Prop} (h : mI d k as z I P) : mI d k as (zb M z) I P := by
  have := bmE_call (M := M) d k as (I, z) _ h fun r g ⟨v, I1, e1, e2, p⟩ => by rw [e2]; exact Nat.le_refl _
  refine cm_call_mono this fun r h1 ⟨g, e, e2, v, I1, e3, e4, p⟩ => ⟨v, I1, e3, ?_, p⟩
  rw [e2, e4]
  rfl
theorem zcU_zb {M d k : Nat} {as : List cm_V} {z : cm_Z} {I : cm_I} {P : cm_I → cm_Z → Prop} (h : zcU d k as z I P) (hP : ∀ I1 z1, P I1 z1 → zC z1 = zC z) : zcU d k as (zb M z) I fun I1 z1 => ∃ z2, z1 = zb M z2 ∧ P I1 z2 := by
  have := bmE_call (M := M) d k as (I, z) _ h fun r g ⟨I1, z1, e1, e2, p⟩ => by rw [e2]; exact Nat.le_of_eq (hP I1 z1 p)
  refine cm_call_mono this fun r h1 ⟨g, e, e2, I1, z1, e3, e4, p⟩ => ⟨I1, zb M z1, e3, ?_, z1, rfl, p⟩
  rw [e2, e4]
  rfl
