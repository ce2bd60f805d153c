/-! SIMULATION: the clean machine's places on the machine -/
theorem p1_inv {st : List cm_V} {k : Int → List cm_V → Prop} (h : cm_p1 st k) : ∃ x t, st = .inl x :: t ∧ k x t := by
  unfold cm_p1 at h
  split at h
  · exact ⟨_, _, rfl, h⟩
  · exact h.elim
theorem p2_inv {st : List cm_V} {k : Int → Int → List cm_V → Prop} (h : cm_p2 st k) : ∃ x y t, st = .inl y :: .inl x :: t ∧ k x y t := by
  unfold cm_p2 at h
  split at h
  · exact ⟨_, _, _, rfl, h⟩
  · exact h.elim
theorem pr_inv {st : List cm_V} {k : Nat → Nat → List cm_V → Prop} (h : cm_pr st k) : ∃ x y t, st = .inr (.inl (x, y)) :: t ∧ k x y t := by
  unfold cm_pr at h
  split at h
  · exact ⟨_, _, _, rfl, h⟩
  · exact h.elim
theorem pl_inv {st : List cm_V} {k : Int → List cm_V → Prop} (h : cm_pl st k) : ∃ x t, st = .inr (.inr x) :: t ∧ k x t := by
  unfold cm_pl at h
  split at h
  · exact ⟨_, _, rfl, h⟩
  · exact h.elim
theorem pv_inv {st : List cm_V} {k : cm_V → List cm_V → Prop} (h : cm_pv st k) : ∃ x t, st = x :: t ∧ k x t := by
  unfold cm_pv at h
  split at h
  · exact ⟨_, _, rfl, h⟩
  · exact h.elim
theorem gi_inv {ls : cm_L} {i : Nat} {k : Int → Prop} (h : cm_gi ls i k) : ∃ x, cm_get ls i = some (.inl x) ∧ k x := by
  unfold cm_gi at h
  split at h
  · exact ⟨_, by assumption, h⟩
  · exact h.elim
theorem gl_inv {ls : cm_L} {i : Nat} {k : Int → Prop} (h : cm_gl ls i k) : ∃ x, cm_get ls i = some (.inr (.inr x)) ∧ k x := by
  unfold cm_gl at h
  split at h
  · exact ⟨_, by assumption, h⟩
  · exact h.elim
theorem gr_inv {ls : cm_L} {i : Nat} {k : Nat → Nat → Prop} (h : cm_gr ls i k) : ∃ c a, cm_get ls i = some (.inr (.inl (c, a))) ∧ k c a := by
  unfold cm_gr at h
  split at h
  · exact ⟨_, _, by assumption, h⟩
  · exact h.elim
theorem ck_inv {b : Bool} {P : Prop} (h : cm_ck b P) : b = true ∧ P := by
  cases b
  · exact h.elim
  · exact ⟨rfl, h⟩
theorem pop_inv {k : List cm_V → List cm_V → Prop} : ∀ (n : Nat) (acc st : List cm_V), cm_pop n acc st k → ∃ as t, st = as.reverse ++ t ∧ as.length = n ∧ k (as ++ acc) t
  | 0, acc, st, h => ⟨[], st, rfl, rfl, h⟩
  | n + 1, acc, v :: t, h => by
    obtain ⟨as, t2, e, e2, hk⟩ := pop_inv n (v :: acc) t h
    exact ⟨as ++ [v], t2, by simp [e], by simp [e2], by simpa using hk⟩
  | _ + 1, _, [], h => h.elim
-- locals
theorem get_set {ls : cm_L} {i j : Nat} {x : Option cm_V} {v : cm_V} (h : cm_get (ls.set i x) j = some v) : (j = i ∧ x = some v) ∨ (j ≠ i ∧ cm_get ls j = some v) := by
  induction ls generalizing i j with
  | nil => exact absurd h (by simp [cm_get])
  | cons y t ih =>
    cases i with
    | zero =>
      cases j with
      | zero => exact Or.inl ⟨rfl, h⟩
      | succ j => exact Or.inr ⟨by omega, h⟩
    | succ i =>
      cases j with
      | zero => exact Or.inr ⟨by omega, h⟩
      | succ j =>
        rcases ih h with ⟨a, b⟩ | ⟨a, b⟩
        · exact Or.inl ⟨by omega, b⟩
        · exact Or.inr ⟨by omega, b⟩
theorem get_lt {ls : cm_L} {i : Nat} {v : cm_V} (h : cm_get ls i = some v) : i < ls.length := by
  induction ls generalizing i with
  | nil => exact absurd h (by simp [cm_get])
  | cons y t ih =>
    cases i with
    | zero => simp
    | succ i => have := ih h; simp; omega
def lv_of (ad : Nat → Nat) (ls : cm_L) : List (Nat × Value) := (List.range ls.length).filterMap (fun i => (cm_get ls i).map (fun v => (i, en_V ad v)))
theorem lv_of_mem {ad : Nat → Nat} {ls : cm_L} {i : Nat} {v : cm_V} (h : cm_get ls i = some v) : (i, en_V ad v) ∈ lv_of ad ls := by
  refine List.mem_filterMap.mpr ⟨i, List.mem_range.mpr (get_lt h), ?_⟩
  rw [h]; rfl
theorem lv_of_inv {ad : Nat → Nat} {ls : cm_L} {q : Nat × Value} (h : q ∈ lv_of ad ls) : ∃ v, cm_get ls q.1 = some v ∧ q.2 = en_V ad v := by
  obtain ⟨i, -, e⟩ := List.mem_filterMap.mp h
  cases hg : cm_get ls i with
  | none => rw [hg] at e; cases e
  | some v => rw [hg] at e; cases e; exact ⟨v, hg, rfl⟩
/-- the locals: known ones are held; longs lie where the method's long locals are -/
def sm_lr (ad : Nat → Nat) (h : cm_H) (k : Nat) (ls : cm_L) (ls' : Array Slot) : Prop := lv_has ls' (cm_maxL k) (lv_of ad ls) ∧ (∀ i v, cm_get ls i = some v → vok h v) ∧ ∀ i x, cm_get ls i = some (.inr (.inr x)) → i ∈ sm_LI k
theorem cat_en {ad : Nat → Nat} {v : cm_V} : (en_V ad v).category = cm_cat v := by
  rcases v with x | r | x
  · rfl
  · show (va_rf (en_R ad r.2)).category = 1
    unfold va_rf en_R
    split <;> rfl
  · rfl
theorem lr_store1 {ad : Nat → Nat} {h : cm_H} {k : Nat} {ls : cm_L} {ls' ls2 : Array Slot} {i : Nat} {v : cm_V} (L : sm_lr ad h k ls ls') (ho : ok_l k i = true) (hv : vok h v) (hc : cm_cat v = 1) (h2 : lv_has ls2 (cm_maxL k) ((i, en_V ad v) :: (lv_of ad ls).filter (fun q => !(q.1 == i) && !(q.1 + 1 == i && q.2.category == 2)))) : sm_lr ad h k (ls.set i (some v)) ls2 := by
  obtain ⟨L1, L2, L3⟩ := L
  have ho2 : ∀ j ∈ sm_LI k, ¬ j + 1 = i := by
    unfold ok_l at ho
    simp only [Bool.and_eq_true, List.all_eq_true] at ho
    intro j hj e
    have := ho.2 j hj
    rw [e] at this
    simp at this
  refine ⟨⟨h2.1, h2.2.1, fun q hq => ?_⟩, fun j w hj => ?_, fun j x hj => ?_⟩
  · obtain ⟨w, hw, e⟩ := lv_of_inv hq
    rcases get_set hw with ⟨e1, e2⟩ | ⟨e1, e2⟩
    · cases e2
      refine h2.2.2 q (List.mem_cons.mpr (Or.inl ?_))
      exact Prod.ext e1 e
    · refine h2.2.2 q (List.mem_cons.mpr (Or.inr (List.mem_filter.mpr ⟨?_, ?_⟩)))
      · have := lv_of_mem (ad := ad) e2
        rw [← e] at this
        exact this
      · simp only [Bool.and_eq_true, Bool.not_eq_true', beq_eq_false_iff_ne, ne_eq, Bool.and_eq_false_iff]
        refine ⟨e1, ?_⟩
        rcases w with x | r | x
        · exact Or.inr (by rw [e, cat_en]; show ¬ 1 = 2; decide)
        · exact Or.inr (by rw [e, cat_en]; show ¬ 1 = 2; decide)
        · exact Or.inl (ho2 q.1 (L3 q.1 x e2))
  · rcases get_set hj with ⟨e1, e2⟩ | ⟨e1, e2⟩
    · cases e2; exact hv
    · exact L2 j w e2
  · rcases get_set hj with ⟨e1, e2⟩ | ⟨e1, e2⟩
    · cases e2; cases hc
    · exact L3 j x e2
theorem lr_store2 {ad : Nat → Nat} {h : cm_H} {k : Nat} {ls : cm_L} {ls' ls2 : Array Slot} {i : Nat} {x : Int} (L : sm_lr ad h k ls ls') (ho : ok_l k i = true) (hi : i ∈ sm_LI k) (hv : cm_l x) (h2 : lv_has ls2 (cm_maxL k) ((i, Value.long (Int64.ofInt x)) :: (lv_of ad ls).filter (fun q => !(q.1 == i) && (!(q.1 == i + 1) && !(q.1 + 1 == i && q.2.category == 2))))) : sm_lr ad h k ((ls.set i (some (.inr (.inr x)))).set (i + 1) none) ls2 := by
  obtain ⟨L1, L2, L3⟩ := L
  have ho2 : ∀ j ∈ sm_LI k, ¬ j + 1 = i := by
    unfold ok_l at ho
    simp only [Bool.and_eq_true, List.all_eq_true] at ho
    intro j hj e
    have := ho.2 j hj
    rw [e] at this
    simp at this
  refine ⟨⟨h2.1, h2.2.1, fun q hq => ?_⟩, fun j w hj => ?_, fun j y hj => ?_⟩
  · obtain ⟨w, hw, e⟩ := lv_of_inv hq
    rcases get_set hw with ⟨e1, e2⟩ | ⟨e0, e2⟩
    · cases e2
    rcases get_set e2 with ⟨e1, e2⟩ | ⟨e1, e2⟩
    · cases e2
      refine h2.2.2 q (List.mem_cons.mpr (Or.inl ?_))
      exact Prod.ext e1 e
    · refine h2.2.2 q (List.mem_cons.mpr (Or.inr (List.mem_filter.mpr ⟨?_, ?_⟩)))
      · have := lv_of_mem (ad := ad) e2
        rw [← e] at this
        exact this
      · simp only [Bool.and_eq_true, Bool.not_eq_true', beq_eq_false_iff_ne, ne_eq, Bool.and_eq_false_iff]
        refine ⟨e1, e0, ?_⟩
        rcases w with x | r | x
        · exact Or.inr (by rw [e, cat_en]; show ¬ 1 = 2; decide)
        · exact Or.inr (by rw [e, cat_en]; show ¬ 1 = 2; decide)
        · exact Or.inl (ho2 q.1 (L3 q.1 x e2))
  · rcases get_set hj with ⟨e1, e2⟩ | ⟨e0, e2⟩
    · cases e2
    rcases get_set e2 with ⟨e1, e2⟩ | ⟨e1, e2⟩
    · cases e2; exact hv
    · exact L2 j w e2
  · rcases get_set hj with ⟨e1, e2⟩ | ⟨e0, e2⟩
    · cases e2
    rcases get_set e2 with ⟨e1, e2⟩ | ⟨e1, e2⟩
    · rw [e1]; exact hi
    · exact L3 j y e2
theorem lr_heap {ad ad' : Nat → Nat} {h h' : cm_H} {k : Nat} {ls : cm_L} {ls' : Array Slot} (L : sm_lr ad h k ls ls') (hv : ∀ v, vok h v → vok h' v) (he : ∀ v, vok h v → en_V ad' v = en_V ad v) : sm_lr ad' h' k ls ls' := by
  obtain ⟨L1, L2, L3⟩ := L
  refine ⟨⟨L1.1, L1.2.1, fun q hq => ?_⟩, fun i v hi => hv v (L2 i v hi), L3⟩
  obtain ⟨v, hg, e⟩ := lv_of_inv hq
  have := L1.2.2 _ (lv_of_mem (ad := ad) hg)
  rw [e, he v (L2 _ v hg)]
  exact this
theorem lr_at {ad : Nat → Nat} {h : cm_H} {k : Nat} {ls : cm_L} {ls' : Array Slot} {i : Nat} {v : cm_V} (L : sm_lr ad h k ls ls') (hg : cm_get ls i = some v) : ls'[i]? = some (.val (en_V ad v)) := L.1.2.2 _ (lv_of_mem hg)
/-- the machine and the method -/
def sm_X (p : Program) (R : Room) (s : State) (m : MethodId) (args : Array Value) (meth : Method) (c : Code) (k : Nat) (D : va_G) (A : Nat → Prop) (h0 hF : cm_H) (d : Nat) : Prop :=
  p.tables.exec = Jvm.exec ∧ c.code = sm_b k ∧ c.maxLocals = cm_maxL k ∧ s.vm.findClass (sm_cn (sm_ow k)) = some m.cls ∧ (∀ w ∈ tbG, w.before args s = true) ∧ meth.sig.returnType = sm_rt k ∧ meth.locks = false ∧ (sm_isI k = true → meth.name = "<init>") ∧
  va_K D vwCl [] s ∧ (∀ w ∈ sm_nest, va_Nw w s) ∧ va_AO RX2 s ∧ va_AO RX5 s ∧ (Cond.arrayOver (.array .int)).before #[] s = true ∧ (∀ q, s.heap.size ≤ q → A q) ∧ k < 245 ∧
  R.cells = ch_c hF - ch_c h0 ∧ R.slots = ch_s hF - ch_s h0 ∧ R.frames = d + 1 ∧ R.locals = 64 * (d + 1)
/-- a state of the machine that a clean one stands for -/
def sm_S (s : State) (k : Nat) (D : va_G) (A : Nat → Prop) (ad0 : Nat → Nat) (h0 : cm_H) (ad : Nat → Nat) (cl : Nat → ClassId) (H : Heap) (locs : List Loc) (ls' : Array Slot) (ls : cm_L) (st : List cm_V) (h : cm_H) : Prop :=
  va_P D vwCl (sm_ws ad cl h) H ∧ va_D A (sm_ws ad cl h) ∧ va_S A s.heap H locs ∧ sm_ok h ∧ sm_ar s cl h ∧ sm_lr ad h k ls ls' ∧ (∀ v ∈ st, vok h v) ∧ cm_ge h0 h ∧ ch_n h0 ≤ ch_n h ∧ ∀ a, a < ch_n h0 → ad a = ad0 a ∧ ch_T h a = ch_T h0 a
/-- a place: from every such state the machine comes to Fin -/
def sm_J (p : Program) (l : Launch) (e : Env) (R : Room) (s : State) (m : MethodId) (args : Array Value) (below : List Frame) (meth : Method) (c : Code) (k : Nat) (D : va_G) (A : Nat → Prop) (ad0 : Nat → Nat) (h0 : cm_H) (Fin : State → Prop) : cm_K := fun pc ls st h =>
  ∀ (ad : Nat → Nat) (cl : Nat → ClassId) (H : Heap) (locs : List Loc) (ls' : Array Slot), sm_S s k D A ad0 h0 ad cl H locs ls' ls st h → W p l e R s m args below meth c H locs (ch_c h - ch_c h0) (ch_s h - ch_s h0) Fin (F0 m pc ls' (st.map (en_V ad)))
def sm_K (p : Program) (l : Launch) (e : Env) (R : Room) (s : State) (m : MethodId) (args : Array Value) (below : List Frame) (meth : Method) (c : Code) (k : Nat) (D : va_G) (A : Nat → Prop) (ad0 : Nat → Nat) (h0 hF : cm_H) (Fin : State → Prop) : cm_K := fun pc ls st h =>
  cm_ge h hF ∧ sm_J p l e R s m args below meth c k D A ad0 h0 Fin pc ls st h
theorem ok_I_inv {k pc : Nat} {ci : Instr} {nx : Nat} (h : ok_I k pc ci nx = true) : ∃ raw len, decode (sm_b k) pc = .ok (raw, len) ∧ nx = pc + len ∧ ok_R k pc raw len ci = true := by
  unfold ok_I at h
  split at h
  · rename_i raw len hd
    simp only [Bool.and_eq_true] at h
    exact ⟨raw, len, hd, Nat.eq_of_beq_eq_true h.1, h.2⟩
  · cases h
