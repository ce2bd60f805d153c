def mkN (a : Nat) (j : Int) (e : mkE) : Prop := match e with
  | .inr (.inl (o, s, _)) => o ≠ a ∨ s ≠ j
  | _ => True
theorem mkF_R {a : Nat} {j : Int} : ∀ (l : List mkE) (h : cm_H), a < ch_n h → (∀ e, e ∈ l → mkN a j e) → ch_R (mkF l h) a j = ch_R h a j
  | [], _, _, _ => rfl
  | .inl (k, l, sl) :: es, h, hn, he => by
    refine (mkF_R es (ch_new h k l sl) (Nat.lt_succ_of_lt hn) fun e m => he e (List.mem_cons_of_mem _ m)).trans ?_
    show (if a = h.2.2.2.2.1 then (fun _ => 0) else h.2.1 a) j = h.2.1 a j
    rw [if_neg (show ¬ a = h.2.2.2.2.1 from Nat.ne_of_lt hn)]
  | .inr (.inl (o, s, v)) :: es, h, hn, he => by
    refine (mkF_R es (ch_r h o s v) hn fun e m => he e (List.mem_cons_of_mem _ m)).trans ?_
    have q : o ≠ a ∨ s ≠ j := he _ (List.mem_cons_self ..)
    show (if a = o then (fun j => if j = s then v else h.2.1 o j) else h.2.1 a) j = h.2.1 a j
    by_cases w : a = o
    · rw [if_pos w]
      show (if j = s then v else h.2.1 o j) = _
      rw [if_neg (by rcases q with q | q; · exact absurd w.symm q
                     · exact fun x => q x.symm), w]
    · rw [if_neg w]
  | .inr (.inr (o, s, v)) :: es, h, hn, he => mkF_R es (ch_u h o s v) hn fun e m => he e (List.mem_cons_of_mem _ m)
theorem mkF_L {a : Nat} : ∀ (l : List mkE) (h : cm_H), a < ch_n h → ch_L (mkF l h) a = ch_L h a
  | [], _, _ => rfl
  | .inl (k, l, sl) :: es, h, hn => by
    refine (mkF_L es (ch_new h k l sl) (Nat.lt_succ_of_lt hn)).trans ?_
    show (if a = h.2.2.2.2.1 then _ else h.2.2.1 a) = h.2.2.1 a
    rw [if_neg (show ¬ a = h.2.2.2.2.1 from Nat.ne_of_lt hn)]
  | .inr (.inl (o, s, v)) :: es, h, hn => mkF_L es (ch_r h o s v) hn
  | .inr (.inr (o, s, v)) :: es, h, hn => mkF_L es (ch_u h o s v) hn
def evGr1 (g n i : Nat) : List mkE := .inl (2, 0, 11) :: (evGrade n (n + 1) (i : Int) ++ [.inr (.inl (g, (i : Int), n))])
def evGr (g : Nat) : Nat → Nat → Nat → List mkE
  | _, _, 0 => []
  | n, i, u + 1 => evGr1 g n i ++ evGr g (n + 7) (i + 1) u
theorem evGr1_n {g n i : Nat} {h : cm_H} : ch_n (mkF (evGr1 g n i) h) = ch_n h + 7 := ch_n_mk _ h
theorem r3_Bases_62 {d : Nat} {Q : cm_Q} {a g : Nat} (ha : 0 < a) (hg : 0 < g) (ne : a ≠ g) : ∀ (u i n : Nat) (h : cm_H) (z1 z2 : Option cm_V), i + u = 16 → ch_n h = n → a < n → g < n → ch_R h a 5 = g → ch_L h g = 16 → Q none (mkF (evGr g n i u) h) → cw (d + 1) cd_Bases_init Q 62 [some (vR 0 a), z1, z2, some (vI (i : Int))] [] h
  | 0, i, n, h, z1, z2, e, hn, an, gn, r5, l5, H => r_Bases_init_62 ha ⟨fun _ => H, fun q => by omega⟩
  | u + 1, i, n, h, z1, z2, e, hn, an, gn, r5, l5, H => by
    refine r_Bases_init_62 ha ⟨fun q => by omega, fun q h1 e1 => ?_⟩
    have n1 : ch_n h1 = n + 1 := by rw [e1]; show ch_n h + 1 = _; rw [hn]
    rw [hn]
    refine r3_Grade (by omega) n1 ⟨rfl, by omega, by rw [r5]; exact hg, ?_, ?_⟩
    · rw [r5, mkF_L _ _ (by omega)]
      have : ch_L h1 g = 16 := by
        rw [e1]
        show (if g = h.2.2.2.2.1 then _ else h.2.2.1 g) = 16
        rw [if_neg (by have : h.2.2.2.2.1 = n := hn; omega)]
        exact l5
      rw [this]
      omega
    · intro h6 e6
      refine ⟨⟨by omega, by omega⟩, ?_⟩
      have E : h6 = mkF (evGr1 g n i) h := by
        unfold evGr1
        refine mkF_c e1 ?_
        rw [mkF_a, e6, r5]
        rfl
      have n6 : ch_n h6 = n + 7 := by rw [E, evGr1_n, hn]
      have R6 : ch_R h6 a 5 = g := by
        rw [E, mkF_R _ _ (by omega)]
        · exact r5
        · intro x hx
          simp [evGr1, evGrade] at hx
          rcases hx with w | w | w | w | w | w | w | w | w | w | w | w | w | w | w <;> (rw [w]; first | trivial | exact Or.inl (by omega))
      rw [show ((i : Nat) : Int) + 1 = ((i + 1 : Nat) : Int) by omega]
      refine r3_Bases_62 ha hg ne u (i + 1) (n + 7) h6 z1 z2 (by omega) n6 (by omega) (by omega) R6 (by rw [E, mkF_L _ _ (by omega)]; exact l5) ?_
      rw [E, ← mkF_a]
      exact H
