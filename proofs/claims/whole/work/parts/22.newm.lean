/-! new int[n][m] (OPEN: to be proved) -/
section SNM
variable {p : Program} {l : Launch} {e : Env} {R : Room} {s : State} {m : MethodId} {args : Array Value} {below : List Frame} {meth : Method} {c : Code} {k : Nat} {D : va_G} {A : Nat → Prop} {ad0 : Nat → Nat} {h0 hF : cm_H} {Fin : State → Prop} {d : Nat}
variable {pc nx : Nat} {ls : cm_L} {st t : List cm_V} {h : cm_H}
theorem so_newM {w z : Nat} {n n2 : Int} (X : sm_X p R s m args meth c k D A h0 hF d) (ho : ok_I k pc (.multianewarray w z) nx = true) (hn : 0 ≤ n ∧ n ≤ 1000 ∧ 0 ≤ n2 ∧ n2 ≤ 1000) (hg : cm_ge (ch_x (ch_news (ch_new h 23 n n.toNat) n2 n2.toNat n.toNat) (ch_n h) (fun j => if 0 ≤ j ∧ j < n then ch_n h + 1 + j.toNat else 0)) hF) (K : sm_J p l e R s m args below meth c k D A ad0 h0 Fin nx ls (.inr (.inl (23, ch_n h)) :: st) (ch_x (ch_news (ch_new h 23 n n.toNat) n2 n2.toNat n.toNat) (ch_n h) (fun j => if 0 ≤ j ∧ j < n then ch_n h + 1 + j.toNat else 0))) : sm_J p l e R s m args below meth c k D A ad0 h0 Fin pc ls (.inl n2 :: .inl n :: st) h := by
  sorry
end SNM
