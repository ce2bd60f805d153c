/-! BOTH TOGETHER -/
section JNT
variable {z z1 : cm_Z} {I I1 I2 : cm_I} {T : Nat → cMat} {nt n : Nat} {L : Nat → cMat} {D : Int} {K : Int → Int → Int} {B : Int → Int} {tp : Int} {rf rf' : Option (Int → Int)} {sh mb : Nat}
theorem rI_md (h : rI D T nt n L K B tp rf I) (c : ∀ a, 209 ≤ a → a ≤ 247 → I1 a = I a) : rI D T nt n L K B tp rf I1 := by
  obtain ⟨h1, h2, h3, h4, h5, h6, h7, h8, h9, h10, h11⟩ := h
  have e9 := c 209 (by decide) (by decide)
  have ok : rO I1 := fun x hx => by
    rw [c x (by simp [oL] at hx; omega) (by simp [oL] at hx; omega)]; exact h10 x hx
  have e1 : I1 209 1 = I 209 1 := by rw [e9]
  have b := h1.2.2.2.2.1
  have m : mvOk I1 := ⟨by unfold mD; rw [e9]; exact h1.1.1, mMon_c h1.1.2.1 e1 (c 210 (by decide) (by decide)) (c 211 (by decide) (by decide)) (c 212 (by decide) (by decide)), ok 216 (by decide), ok 217 (by decide), ok 218 (by decide), ok 224 (by decide)⟩
  refine ⟨pmIn_k h1 m (c 217 (by decide) (by decide)) (bsOk_thr b e1 (by rw [e9]) (c 226 (by decide) (by decide)) (c 228 (by decide) (by decide)) (c 229 (by decide) (by decide)) (c 230 (by decide) (by decide))) (ok 214 (by decide)) (ok 233 (by decide)) (fun x hx => c x (by simp at hx; omega) (by simp at hx; omega)) (fun s _ => by rw [e9]) (by rw [e9]; exact Int.le_refl _), mGs_fr h2 e1 (by rw [e9]) (c 218 (by decide) (by decide)), kOk_fr h3 (c 213 (by decide) (by decide)) e1, rwOk_k h4 (fun s _ => by rw [e9]) (c 245 (by decide) (by decide)), by rw [e9]; exact h5, by rw [c 219 (by decide) (by decide)]; exact h6, by rw [e9]; exact h7, by rw [e9]; exact h8, h9, ok, by rw [c 221 (by decide) (by decide)]; exact h11⟩
def jI (D : Int) (T : Nat → cMat) (nt n : Nat) (L : Nat → cMat) (K : Int → Int → Int) (B : Int → Int) (tp : Int) (rf : Option (Int → Int)) (sh mb : Nat) (z : cm_Z) (I : cm_I) : Prop := wI D T nt n L K B tp rf sh mb z I ∧ rI D T nt n L K B tp rf I ∧ mz z ∧ fz z
def jW (z : cm_Z) (I : cm_I) : Prop := ∃ D T nt n L K B tp rf sh mb, jI D T nt n L K B tp rf sh mb z I
def jStep (kx km : Nat) (asx asm : List cm_V) (z : cm_Z) (I : cm_I) : Prop := ∃ v I1 z1 I2, cm_call 70 kx asx (I, z) (cm_qe (some (vI v)) (I1, z1)) ∧ cm_call 70 km asm (I1, z1) (cm_qe (some (vI v)) (I2, z1)) ∧ jW z1 I2 ∧ usW z z1
theorem zcI_leaf {d k : Nat} {as : List cm_V} {P : Int → cm_I → cm_Z → Prop} (h : zcI d k as z I P) : ∃ v I1 z1, cm_call d k as (I, z) (cm_qe (some (vI v)) (I1, z1)) ∧ P v I1 z1 := by
  obtain ⟨r, g, ⟨v, I1, z1, e1, e2, p⟩, _, e⟩ := cm_call_nice d k as (I, z) _ h
  exact ⟨v, I1, z1, e _ ⟨e1, e2⟩, p⟩
theorem mI_leaf {d k : Nat} {as : List cm_V} {P : Int → cm_I → Prop} (h : mI d k as z I P) : ∃ v I1, cm_call d k as (I, z) (cm_qe (some (vI v)) (I1, z)) ∧ P v I1 := by
  obtain ⟨r, g, ⟨v, I1, e1, e2, p⟩, _, e⟩ := cm_call_nice d k as (I, z) _ h
  exact ⟨v, I1, e _ ⟨e1, e2⟩, p⟩
theorem wI_N (h : wI D T nt n L K B tp rf sh mb z I) : 248 ≤ zN z := h.1.1.1.1.2.2.2.2.2
theorem jW_mk (w : wI D T nt n L K B tp rf sh mb z1 I1) (f : mdF I1 I2) (r : rI D T nt n L K B tp rf I2) (m : mz z1) (q : fz z1) : jW z1 I2 := ⟨D, T, nt, n, L, K, B, tp, rf, sh, mb, wI_md w ⟨rfl, fun a ha => ⟨rfl, rfl, f a ha⟩⟩, r, m, q⟩
theorem j_mk {kx km : Nat} {asx asm : List cm_V} {Px : Int → cm_I → cm_Z → Prop} (h : jI D T nt n L K B tp rf sh mb z I) (hx : zcI 70 kx asx z I Px) (ha : fk sMd asx) (hN : ∀ v I1 z1, Px v I1 z1 → 248 ≤ zN z1) (hm : ∀ v I1 z1, Px v I1 z1 → mz z1 → fz z1 → rI D T nt n L K B tp rf I1 → I1 209 = I 209 → I1 217 = I 217 → I1 220 = I 220 → I1 221 = I 221 → mI 70 km asm z1 I1 fun r I2 => r = v ∧ jW z1 I2 ∧ usW z z1) : jStep kx km asx asm z I := by
  obtain ⟨hw, hr, hz, hf⟩ := h
  obtain ⟨v, I1, z1, c, p, f1, e⟩ := zcI_leaf (zcI_md hx hf ha hN)
  obtain ⟨v2, I2, c2, e2, j, u⟩ := mI_leaf (hm v I1 z1 p (mz_md hz e) f1 (rI_md hr fun a h1 h2 => (e a h1 h2).1) (e 209 (by decide) (by decide)).1 (e 217 (by decide) (by decide)).1 (e 220 (by decide) (by decide)).1 (e 221 (by decide) (by decide)).1)
  rw [e2] at c2
  exact ⟨v, I1, z1, I2, c, c2, j, u⟩
/-- calls that answer a number -/
theorem j_rP {kx km : Nat} {asx asm : List cm_V} {a : Int} (h : jI D T nt n L K B tp rf sh mb z I) (hx : zcI 70 kx asx z I fun v I1 z1 => wI D T nt n L K B tp rf' sh mb z1 I1 ∧ usW z z1 ∧ v = a) (ha : fk sMd asx) (hm : ∀ I1 z1, mz z1 → rI D T nt n L K B tp rf I1 → mI 70 km asm z1 I1 (rP D T nt n L K B tp rf' I1 a)) : jStep kx km asx asm z I := j_mk h hx ha (fun v I1 z1 p => wI_N p.1) fun v I1 z1 p m q r _ _ _ _ => mI_mono (hm I1 z1 m r) fun w I2 ⟨f, r2, e⟩ => ⟨e.trans p.2.2.symm, jW_mk p.1 f r2 m q, p.2.1⟩
theorem j_same {kx km : Nat} {asx asm : List cm_V} {a : Int} (h : jI D T nt n L K B tp rf sh mb z I) (hx : mI 70 kx asx z I fun v I1 => I1 = I ∧ v = a) (ha : fk sMd asx) (hm : ∀ I1 z1, mz z1 → rI D T nt n L K B tp rf I1 → mI 70 km asm z1 I1 (rP D T nt n L K B tp rf I1 a)) : jStep kx km asx asm z I := j_rP h (zcI_mono (mI_zc hx) fun v I1 z1 ⟨e1, e2, e3⟩ => ⟨by rw [e1, e2]; exact h.1, by rw [e1]; exact usW_refl z, e3⟩) ha hm
/-- calls that put a polynomial -/
theorem j_put {kx km : Nat} {asx asm : List cm_V} {ok : Prop} {to no : Int} {w : Int → Int} (h : jI D T nt n L K B tp rf sh mb z I) (hx : zcI 70 kx asx z I (putA D T nt n L K B tp rf sh mb ok to w no z)) (ha : fk sMd asx) (hm : ∀ I1 z1, mz z1 → rI D T nt n L K B tp rf I1 → mI 70 km asm z1 I1 (putR D T nt n L K B tp rf ok to w no I1)) : jStep kx km asx asm z I := j_mk h hx ha (fun v I1 z1 p => by
    rcases p.2 with ⟨_, p, _⟩ | ⟨_, p, _⟩
    · exact wI_N p
    · exact wI_N p) fun v I1 z1 p m q r _ _ _ _ => mI_mono (hm I1 z1 m r) fun w I2 ⟨f, r2⟩ => by
  rcases p.2 with ⟨a, b, c⟩ | ⟨a, b, c⟩
  · rcases r2 with ⟨a', b', c'⟩ | ⟨a', b', c'⟩
    · exact ⟨c'.trans c.symm, jW_mk b f b' m q, p.1⟩
    · exact absurd a a'
  · rcases r2 with ⟨a', b', c'⟩ | ⟨a', b', c'⟩
    · exact absurd a' a
    · exact ⟨c'.trans c.symm, jW_mk b f b' m q, p.1⟩
theorem nMd1 : fv sMd (vR 11 1) := fun h => absurd h.1 (by decide)
theorem fk1 {x : Int} : fk sMd [vR 11 1, vI x] := fk_c nMd1 (fk_c fv_i fk_n)
theorem fk2 {x y : Int} : fk sMd [vR 11 1, vI x, vI y] := fk_c nMd1 (fk_c fv_i (fk_c fv_i fk_n))
theorem fk3 {x y w : Int} : fk sMd [vR 11 1, vI x, vI y, vI w] := fk_c nMd1 (fk_c fv_i (fk_c fv_i (fk_c fv_i fk_n)))
theorem fk4 {x y w u : Int} : fk sMd [vR 11 1, vI x, vI y, vI w, vI u] := fk_c nMd1 (fk_c fv_i (fk_c fv_i (fk_c fv_i (fk_c fv_i fk_n))))
theorem fk5 {x y w u v : Int} : fk sMd [vR 11 1, vI x, vI y, vI w, vI u, vI v] := fk_c nMd1 (fk_c fv_i (fk_c fv_i (fk_c fv_i (fk_c fv_i (fk_c fv_i fk_n)))))
theorem fk6 {x y w u v t : Int} : fk sMd [vR 11 1, vI x, vI y, vI w, vI u, vI v, vI t] := fk_c nMd1 (fk_c fv_i (fk_c fv_i (fk_c fv_i (fk_c fv_i (fk_c fv_i (fk_c fv_i fk_n))))))
theorem j_group (h : jW z I) (a : Int) : jStep m_Works_group m_Model_group [vR 11 1, vI a] [vR 12 209, vI a] z I := by
  obtain ⟨D, T, nt, n, L, K, B, tp, rf, sh, mb, h⟩ := h
  exact j_same h (c_group (d := 67) h.1 a) fk1 fun I1 z1 m r => q_group (d := 63) r m a
theorem j_member (h : jW z I) (a b c : Int) : jStep m_Works_member m_Model_member [vR 11 1, vI a, vI b, vI c] [vR 12 209, vI a, vI b, vI c] z I := by
  obtain ⟨D, T, nt, n, L, K, B, tp, rf, sh, mb, h⟩ := h
  exact j_same h (c_member (d := 68) h.1 a b c) fk3 fun I1 z1 m r => q_member (d := 67) r m a b c
theorem j_times (h : jW z I) (a b : Int) : jStep m_Works_times m_Model_times_ [vR 11 1, vI a, vI b] [vR 12 209, vI a, vI b] z I := by
  obtain ⟨D, T, nt, n, L, K, B, tp, rf, sh, mb, h⟩ := h
  exact j_same h (c_times (d := 68) h.1 a b) fk2 fun I1 z1 m r => q_times (d := 65) r m a b
theorem j_about (h : jW z I) (a b : Int) : jStep m_Works_about m_Model_about [vR 11 1, vI a, vI b] [vR 12 209, vI a, vI b] z I := by
  obtain ⟨D, T, nt, n, L, K, B, tp, rf, sh, mb, h⟩ := h
  exact j_same h (c_about (d := 67) h.1 a b) fk2 fun I1 z1 m r => q_about (d := 64) r m a b
theorem j_count (h : jW z I) (a : Int) : jStep m_Works_count m_Model_count [vR 11 1, vI a] [vR 12 209, vI a] z I := by
  obtain ⟨D, T, nt, n, L, K, B, tp, rf, sh, mb, h⟩ := h
  exact j_same h (c_count (d := 69) h.1 a) fk1 fun I1 z1 m r => q_count (d := 69) r m a
theorem j_factor (h : jW z I) (a b c e : Int) : jStep m_Works_factor m_Model_factor [vR 11 1, vI a, vI b, vI c, vI e] [vR 12 209, vI a, vI b, vI c, vI e] z I := by
  obtain ⟨D, T, nt, n, L, K, B, tp, rf, sh, mb, h⟩ := h
  exact j_same h (c_factor (d := 68) h.1 a b c e) fk4 fun I1 z1 m r => q_factor (d := 67) r m a b c e
theorem j_series (h : jW z I) (a : Int) : jStep m_Works_series m_Model_series [vR 11 1, vI a] [vR 12 209, vI a] z I := by
  obtain ⟨D, T, nt, n, L, K, B, tp, rf, sh, mb, h⟩ := h
  exact j_same h (c_series (d := 68) h.1 a) fk1 fun I1 z1 m r => q_series (d := 64) r m a
theorem j_rewritten (h : jW z I) (a b c e : Int) (hb : b ≤ 2147483647) (hc : c ≤ 2147483647) (he : e ≤ 2147483647) : jStep m_Works_rewritten m_Model_rewritten [vR 11 1, vI a, vI b, vI c, vI e] [vR 12 209, vI a, vI b, vI c, vI e] z I := by
  obtain ⟨D, T, nt, n, L, K, B, tp, rf, sh, mb, h⟩ := h
  exact j_same h (c_rewritten (d := 67) h.1 a b c e hb hc he) fk4 fun I1 z1 m r => q_rewritten (d := 67) r m a b c e
theorem j_of (h : jW z I) (a b : Int) : jStep m_Works_of m_Model_of_ [vR 11 1, vI a, vI b] [vR 12 209, vI a, vI b] z I := by
  obtain ⟨D, T, nt, n, L, K, B, tp, rf, sh, mb, h⟩ := h
  exact j_rP h (c_of (d := 60) h.1 a b) fk2 fun I1 z1 m r => q_of (d := 64) r m a b
theorem j_isSystem (h : jW z I) (a b c : Int) : jStep m_Works_isSystem m_Model_isSystem [vR 11 1, vI a, vI b, vI c] [vR 12 209, vI a, vI b, vI c] z I := by
  obtain ⟨D, T, nt, n, L, K, B, tp, rf, sh, mb, h⟩ := h
  exact j_rP h (c_isSystem (d := 59) h.1 a b c) fk3 fun I1 z1 m r => q_isSystem (d := 64) r m a b c
theorem j_primary (h : jW z I) (a b : Int) : jStep m_Works_primary m_Model_primary [vR 11 1, vI a, vI b] [vR 12 209, vI a, vI b] z I := by
  obtain ⟨D, T, nt, n, L, K, B, tp, rf, sh, mb, h⟩ := h
  exact j_rP h (c_primary (d := 60) h.1 a b) fk2 fun I1 z1 m r => q_primary (d := 60) r m a b
theorem j_secondaries (h : jW z I) : jStep m_Works_secondaries m_Model_secondaries [vR 11 1] [vR 12 209] z I := by
  obtain ⟨D, T, nt, n, L, K, B, tp, rf, sh, mb, h⟩ := h
  exact j_rP h (c_secondaries (d := 59) h.1) (fk_c nMd1 fk_n) fun I1 z1 m r => q_secondaries (d := 60) r m
theorem j_secondary (h : jW z I) (a b : Int) : jStep m_Works_secondary m_Model_secondary [vR 11 1, vI a, vI b] [vR 12 209, vI a, vI b] z I := by
  obtain ⟨D, T, nt, n, L, K, B, tp, rf, sh, mb, h⟩ := h
  exact j_rP h (c_secondary (d := 59) h.1 a b) fk2 fun I1 z1 m r => q_secondary (d := 60) r m a b
theorem j_numerator (h : jW z I) (a : Int) : jStep m_Works_numerator m_Model_numerator [vR 11 1, vI a] [vR 12 209, vI a] z I := by
  obtain ⟨D, T, nt, n, L, K, B, tp, rf, sh, mb, h⟩ := h
  exact j_rP h (c_numerator (d := 59) h.1 a) fk1 fun I1 z1 m r => q_numerator (d := 60) r m a
theorem j_rewrite (h : jW z I) (a : Int) : jStep m_Works_rewrite m_Model_rewrite [vR 11 1, vI a] [vR 12 209, vI a] z I := by
  obtain ⟨D, T, nt, n, L, K, B, tp, rf, sh, mb, h⟩ := h
  exact j_rP h (c_rewrite (d := 59) h.1 a) fk1 fun I1 z1 m r => q_rewrite (d := 60) r m a
theorem j_relation (h : jW z I) (i g a b c e : Int) (hb : b ≤ 2147483647) (hc : c ≤ 2147483647) (he : e ≤ 2147483647) : jStep m_Works_relation m_Model_relation [vR 11 1, vI i, vI g, vI a, vI b, vI c, vI e] [vR 12 209, vI i, vI g, vI a, vI b, vI c, vI e] z I := by
  obtain ⟨D, T, nt, n, L, K, B, tp, rf, sh, mb, h⟩ := h
  exact j_rP h (c_relation (d := 59) h.1 i g a b c e hb hc he) fk6 fun I1 z1 m r => q_relation (d := 60) r m i g a b c e
theorem j_moved (h : jW z I) (a b c : Int) : jStep m_Works_moved m_Model_moved [vR 11 1, vI a, vI b, vI c] [vR 12 209, vI a, vI b, vI c] z I := by
  obtain ⟨D, T, nt, n, L, K, B, tp, rf, sh, mb, h⟩ := h
  exact j_put h (c_moved (d := 62) h.1 a b c) fk3 fun I1 z1 m r => q_moved (d := 65) r m a b c
theorem j_average (h : jW z I) (a b : Int) : jStep m_Works_average m_Model_average [vR 11 1, vI a, vI b] [vR 12 209, vI a, vI b] z I := by
  obtain ⟨D, T, nt, n, L, K, B, tp, rf, sh, mb, h⟩ := h
  exact j_put h (c_average (d := 62) h.1 a b) fk2 fun I1 z1 m r => q_average (d := 65) r m a b
theorem j_plus (h : jW z I) (a b c e : Int) : jStep m_Works_plus m_Model_plus [vR 11 1, vI a, vI b, vI c, vI e] [vR 12 209, vI a, vI b, vI c, vI e] z I := by
  obtain ⟨D, T, nt, n, L, K, B, tp, rf, sh, mb, h⟩ := h
  exact j_put h (c_plus (d := 67) h.1 a b c e) fk4 fun I1 z1 m r => q_plus (d := 67) r m a b c e
theorem j_product (h : jW z I) (a b c : Int) : jStep m_Works_product m_Model_product_ [vR 11 1, vI a, vI b, vI c] [vR 12 209, vI a, vI b, vI c] z I := by
  obtain ⟨D, T, nt, n, L, K, B, tp, rf, sh, mb, h⟩ := h
  exact j_put h (c_product (d := 66) h.1 a b c) fk3 fun I1 z1 m r => q_product (d := 66) r m a b c
theorem j_base (h : jW z I) (a b c : Int) : jStep m_Works_base m_Model_base [vR 11 1, vI a, vI b, vI c] [vR 12 209, vI a, vI b, vI c] z I := by
  obtain ⟨D, T, nt, n, L, K, B, tp, rf, sh, mb, h⟩ := h
  exact j_put h (c_base (d := 61) h.1 a b c) fk3 fun I1 z1 m r => q_base (d := 64) r m a b c
end JNT
