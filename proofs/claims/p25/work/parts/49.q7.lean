-- ===== p25: what is foretold: throws to come, and until it is over =====
theorem xN_nn {x : Int32} (h : ¬ x < 0) : ∀ n, ¬ xN x n < 0
  | 0 => h
  | n + 1 => by rw [xN]; exact nx_nn (xN_nn h n)
theorem ZZ_c {vp vs vb vg p0 s0 b0 g0 : IA} (hp : ∀ k, k < 12 → p0 k = vp k) (hs : ∀ k, k < 12 → s0 k = vs k) (hb : ∀ k, k < 12 → b0 k = vb k) (hg : ∀ k, k < 10 → g0 k = vg k) : ∀ k, k < 46 → ZZ p0 s0 b0 g0 k = ZZ vp vs vb vg k := fun k hk => by
  rw [ZZ, ZZ]; repeat' split
  · exact hp k (by omega)
  · exact hs _ (by omega)
  · exact hb _ (by omega)
  · exact hb _ (by omega)
  · exact hb _ (by omega)
  · exact hg _ (by omega)
theorem TB_c {T : Nat} {vb vg b0 g0 : IA} (hb : ∀ k, k < 12 → b0 k = vb k) (hg : ∀ k, k < 10 → g0 k = vg k) (h : TB T vb vg) : TB T b0 g0 := by
  obtain ⟨t, m, ht, hm, e6, e1, h⟩ := h
  exact ⟨t, m, ht, hm, by rw [hg 6 (by decide)]; exact e6, by rw [hg 1 (by decide)]; exact e1, fun i hi => by rw [hb _ (by omega), hb _ (by omega), hb _ (by omega)]; exact h i hi⟩
theorem TB_m {T U : Nat} {vb vg : IA} (h : TB T vb vg) (hU : T ≤ U) : TB U vb vg := by
  obtain ⟨t, m, ht, h⟩ := h
  exact ⟨t, m, by omega, h⟩
def LX (se : IA) (T : Nat) (u : L4) : Prop := (∃ g, RG g (ZZ u.1 u.2.1 u.2.2.1 u.2.2.2)) ∧ RS se (ZZ u.1 u.2.1 u.2.2.1 u.2.2.2) ∧ TB T u.2.2.1 u.2.2.2
theorem LX_ok {se p0 s0 b0 g0 : IA} {T : Nat} (h : LX se T (p0, s0, b0, g0)) : (∀ k, k < 12 → okv (p0 k)) ∧ ¬ g0 3 < 0 ∧ ∃ pl, pl < 4 ∧ g0 4 = nI pl := by
  obtain ⟨⟨⟨pr, sb, br, fe, fl, x, pl, th, tu, ca⟩, h⟩, _, _⟩ := h
  obtain ⟨hp, ht, hr, hx, h40, hth, htu, hca⟩ := RG_iff.mp h
  refine ⟨fun k hk => ?_, ?_, pl, h40.2, (Z_g (i := 4)).symm.trans h40.1⟩
  · rw [← Z_p (vp := p0) (vs := s0) (vb := b0) (vg := g0) hk]; exact hp.2.1 k hk
  · have e : g0 3 = x := (Z_g (i := 3)).symm.trans hx.1.symm
    rw [e]; exact hx.2
theorem LX_st {se p0 s0 b0 g0 : IA} {T : Nat} (h : LX se T (p0, s0, b0, g0)) (hT : T < 2 ^ 29) : LX se (T + 1) (lpS (p0, s0, b0, g0)) := by
  obtain ⟨⟨g, h⟩, hs, hB⟩ := h
  obtain ⟨e1, hB1⟩ := lp_Z h hT hB
  obtain ⟨r1, r2⟩ := one_M h hs
  rw [← e1] at r1 r2
  exact ⟨⟨_, r1⟩, r2, hB1⟩
theorem lpN_i0 {mo : Nat} {u : L4} : lpN mo u = ((lpN (mo - 0) u).1, (lpN (mo - 0) u).2 + 0) := rfl
theorem lpN_st {mo i : Nat} {u u' u0 : L4} (hi : i < mo) (hw : ¬ 0 ≤ lwi u.1) (ho : u' = lpS u) (hf : lpN mo u0 = ((lpN (mo - i) u).1, (lpN (mo - i) u).2 + i)) : lpN mo u0 = ((lpN (mo - (i + 1)) u').1, (lpN (mo - (i + 1)) u').2 + (i + 1)) := by
  rw [hf, show mo - i = (mo - (i + 1)) + 1 by omega, lpN, if_neg hw, ho, Nat.add_assoc, Nat.add_comm 1 i]
theorem lpN_end {mo i : Nat} {u u0 : L4} (h : mo ≤ i ∨ 0 ≤ lwi u.1) (hi : i ≤ mo) (hf : lpN mo u0 = ((lpN (mo - i) u).1, (lpN (mo - i) u).2 + i)) : lpN mo u0 = (u, i) := by
  rw [hf]
  cases e : mo - i with
  | zero => simp [lpN]
  | succ n =>
    rcases h with h | h
    · omega
    · rw [lpN, if_pos h]; simp
theorem eta4 (u : L4) : (u.1, u.2.1, u.2.2.1, u.2.2.2) = u := rfl
theorem LX_s2 {se p0 s0 b0 g0 : IA} {T i : Nat} (h : LX se (T + i) (p0, s0, b0, g0)) (hT : T + i < 2 ^ 29) : LX se (T + (i + 1)) ((lpS (p0, s0, b0, g0)).1, (lpS (p0, s0, b0, g0)).2.1, (lpS (p0, s0, b0, g0)).2.2.1, (lpS (p0, s0, b0, g0)).2.2.2) := by
  rw [eta4 (lpS (p0, s0, b0, g0))]; exact LX_st h hT
theorem lpN_s2 {mo i : Nat} {p0 s0 b0 g0 : IA} {u0 : L4} (hi : i < mo) (hw : ¬ 0 ≤ lwi p0) (hf : lpN mo u0 = ((lpN (mo - i) (p0, s0, b0, g0)).1, (lpN (mo - i) (p0, s0, b0, g0)).2 + i)) : lpN mo u0 = ((lpN (mo - (i + 1)) ((lpS (p0, s0, b0, g0)).1, (lpS (p0, s0, b0, g0)).2.1, (lpS (p0, s0, b0, g0)).2.2.1, (lpS (p0, s0, b0, g0)).2.2.2)).1, (lpN (mo - (i + 1)) ((lpS (p0, s0, b0, g0)).1, (lpS (p0, s0, b0, g0)).2.1, (lpS (p0, s0, b0, g0)).2.2.1, (lpS (p0, s0, b0, g0)).2.2.2)).2 + (i + 1)) := by
  rw [eta4 (lpS (p0, s0, b0, g0))]; exact lpN_st (u := (p0, s0, b0, g0)) (u' := lpS (p0, s0, b0, g0)) hi hw rfl hf
section RUs
variable {pr sb br fe se vp vs vb vg p0 s0 b0 g0 : IA} {fl x th tu ca : Int32} {pl T : Nat}
theorem LX_0 (h : LR (pr, sb, br, fe, se, fl, x, pl, th, tu, ca) T vp vs vb vg) (hp : ∀ k, k < 12 → p0 k = vp k) (hs : ∀ k, k < 12 → s0 k = vs k) (hb : ∀ k, k < 12 → b0 k = vb k) (hg : ∀ k, k < 10 → g0 k = vg k) : LX se (T + 0) (p0, s0, b0, g0) :=
  ⟨⟨_, RG_c (ZZ_c hp hs hb hg) (LR_RG h).1⟩, RS_c (fun k h1 h2 => ZZ_c hp hs hb hg k (by omega)) (LR_RG h).2, TB_c hb hg h.2.1⟩
theorem bu_n {se' : IA} {g : GS} (h : LR (pr, sb, br, fe, se, fl, x, pl, th, tu, ca) T vp vs vb vg) {cn : Nat} (hc : cn ≤ 6) (h5 : vg 5 = nI cn) : p_until th se' g = -5 := by
  rw [p_until, if_pos (show ¬ th = -6 from fun w => nI_neg (a := cn) (by omega) (by decide) (h5.symm.trans ((LR_5 h).1.trans w)))]
theorem bu_y {ypr ysb ybr yfe yse : IA} {u : L4} {i : Nat} (h : LR (pr, sb, br, fe, se, fl, x, pl, th, tu, ca) T vp vs vb vg) (h5 : vg 5 = -6) (hp : ∀ k, k < 12 → p0 k = vp k) (hs : ∀ k, k < 12 → s0 k = vs k) (hb : ∀ k, k < 12 → b0 k = vb k) (hg : ∀ k, k < 10 → g0 k = vg k) (he : lpN 400 (p0, s0, b0, g0) = (u, i)) :
    p_until th (va_cpy se yse 0 0 3) (va_cpy pr ypr 0 0 12, va_cpy sb ysb 0 0 12, va_cpy br ybr 0 0 4, va_cpy fe yfe 0 0 4, fl, x, pl, th, tu, ca) = if 0 ≤ lwi u.1 then nI i else -6 := by
  have hz := ZZ_c hp hs hb hg
  have hRc : RC (va_cpy pr ypr 0 0 12, va_cpy sb ysb 0 0 12, va_cpy br ybr 0 0 4, va_cpy fe yfe 0 0 4, va_cpy se yse 0 0 3, fl, x, pl, th, tu, ca) (ZZ p0 s0 b0 g0) := RC_geq geq_cpy (RC_c hz h.1)
  obtain ⟨k1, k2⟩ := RC_iff.mp hRc
  have e41 : ZZ p0 s0 b0 g0 41 = -6 := by rw [hz 41 (by decide)]; exact (Z_g (i := 5)).trans h5
  have eth : th = ZZ p0 s0 b0 g0 41 := by rw [e41]; exact (LR_5 h).1.symm.trans h5
  obtain ⟨⟨n1, _⟩, n2⟩ := lpN_Z 400 T _ p0 s0 b0 g0 k1 k2 (by have := h.2.2; omega) (TB_c hb hg h.2.1)
  have hpg := (pg_M 400 _ _ k1 k2).1.1
  rw [he] at n1 n2
  have n1 : ZZ u.1 u.2.1 u.2.2.1 u.2.2.2 = (pgM 400 (ZZ p0 s0 b0 g0)).1 := n1
  have n2 : i = (pgM 400 (ZZ p0 s0 b0 g0)).2 := n2
  rw [q_until k1 k2 eth, m_untilOver, if_neg (fun w => w e41), ← n1, ← n2]
  have hv : ∀ k, k < 12 → okv (u.1 k) := fun k hk => by
    rw [← n1] at hpg
    generalize (pg (va_cpy se yse 0 0 3) 400 (va_cpy pr ypr 0 0 12, va_cpy sb ysb 0 0 12, va_cpy br ybr 0 0 4, va_cpy fe yfe 0 0 4, fl, x, pl, th, tu, ca)).1 = gg at hpg
    obtain ⟨a1, a2, a3, a4, a5, a6, a7, a8, a9, a10⟩ := gg
    rw [← Z_p (vp := u.1) (vs := u.2.1) (vb := u.2.2.1) (vg := u.2.2.2) hk]; exact (RG_iff.mp hpg).1.2.1 k hk
  rw [← wi_Z hv]
  by_cases q : 0 ≤ lwi u.1
  · rw [if_pos (Int32.not_lt.mpr q), if_pos q]
  · rw [if_neg (fun w => q (Int32.not_lt.mp w)), if_neg q]
end RUs
