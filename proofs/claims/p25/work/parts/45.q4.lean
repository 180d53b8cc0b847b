-- ===== p25: the best piece, bridges, moves, a throw's end =====
/-- the kind of a move, told by both -/
theorem kd_Z {vp vs vb vg : IA} {pl j cn : Nat} (hv : ∀ k, k < 12 → okv (vp k)) (hF : FB vb) (hpl : pl < 4) (hj : j < 3) (hc : 1 ≤ cn) (h : mwn (ZZ vp vs vb vg) (3 * pl + j) cn = 0) :
    ∃ d e : Nat, d ≤ 3 ∧ e ≤ 36 ∧ rkM (ZZ vp vs vb vg) (3 * pl + j) cn = nI (100 * d + e) ∧ lrk vp vb vg pl (3 * pl + j) cn = nI (64 * d + e) := by
  have hk : 3 * pl + j < 12 := by omega
  have ep : (3 * pl + j) / 3 = pl := by omega
  have hz : ∀ k, k < 12 → okv (ZZ vp vs vb vg k) := fun k hk => by rw [Z_p hk]; exact hv k hk
  have hne := mwn_tgt h
  rw [ep, Z_p hk] at hne
  obtain ⟨t, ht, et, hnt⟩ := tgtM_ne (hv _ hk) hc hne
  have eto := wy_to (vs := vs) (vg := vg) hv hF hk hc h
  rw [ep, et] at eto
  obtain ⟨e, he, e1, e2⟩ : ∃ e : Nat, e ≤ 36 ∧ (if vp (3 * pl + j) = -6 then 0 else vp (3 * pl + j) + 1) = nI e ∧ lph (vp (3 * pl + j)) = nI e := by
    rcases hv _ hk with q | ⟨a, ha, q⟩
    · exact ⟨0, by decide, by rw [if_pos q]; rfl, by rw [lph, q, if_neg (by decide)]; rfl⟩
    · exact ⟨a + 1, by omega, by rw [q, if_neg (nI_neg (by omega) (by decide))]; exact nI_1 a, by rw [lph, q, if_pos (nI_pos' (by omega))]; exact nI_1 a⟩
  have hf : okf (rf pl (nI t)) := rf_okf _ hpl
  obtain ⟨d, hd, d1, d2⟩ : ∃ d : Nat, d ≤ 3 ∧ kdG (ZZ vp vs vb vg) (3 * pl + j) (nI t) = nI d ∧ lkd vp pl (3 * pl + j) (nI t) = nI d := by
    have h35 : nI t = 35 ↔ t = 35 := nI_eq (b := 35) (by omega) (by decide)
    have c1 : mpc vp pl (lfd pl (nI t)) = mpc (ZZ vp vs vb vg) pl (rf pl (nI t)) := by rw [mpc_l hpl, mpc_Z hpl]
    have c2 : (¬ lfd pl (nI t) < 0 ∧ mpc vp pl (lfd pl (nI t)) < ao vp (lfd pl (nI t)) 4) ↔ (¬ rf pl (nI t) < 0 ∧ mpc (ZZ vp vs vb vg) pl (rf pl (nI t)) < ao (ZZ vp vs vb vg) (rf pl (nI t)) 4) := by rw [lf_neg hpl, c1, ao_l hpl, ao_Z]
    rw [kdG, lkd, ep]
    by_cases q1 : t = 35
    · exact ⟨3, by decide, by rw [if_pos (h35.mpr q1)]; rfl, by rw [if_pos (h35.mpr q1)]; rfl⟩
    rw [if_neg (fun w => q1 (h35.mp w)), if_neg (fun w => q1 (h35.mp w))]
    have ea := ao_rv (z := ZZ vp vs vb vg) (f := rf pl (nI t)) hpl
    by_cases q2 : rvM (ZZ vp vs vb vg) pl (rf pl (nI t)) = 0
    · have n2 : ¬ (¬ lfd pl (nI t) < 0 ∧ mpc vp pl (lfd pl (nI t)) < ao vp (lfd pl (nI t)) 4) := fun w => by have := (c2.mp w).2; omega
      rw [if_neg (fun w => w ((ot_lt hf).mpr q2)), if_neg n2, c1]
      by_cases q3 : 0 < mpc (ZZ vp vs vb vg) pl (rf pl (nI t))
      · exact ⟨1, by decide, by rw [if_pos q3]; rfl, by rw [if_pos q3]; rfl⟩
      · exact ⟨0, by decide, by rw [if_neg q3]; rfl, by rw [if_neg q3]; rfl⟩
    · have hn : ¬ rf pl (nI t) < 0 := fun w => q2 (by
        rw [rvM, mpc_n w, mpc_n w, mpc_n w, mpc_n w]; simp)
      exact ⟨2, by decide, by rw [if_pos (fun w => q2 ((ot_lt hf).mp w))]; rfl, by rw [if_pos (c2.mpr ⟨hn, by omega⟩)]; rfl⟩
  refine ⟨d, e, hd, he, ?_, ?_⟩
  · rw [rkM, kdM, ep, Z_p hk, et, d1, e1, show (100 : Int32) = nI 100 from rfl, pk_mul, nI_add]
  · rw [lrk, eto, d2, e2, show (64 : Int32) = nI 64 from rfl, pk_mul, nI_add]
/-- what the best piece is: it can be moved, and none that can is better, nor as good and lower -/
def BP (vp vs vb vg : IA) (pl cn lo hi j : Nat) : Prop := lo ≤ j ∧ j < hi ∧ mwn (ZZ vp vs vb vg) (3 * pl + j) cn = 0 ∧ ∀ i, lo ≤ i → i < hi → mwn (ZZ vp vs vb vg) (3 * pl + i) cn = 0 → ∀ d e d' e' : Nat, d ≤ 3 → e ≤ 36 → d' ≤ 3 → e' ≤ 36 → rkM (ZZ vp vs vb vg) (3 * pl + i) cn = nI (100 * d + e) → rkM (ZZ vp vs vb vg) (3 * pl + j) cn = nI (100 * d' + e') → 100 * d + e < 100 * d' + e' ∨ (100 * d + e = 100 * d' + e' ∧ j ≤ i)
theorem BP_one {vp vs vb vg : IA} {pl cn j k : Nat} (hv : ∀ k, k < 12 → okv (vp k)) (hF : FB vb) (hpl : pl < 4) (hc : 1 ≤ cn) (h1 : BP vp vs vb vg pl cn 0 3 j) (h2 : BP vp vs vb vg pl cn 0 3 k) : j = k := by
  obtain ⟨_, hj, aj, bj⟩ := h1
  obtain ⟨_, hk, ak, bk⟩ := h2
  obtain ⟨d, e, hd, he, r1, _⟩ := kd_Z hv hF hpl hj hc aj
  obtain ⟨d', e', hd', he', r2, _⟩ := kd_Z hv hF hpl hk hc ak
  have b1 := bj k (Nat.zero_le k) hk ak d' e' d e hd' he' hd he r2 r1
  have b2 := bk j (Nat.zero_le j) hj aj d e d' e' hd he hd' he' r1 r2
  omega
theorem bpT_P {vp vs vb vg : IA} {pl cn : Nat} (hv : ∀ k, k < 12 → okv (vp k)) (hF : FB vb) (hpl : pl < 4) (hc : 1 ≤ cn) : ∀ n, n ≤ 3 →
    ((bpT (ZZ vp vs vb vg) pl cn n).1 = -6 ∧ ∀ i, i < n → ¬ mwn (ZZ vp vs vb vg) (3 * pl + i) cn = 0) ∨ ∃ j, (bpT (ZZ vp vs vb vg) pl cn n).1 = nI j ∧ (bpT (ZZ vp vs vb vg) pl cn n).2 = rkM (ZZ vp vs vb vg) (3 * pl + j) cn ∧ BP vp vs vb vg pl cn 0 n j
  | 0, _ => Or.inl ⟨rfl, fun i h => absurd h (Nat.not_lt_zero i)⟩
  | n + 1, hn => by
    have ih := bpT_P (vs := vs) (vg := vg) hv hF hpl hc n (by omega)
    rw [bpT]
    by_cases q : mwn (ZZ vp vs vb vg) (3 * pl + n) cn = 0
    · obtain ⟨d, e, hd, he, r1, _⟩ := kd_Z hv hF hpl (show n < 3 by omega) hc q
      rcases ih with ⟨a1, a2⟩ | ⟨j, a1, a2, h0, hj, aj, bj⟩
      · rw [if_pos ⟨q, Or.inl (by rw [a1]; exact n6)⟩]
        refine Or.inr ⟨n, rfl, rfl, Nat.zero_le n, Nat.lt_succ_self n, q, fun i _ hi ai d1 e1 d2 e2 h1 h2 h3 h4 x1 x2 => ?_⟩
        by_cases w : i = n
        · subst w; rw [x1, nI_eq (by omega) (by omega)] at x2; exact Or.inr ⟨x2, Nat.le_refl _⟩
        · exact absurd ai (a2 i (by omega))
      · obtain ⟨d', e', hd', he', r2, _⟩ := kd_Z hv hF hpl (show j < 3 by omega) hc aj
        rw [a1, a2, r1, r2]
        by_cases w : 100 * d + e ≤ 100 * d' + e'
        · rw [if_neg (fun z => z.2.elim (fun z => nI_pos (by omega) z) (fun z => z ((nI_leI (by omega) (by omega)).mpr w)))]
          refine Or.inr ⟨j, a1, by rw [a2, r2], h0, by omega, aj, fun i h0i hi ai d1 e1 d2 e2 h1 h2 h3 h4 x1 x2 => ?_⟩
          by_cases wi : i = n
          · subst wi
            rw [r1, nI_eq (by omega) (by omega)] at x1
            rw [r2, nI_eq (by omega) (by omega)] at x2
            rcases Nat.lt_or_eq_of_le w with w | w
            · exact Or.inl (by omega)
            · exact Or.inr ⟨by omega, by omega⟩
          · exact bj i h0i (by omega) ai d1 e1 d2 e2 h1 h2 h3 h4 x1 x2
        · rw [if_pos ⟨q, Or.inr (fun z => w ((nI_leI (by omega) (by omega)).mp z))⟩]
          refine Or.inr ⟨n, rfl, by rw [r1], Nat.zero_le n, Nat.lt_succ_self n, q, fun i h0i hi ai d1 e1 d2 e2 h1 h2 h3 h4 x1 x2 => ?_⟩
          rw [r1, nI_eq (by omega) (by omega)] at x2
          by_cases wi : i = n
          · subst wi; rw [r1, nI_eq (by omega) (by omega)] at x1; exact Or.inr ⟨by omega, Nat.le_refl _⟩
          · have := bj i h0i (by omega) ai d1 e1 d' e' h1 h2 hd' he' x1 r2
            exact Or.inl (by omega)
    · rw [if_neg (fun z => q z.1)]
      rcases ih with ⟨a1, a2⟩ | ⟨j, a1, a2, h0, hj, aj, bj⟩
      · exact Or.inl ⟨a1, fun i hi => by
          by_cases w : i = n
          · rw [w]; exact q
          · exact a2 i (by omega)⟩
      · refine Or.inr ⟨j, a1, a2, h0, by omega, aj, fun i h0i hi ai => ?_⟩
        by_cases w : i = n
        · rw [w] at ai; exact absurd ai q
        · exact bj i h0i (by omega) ai
theorem lbs_P {vp vs vb vg : IA} {pl cn : Nat} (hv : ∀ k, k < 12 → okv (vp k)) (hF : FB vb) (hpl : pl < 4) (hc : 1 ≤ cn) : ∀ n, n ≤ 3 →
    ((lbs vp vb vg pl cn n).1 = -6 ∧ (lbs vp vb vg pl cn n).2 = -1 ∧ ∀ i, 3 - n ≤ i → i < 3 → ¬ mwn (ZZ vp vs vb vg) (3 * pl + i) cn = 0) ∨ ∃ j, (lbs vp vb vg pl cn n).1 = nI j ∧ (lbs vp vb vg pl cn n).2 = lrk vp vb vg pl (3 * pl + j) cn ∧ BP vp vs vb vg pl cn (3 - n) 3 j
  | 0, _ => Or.inl ⟨rfl, rfl, fun i h h2 => by omega⟩
  | n + 1, hn => by
    have ih := lbs_P (vs := vs) (vg := vg) hv hF hpl hc n (by omega)
    have hk : 2 - n < 3 := by omega
    have en : 3 - (n + 1) = 2 - n := by omega
    have hneg := wy_neg (vs := vs) (vg := vg) hv hF (show 3 * pl + (2 - n) < 12 by omega) hc
    rw [lbs, en]
    by_cases q : mwn (ZZ vp vs vb vg) (3 * pl + (2 - n)) cn = 0
    · have hp : ¬ lwy vp vb vg (3 * pl + (2 - n)) cn - 10 < 0 := fun w => hneg.mp w q
      obtain ⟨d, e, hd, he, r1, s1⟩ := kd_Z hv hF hpl hk hc q
      rcases ih with ⟨a1, a2, a3⟩ | ⟨j, a1, a2, h0, hj, aj, bj⟩
      · rw [if_neg (fun z => z.elim hp (fun z => by rw [a2, s1] at z; exact nI_pos (show 64 * d + e < 2 ^ 31 by omega) (Int32.lt_trans z (by decide))))]
        refine Or.inr ⟨2 - n, rfl, rfl, Nat.le_refl _, hk, q, fun i h0i hi ai d1 e1 d2 e2 h1 h2 h3 h4 x1 x2 => ?_⟩
        by_cases w : i = 2 - n
        · subst w; rw [x1, nI_eq (by omega) (by omega)] at x2; exact Or.inr ⟨x2, Nat.le_refl _⟩
        · exact absurd ai (a3 i (by omega) hi)
      · obtain ⟨d', e', hd', he', r2, s2⟩ := kd_Z hv hF hpl (show j < 3 by omega) hc aj
        rw [a2, s1, s2]
        by_cases w : 64 * d + e < 64 * d' + e'
        · rw [if_pos (Or.inr ((nI_ltI (by omega) (by omega)).mpr w))]
          refine Or.inr ⟨j, a1, by rw [a2, s2], by omega, hj, aj, fun i h0i hi ai d1 e1 d2 e2 h1 h2 h3 h4 x1 x2 => ?_⟩
          by_cases wi : i = 2 - n
          · subst wi
            rw [r1, nI_eq (by omega) (by omega)] at x1
            rw [r2, nI_eq (by omega) (by omega)] at x2
            exact Or.inl (by omega)
          · exact bj i (by omega) hi ai d1 e1 d2 e2 h1 h2 h3 h4 x1 x2
        · rw [if_neg (fun z => z.elim hp (fun z => w ((nI_ltI (by omega) (by omega)).mp z)))]
          refine Or.inr ⟨2 - n, rfl, by rw [s1], Nat.le_refl _, hk, q, fun i h0i hi ai d1 e1 d2 e2 h1 h2 h3 h4 x1 x2 => ?_⟩
          rw [r1, nI_eq (by omega) (by omega)] at x2
          by_cases wi : i = 2 - n
          · subst wi; rw [r1, nI_eq (by omega) (by omega)] at x1; exact Or.inr ⟨by omega, Nat.le_refl _⟩
          · have := bj i (by omega) hi ai d1 e1 d' e' h1 h2 hd' he' x1 r2
            rcases this with t | t
            · exact Or.inl (by omega)
            · by_cases wq : 100 * d' + e' = 100 * d + e
              · exact Or.inr ⟨by omega, by omega⟩
              · exact Or.inl (by omega)
    · rw [if_pos (Or.inl (hneg.mpr q))]
      rcases ih with ⟨a1, a2, a3⟩ | ⟨j, a1, a2, h0, hj, aj, bj⟩
      · exact Or.inl ⟨a1, a2, fun i h0i hi => by
          by_cases w : i = 2 - n
          · rw [w]; exact q
          · exact a3 i (by omega) hi⟩
      · refine Or.inr ⟨j, a1, a2, by omega, hj, aj, fun i h0i hi ai => ?_⟩
        by_cases w : i = 2 - n
        · rw [w] at ai; exact absurd ai q
        · exact bj i (by omega) hi ai
theorem be_Z {vp vs vb vg : IA} {pl cn : Nat} (hv : ∀ k, k < 12 → okv (vp k)) (hF : FB vb) (hpl : pl < 4) (hc : 1 ≤ cn) : lbe vp vb vg pl cn = bpM (ZZ vp vs vb vg) pl cn := by
  rw [lbe, bpM]
  rcases bpT_P (vs := vs) (vg := vg) hv hF hpl hc 3 (Nat.le_refl 3) with ⟨a1, a2⟩ | ⟨j, a1, _, a3⟩ <;> rcases lbs_P (vs := vs) (vg := vg) hv hF hpl hc 3 (Nat.le_refl 3) with ⟨b1, _, b2⟩ | ⟨k, b1, _, b3⟩
  · rw [a1, b1]
  · exact absurd b3.2.2.1 (a2 k b3.2.1)
  · exact absurd a3.2.2.1 (b2 j (by omega) a3.2.1)
  · rw [a1, b1, BP_one hv hF hpl hc a3 b3]
-- bridges
theorem or_0 {x : Int32} : x ||| 0 = x := Int32.or_zero
theorem lb1_eq {vp vb : IA} {k : Nat} (h : vb (3 * k + 1) = 0 ∨ vb (3 * k + 1) = 1) : ∀ j, lb1 vp k vb j = upd vb (3 * k + 1) (if vb (3 * k) = 0 ∧ prO vp (nI (8 * k + 4)) j = true then 1 else vb (3 * k + 1))
  | 0 => by rw [lb1, if_neg (fun w => by have := w.2; rw [prO] at this; cases this), upd_self]
  | j + 1 => by
    rw [lb1, lb1_eq h j, upd_upd, upd_eq, upd_ne (by omega), prO]
    congr 1
    by_cases q0 : vb (3 * k) = 0
    · by_cases q1 : prO vp (nI (8 * k + 4)) j = true
      · rw [if_pos (show vb (3 * k) = 0 ∧ prO vp (nI (8 * k + 4)) j = true from ⟨q0, q1⟩), if_pos (show vb (3 * k) = 0 ∧ (prO vp (nI (8 * k + 4)) j || decide (1 < mpc vp j (nI (8 * k + 4)))) = true from ⟨q0, by rw [q1]; rfl⟩)]
        split <;> decide
      · rw [if_neg (show ¬ (vb (3 * k) = 0 ∧ prO vp (nI (8 * k + 4)) j = true) from fun w => q1 w.2)]
        by_cases q2 : 1 < mpc vp j (nI (8 * k + 4))
        · rw [if_pos (show vb (3 * k) = 0 ∧ 1 < mpc vp j (nI (8 * k + 4)) from ⟨q0, q2⟩), if_pos (show vb (3 * k) = 0 ∧ (prO vp (nI (8 * k + 4)) j || decide (1 < mpc vp j (nI (8 * k + 4)))) = true from ⟨q0, by rw [decide_eq_true q2, Bool.or_true]⟩)]
          rcases h with e | e <;> rw [e] <;> decide
        · rw [if_neg (show ¬ (vb (3 * k) = 0 ∧ 1 < mpc vp j (nI (8 * k + 4))) from fun w => q2 w.2), if_neg (show ¬ (vb (3 * k) = 0 ∧ (prO vp (nI (8 * k + 4)) j || decide (1 < mpc vp j (nI (8 * k + 4)))) = true) from fun w => by have := w.2; rw [bool_n q1, decide_eq_false q2] at this; cases this)]; exact or_0
    · rw [if_neg (show ¬ (vb (3 * k) = 0 ∧ prO vp (nI (8 * k + 4)) j = true) from fun w => q0 w.1), if_neg (show ¬ (vb (3 * k) = 0 ∧ 1 < mpc vp j (nI (8 * k + 4))) from fun w => q0 w.1), if_neg (show ¬ (vb (3 * k) = 0 ∧ (prO vp (nI (8 * k + 4)) j || decide (1 < mpc vp j (nI (8 * k + 4)))) = true) from fun w => q0 w.1)]; exact or_0
theorem lb1_Z {vp vs vb vg : IA} {k : Nat} (hk : k < 4) (hF : FB vb) : ZZ vp vs (lb1 vp k vb 4) vg = lk1 (ZZ vp vs vb vg) k := by
  rw [lb1_eq (hF k hk).2 4, lk1, Z_0 hk, prO_c (z := vp) (fun p hp => mpc_Z hp) 4 (Nat.le_refl 4)]
  by_cases q : vb (3 * k) = 0 ∧ prO vp (nI (8 * k + 4)) 4 = true
  · rw [if_pos q, if_pos q, U_1 hk]
  · rw [if_neg q, if_neg q, upd_self]
theorem lb1_F {vp vb : IA} {k j : Nat} (hk : k < 4) (hF : FB vb) : FB (lb1 vp k vb j) := fun i hi => by
  rw [lb1_eq (hF k hk).2 j, upd_ne (by omega)]
  refine ⟨(hF i hi).1, ?_⟩
  by_cases e : i = k
  · subst e; rw [upd_eq]; split
    · exact Or.inr rfl
    · exact (hF i hi).2
  · rw [upd_ne (by omega)]; exact (hF i hi).2
theorem lb2_Z {vp vs vb vg : IA} {k : Nat} (hk : k < 4) (hF : FB vb) : ZZ vp vs (lb2 vp k vb vg).1 (lb2 vp k vb vg).2 = lk2 (ZZ vp vs vb vg) k := by
  rw [lb2, lk2, Z_1 hk, ao_Z]
  by_cases q : vb (3 * k + 1) = 0 ∨ 0 < ao vp (nI (8 * k + 4)) 4
  · rw [if_pos q, if_neg (fun w => q.elim (fun z => by have h1 := w.1; rw [z] at h1; exact absurd h1 (by decide)) (fun z => by omega))]
  · rw [if_neg q, if_pos ⟨(hF k hk).2.resolve_left (fun z => q (Or.inl z)), by have := fun z => q (Or.inr z); omega⟩]
    have e1 : upd (upd (ZZ vp vs vb vg) (28 + k) 0) (24 + k) 1 42 = vg 6 := by rw [upd_ne (by omega), upd_ne (by omega)]; exact Z_g (i := 6)
    have e2 : upd (upd (upd (ZZ vp vs vb vg) (28 + k) 0) (24 + k) 1) (32 + k) (vg 6) 45 = vg 9 := by rw [upd_ne (by omega), upd_ne (by omega), upd_ne (by omega)]; exact Z_g (i := 9)
    rw [e1, e2]
    have ec : upd (upd (upd vb (3 * k) 1) (3 * k + 1) 0) (3 * k + 2) (vg 6) = upd (upd (upd vb (3 * k + 1) 0) (3 * k) 1) (3 * k + 2) (vg 6) := by
      congr 1; funext j; simp only [upd]; split <;> split <;> first | rfl | omega
    show ZZ vp vs (upd (upd (upd vb (3 * k) 1) (3 * k + 1) 0) (3 * k + 2) (vg 6)) (upd vg 9 (vg 9 + 1)) = _
    rw [ec, U_g, U_2 hk, U_0 hk, U_1 hk]
theorem lb2_F {vp vb vg : IA} {k : Nat} (hk : k < 4) (hF : FB vb) : FB (lb2 vp k vb vg).1 := fun i hi => by
  rw [lb2]; split
  · exact hF i hi
  · show (upd (upd (upd vb (3 * k) 1) (3 * k + 1) 0) (3 * k + 2) (vg 6) (3 * i) = 0 ∨ upd (upd (upd vb (3 * k) 1) (3 * k + 1) 0) (3 * k + 2) (vg 6) (3 * i) = 1) ∧ (upd (upd (upd vb (3 * k) 1) (3 * k + 1) 0) (3 * k + 2) (vg 6) (3 * i + 1) = 0 ∨ upd (upd (upd vb (3 * k) 1) (3 * k + 1) 0) (3 * k + 2) (vg 6) (3 * i + 1) = 1)
    by_cases e : i = k
    · subst e
      have a1 : upd (upd (upd vb (3 * i) 1) (3 * i + 1) 0) (3 * i + 2) (vg 6) (3 * i) = 1 := by rw [upd_ne (by omega), upd_ne (by omega), upd_eq]
      have a2 : upd (upd (upd vb (3 * i) 1) (3 * i + 1) 0) (3 * i + 2) (vg 6) (3 * i + 1) = 0 := by rw [upd_ne (by omega), upd_eq]
      exact ⟨Or.inr a1, Or.inl a2⟩
    · have a1 : upd (upd (upd vb (3 * k) 1) (3 * k + 1) 0) (3 * k + 2) (vg 6) (3 * i) = vb (3 * i) := by rw [upd_ne (by omega), upd_ne (by omega), upd_ne (by omega)]
      have a2 : upd (upd (upd vb (3 * k) 1) (3 * k + 1) 0) (3 * k + 2) (vg 6) (3 * i + 1) = vb (3 * i + 1) := by rw [upd_ne (by omega), upd_ne (by omega), upd_ne (by omega)]
      rw [a1, a2]; exact hF i hi
theorem lbr_Z {vp vs vb vg : IA} (hF : FB vb) : ∀ n, n ≤ 4 → ZZ vp vs (lbr vp vb vg n).1 (lbr vp vb vg n).2 = lk (ZZ vp vs vb vg) n ∧ FB (lbr vp vb vg n).1
  | 0, _ => ⟨rfl, hF⟩
  | n + 1, hn => by
    obtain ⟨h1, h2⟩ := lbr_Z (vs := vs) (vg := vg) hF n (by omega)
    rw [lbr, lk, ← h1, ← lb1_Z (by omega) h2]
    exact ⟨lb2_Z (by omega) (lb1_F (by omega) h2), lb2_F (by omega) (lb1_F (by omega) h2)⟩
/-- in bounds behind it too -/
theorem lb1_B {T : Nat} {vp vb vg : IA} {k j : Nat} (hk : k < 4) (h : TB T vb vg) : TB T (lb1 vp k vb j) vg := by
  have hF := TB_F h
  obtain ⟨t, m, ht, hm, e6, e1, hb⟩ := h
  exact ⟨t, m, ht, hm, e6, e1, fun i hi => ⟨lb1_F hk hF i hi, by rw [lb1_eq (hF k hk).2 j, upd_ne (by omega)]; exact (hb i hi).2⟩⟩
theorem lb2_B {T : Nat} {vp vb vg : IA} {k : Nat} (hk : k < 4) (h : TB T vb vg) : TB T (lb2 vp k vb vg).1 (lb2 vp k vb vg).2 := by
  have hF := lb2_F (vp := vp) (vg := vg) hk (TB_F h)
  obtain ⟨t, m, ht, hm, e6, e1, hb⟩ := h
  refine ⟨t, m, ht, hm, ?_, ?_, fun i hi => ⟨hF i hi, ?_⟩⟩
  · rw [lb2]; split
    · exact e6
    · show upd vg 9 (vg 9 + 1) 6 = nI t; rw [upd_ne (by decide)]; exact e6
  · rw [lb2]; split
    · exact e1
    · show upd vg 9 (vg 9 + 1) 1 = nI m; rw [upd_ne (by decide)]; exact e1
  · rw [lb2]; split
    · exact (hb i hi).2
    · show ∃ f : Nat, f ≤ t ∧ upd (upd (upd vb (3 * k) 1) (3 * k + 1) 0) (3 * k + 2) (vg 6) (3 * i + 2) = nI f
      by_cases e : i = k
      · subst e; rw [upd_eq]; exact ⟨t, Nat.le_refl t, e6⟩
      · rw [upd_ne (by omega), upd_ne (by omega), upd_ne (by omega)]; exact (hb i hi).2
theorem lbr_B {T : Nat} {vp vb vg : IA} (h : TB T vb vg) : ∀ n, n ≤ 4 → TB T (lbr vp vb vg n).1 (lbr vp vb vg n).2
  | 0, _ => h
  | n + 1, hn => by rw [lbr]; exact lb2_B (by omega) (lb1_B (by omega) (lbr_B h n (by omega)))
