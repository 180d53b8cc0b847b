-- ===== p25: the class's game beside the law's rows: what isBoard and isAhead compare =====
def LR (g : GC) (T : Nat) (vp vs vb vg : IA) : Prop := RC g (ZZ vp vs vb vg) ∧ TB T vb vg ∧ T < 2 ^ 28
section RLs
variable {pr sb br fe se vp vs vb vg : IA} {fl x th tu ca : Int32} {pl T : Nat}
theorem LR_RG (h : LR (pr, sb, br, fe, se, fl, x, pl, th, tu, ca) T vp vs vb vg) : RG (pr, sb, br, fe, fl, x, pl, th, tu, ca) (ZZ vp vs vb vg) ∧ RS se (ZZ vp vs vb vg) := RC_iff.mp h.1
theorem LR_X5 (h : LR (pr, sb, br, fe, se, fl, x, pl, th, tu, ca) T vp vs vb vg) : (∀ k, k < 12 → okv (pr k)) ∧ ¬ x < 0 ∧ pl < 4 ∧ okc th := by
  obtain ⟨hp, ht, hr, hx, h40, hth, htu, hca⟩ := RG_iff.mp (LR_RG h).1
  exact ⟨fun k hk => by rw [hp.1 k hk]; exact hp.2.1 k hk, hx.2, h40.2, hth.2⟩
theorem LR_v (h : LR (pr, sb, br, fe, se, fl, x, pl, th, tu, ca) T vp vs vb vg) : ∀ k, k < 12 → okv (vp k) := fun k hk => by
  rw [← Z_p (vp := vp) (vs := vs) (vb := vb) (vg := vg) hk]; exact (RG_iff.mp (LR_RG h).1).1.2.1 k hk
theorem LR_3 (h : LR (pr, sb, br, fe, se, fl, x, pl, th, tu, ca) T vp vs vb vg) : vg 3 = x ∧ ¬ vg 3 < 0 := by
  obtain ⟨hp, ht, hr, hx, h40, hth, htu, hca⟩ := RG_iff.mp (LR_RG h).1
  have e : vg 3 = x := (Z_g (i := 3)).symm.trans hx.1.symm
  exact ⟨e, by rw [e]; exact hx.2⟩
theorem LR_4 (h : LR (pr, sb, br, fe, se, fl, x, pl, th, tu, ca) T vp vs vb vg) : vg 4 = nI pl := (Z_g (i := 4)).symm.trans (RG_iff.mp (LR_RG h).1).2.2.2.2.1.1
theorem LR_5 (h : LR (pr, sb, br, fe, se, fl, x, pl, th, tu, ca) T vp vs vb vg) : vg 5 = th ∧ okc (vg 5) := by
  have e : vg 5 = th := (Z_g (i := 5)).symm.trans (RG_iff.mp (LR_RG h).1).2.2.2.2.2.1.1.symm
  exact ⟨e, by rw [e]; exact (LR_X5 h).2.2.2⟩
theorem inQ_t {a lo hi : Nat} (h1 : lo ≤ a) (h2 : a ≤ hi) (hh : hi < 2 ^ 31) : inQ (nI a) (nI lo) (nI hi) = true := by
  rw [inQ]; exact decide_eq_true ⟨nI_nlt h1 (by omega), nI_nlt h2 hh⟩
theorem bp_0 (h : LR (pr, sb, br, fe, se, fl, x, pl, th, tu, ca) T vp vs vb vg) {k : Nat} (hk : k < 12) : p_piece (nI k) 0 pr sb = vp k := by
  obtain ⟨hp, ht, hr, hx, h40, hth, htu, hca⟩ := RG_iff.mp (LR_RG h).1
  rw [q_piece _ _ hp ht, m_piece, if_neg (fun w => w (inQ_t (lo := 0) (hi := 11) (by omega) (by omega) (by decide))), if_pos rfl, nI_clamp (by omega), Z_p hk]
theorem rf_lf {q : Nat} {v : Int32} (hq : q < 4) : rf q v = if 0 ≤ lfd q v then lfd q v else -6 := by
  rcases lfd_rf (v := v) hq with ⟨h1, h2⟩ | ⟨a, ha, h1, h2⟩
  · rw [h1, h2, if_neg (by decide)]
  · rw [h1, h2, if_pos (nI_pos' (by omega))]
theorem bp_1 (h : LR (pr, sb, br, fe, se, fl, x, pl, th, tu, ca) T vp vs vb vg) {k : Nat} (hk : k < 12) : p_piece (nI k) 1 pr sb = if 0 ≤ lfd (k / 3) (vp k) then lfd (k / 3) (vp k) else -6 := by
  obtain ⟨hp, ht, hr, hx, h40, hth, htu, hca⟩ := RG_iff.mp (LR_RG h).1
  rw [q_piece _ _ hp ht, m_piece, if_neg (fun w => w (inQ_t (lo := 0) (hi := 11) (by omega) (by omega) (by decide))), if_neg (by decide), if_pos rfl, nI_clamp (by omega), Z_p hk, rf_lf (by omega)]
theorem bp_2 (h : LR (pr, sb, br, fe, se, fl, x, pl, th, tu, ca) T vp vs vb vg) {k : Nat} (hk : k < 12) : p_piece (nI k) 2 pr sb = if 1 < mpc vp (k / 3) (lfd (k / 3) (vp k)) then 1 else 0 := by
  obtain ⟨hp, ht, hr, hx, h40, hth, htu, hca⟩ := RG_iff.mp (LR_RG h).1
  rw [q_piece _ _ hp ht, m_piece, if_neg (fun w => w (inQ_t (lo := 0) (hi := 11) (by omega) (by omega) (by decide))), if_neg (by decide), if_neg (by decide), if_pos rfl, nI_clamp (by omega), Z_p hk, mpc_Z (by omega), mpc_l (by omega)]
theorem bp_3 (h : LR (pr, sb, br, fe, se, fl, x, pl, th, tu, ca) T vp vs vb vg) {k : Nat} (hk : k < 12) : p_piece (nI k) 3 pr sb = vs k := by
  obtain ⟨hp, ht, hr, hx, h40, hth, htu, hca⟩ := RG_iff.mp (LR_RG h).1
  rw [q_piece _ _ hp ht, m_piece, if_neg (fun w => w (inQ_t (lo := 0) (hi := 11) (by omega) (by omega) (by decide))), if_neg (by decide), if_neg (by decide), if_neg (by decide), if_pos rfl, nI_clamp (by omega), Z_s hk]
-- fields
def lqP (vp : IA) (f : Nat) (k : Nat) : Bool := decide (lfd (k / 3) (vp k) = nI f)
theorem bf_0 (h : LR (pr, sb, br, fe, se, fl, x, pl, th, tu, ca) T vp vs vb vg) {f : Nat} (hf : f < 32) : p_field (nI f) 0 pr br fe se tu = nI (ao vp (nI f) 4) := by
  obtain ⟨hp, ht, hr, hx, h40, hth, htu, hca⟩ := RG_iff.mp (LR_RG h).1
  rw [q_field _ _ hp hr (LR_RG h).2 htu, m_field, if_neg (fun w => w (inQ_t (lo := 0) (hi := 31) (by omega) (by omega) (by decide))), if_pos rfl, ao_Z]
theorem bf_1 (h : LR (pr, sb, br, fe, se, fl, x, pl, th, tu, ca) T vp vs vb vg) {f : Nat} (hf : f < 32) : p_field (nI f) 1 pr br fe se tu = low (lqP vp f) 0 12 := by
  obtain ⟨hp, ht, hr, hx, h40, hth, htu, hca⟩ := RG_iff.mp (LR_RG h).1
  rw [q_field _ _ hp hr (LR_RG h).2 htu, m_field, if_neg (fun w => w (inQ_t (lo := 0) (hi := 31) (by omega) (by omega) (by decide))), if_neg (by decide), if_pos rfl]
  exact low_congr 12 0 fun k _ hk => by rw [pcP, lqP, Z_p (by omega)]; exact decide_eq_decide.mpr (lfd_eq (nI_pos (by omega)) (by omega)).symm
theorem bf_2 (h : LR (pr, sb, br, fe, se, fl, x, pl, th, tu, ca) T vp vs vb vg) {f : Nat} (hf : f < 32) : p_field (nI f) 2 pr br fe se tu = if f % 8 = 0 then 1 else 0 := by
  obtain ⟨hp, ht, hr, hx, h40, hth, htu, hca⟩ := RG_iff.mp (LR_RG h).1
  have e : jr (nI f) 8 = 0 ↔ f % 8 = 0 := jr8 (b := 0) (by omega) (by decide)
  rw [q_field _ _ hp hr (LR_RG h).2 htu, m_field, if_neg (fun w => w (inQ_t (lo := 0) (hi := 31) (by omega) (by omega) (by decide))), if_neg (by decide), if_neg (by decide), if_pos rfl]
  by_cases q : f % 8 = 0
  · rw [if_pos (e.mpr q), if_pos q]
  · rw [if_neg (fun w => q (e.mp w)), if_neg q]
theorem bf_3 (h : LR (pr, sb, br, fe, se, fl, x, pl, th, tu, ca) T vp vs vb vg) {f : Nat} (hf : f < 32) : p_field (nI f) 3 pr br fe se tu = if ¬ f % 8 = 4 then 0 else if vb (3 * (f / 8)) = 1 then 3 else if vb (3 * (f / 8) + 1) = 1 then 2 else 1 := by
  obtain ⟨hp, ht, hr, hx, h40, hth, htu, hca⟩ := RG_iff.mp (LR_RG h).1
  have e : jr (nI f) 8 = 4 ↔ f % 8 = 4 := jr8 (b := 4) (by omega) (by decide)
  rw [q_field _ _ hp hr (LR_RG h).2 htu, m_field, if_neg (fun w => w (inQ_t (lo := 0) (hi := 31) (by omega) (by omega) (by decide))), if_neg (by decide), if_neg (by decide), if_neg (by decide), if_pos rfl, nI_clamp (by omega), bsM, Z_0 (by omega), Z_1 (by omega)]
  by_cases q : f % 8 = 4
  · rw [if_neg (fun w => w (e.mpr q)), if_neg (show ¬ ¬ f % 8 = 4 from fun w => w q)]
  · rw [if_pos (fun w => q (e.mp w)), if_pos q]
theorem bf_4 (h : LR (pr, sb, br, fe, se, fl, x, pl, th, tu, ca) T vp vs vb vg) {f : Nat} (hf : f < 32) : p_field (nI f) 4 pr br fe se tu = if ¬ (f % 8 = 4 ∧ vb (3 * (f / 8)) = 1) then -6 else if vg 1 = 0 then -6 else if vb (3 * (f / 8) + 2) + vg 1 - vg 6 < 1 then 1 else vb (3 * (f / 8) + 2) + vg 1 - vg 6 := by
  obtain ⟨hp, ht, hr, hx, h40, hth, htu, hca⟩ := RG_iff.mp (LR_RG h).1
  have e : jr (nI f) 8 = 4 ↔ f % 8 = 4 := jr8 (b := 4) (by omega) (by decide)
  have em : mfa (ZZ vp vs vb vg) (nI f) = true ↔ (f % 8 = 4 ∧ vb (3 * (f / 8)) = 1) := by
    rw [mfa, decide_eq_true_eq, nI_clamp (by omega), Z_0 (by omega), e]
    exact ⟨fun w => w.2, fun w => ⟨nI_pos (by omega), w⟩⟩
  have ed : mdE (ZZ vp vs vb vg) f = vb (3 * (f / 8) + 2) + vg 1 - vg 6 := by
    rw [mdE, Z_2 (by omega), show ZZ vp vs vb vg 37 = vg 1 from Z_g (i := 1), show ZZ vp vs vb vg 42 = vg 6 from Z_g (i := 6)]
    rw [Int32.sub_eq_add_neg, Int32.neg_sub, Int32.sub_eq_add_neg, Int32.sub_eq_add_neg, ← Int32.add_assoc, Int32.add_comm (vg 1)]
  rw [q_field _ _ hp hr (LR_RG h).2 htu, m_field, if_neg (fun w => w (inQ_t (lo := 0) (hi := 31) (by omega) (by omega) (by decide))), if_neg (by decide), if_neg (by decide), if_neg (by decide), if_neg (by decide), if_pos rfl, nI_clamp (by omega), mdM, show ZZ vp vs vb vg 37 = vg 1 from Z_g (i := 1), ed]
  by_cases q : f % 8 = 4 ∧ vb (3 * (f / 8)) = 1
  · by_cases q2 : vg 1 = 0
    · rw [if_pos (Or.inr q2), if_neg (show ¬ ¬ (f % 8 = 4 ∧ vb (3 * (f / 8)) = 1) from fun w => w q), if_pos q2]
    · rw [if_neg (fun w => w.elim (fun z => z (em.mpr q)) q2), if_neg (show ¬ ¬ (f % 8 = 4 ∧ vb (3 * (f / 8)) = 1) from fun w => w q), if_neg q2]
      by_cases q3 : vb (3 * (f / 8) + 2) + vg 1 - vg 6 < 1
      · rw [if_neg (Int32.not_le.mpr q3), if_pos q3]
      · rw [if_pos (Int32.not_lt.mp q3), if_neg q3]
  · rw [if_pos (Or.inl fun w => q (em.mp w)), if_pos q]
/-- the fallen bridges, told field by field -/
def lfs (vb : IA) : Nat → Int32
  | 0 => 0
  | f + 1 => if f % 8 = 4 ∧ vb (3 * (f / 8)) = 1 then lfs vb f ||| ((1 : Int32) <<< (nI (f / 8) &&& 31)) else lfs vb f
theorem lfs_t {f : Nat} (h : f % 8 = 4 ∧ vb (3 * (f / 8)) = 1) : lfs vb (f + 1) = lfs vb f ||| ((1 : Int32) <<< (nI (f / 8) &&& 31)) := by rw [lfs, if_pos h]
theorem lfs_f {f : Nat} (h : ¬ (f % 8 = 4 ∧ vb (3 * (f / 8)) = 1)) : lfs vb (f + 1) = lfs vb f ||| 0 := by rw [lfs, if_neg h, or_0]
theorem lfs_e {a : Nat} : ∀ d, (∀ f, a ≤ f → f < a + d → ¬ f % 8 = 4) → lfs vb (a + d) = lfs vb a
  | 0, _ => rfl
  | d + 1, h => by rw [← Nat.add_assoc, lfs, if_neg (fun w => h (a + d) (by omega) (by omega) w.1)]; exact lfs_e d (fun f h1 h2 => h f h1 (by omega))
theorem lfs_b {b : Nat} : lfs vb (8 * b + 8) = if vb (3 * b) = 1 then lfs vb (8 * b) ||| ((1 : Int32) <<< (nI b &&& 31)) else lfs vb (8 * b) := by
  rw [show 8 * b + 8 = (8 * b + 5) + 3 by omega, lfs_e 3 (fun f h1 h2 => by omega), lfs, show (8 * b + 4) / 8 = b by omega, show 8 * b + 4 = 8 * b + 4 from rfl, lfs_e (a := 8 * b) 4 (fun f h1 h2 => by omega)]
  by_cases q : vb (3 * b) = 1
  · rw [if_pos ⟨by omega, q⟩, if_pos q]
  · rw [if_neg (fun w => q w.2), if_neg q]
theorem lfs_32 (h : LR (pr, sb, br, fe, se, fl, x, pl, th, tu, ca) T vp vs vb vg) : lfs vb 32 = fbM (ZZ vp vs vb vg) 4 := by
  have hF := TB_F h.2.1
  have s : ∀ n, n < 4 → lfs vb (8 * n) = fbM (ZZ vp vs vb vg) n → lfs vb (8 * (n + 1)) = fbM (ZZ vp vs vb vg) (n + 1) := fun n hn ih => by
    rw [fbM, ← ih, Z_0 hn, show 8 * (n + 1) = 8 * n + 8 by omega, lfs_b]
    rcases (hF n hn).1 with e | e
    · have e0 : (0 : Int32) <<< (nI n &&& 31) = 0 := by
        rcases (show n = 0 ∨ n = 1 ∨ n = 2 ∨ n = 3 by omega) with rfl | rfl | rfl | rfl <;> decide
      rw [e, if_neg (by decide), e0, or_0]
    · rw [e, if_pos rfl]
  exact s 3 (by decide) (s 2 (by decide) (s 1 (by decide) (s 0 (by decide) rfl)))
-- counts
def hmP (vp : IA) (q : Nat) (j : Nat) : Bool := decide (vp (3 * q + j) = 35)
theorem bc_k (h : LR (pr, sb, br, fe, se, fl, x, pl, th, tu, ca) T vp vs vb vg) {k ln sz : Nat} (hk : k < 8) : p_count (nI k) pr sb br se fl x pl th tu ca ln sz = vg k := by
  rw [q_count (be := vg) (sl := vg) (sv := vg) (pd := vg) _ h.1, m_count, if_pos (show inQ (nI k) 0 7 = true from inQ_t (lo := 0) (hi := 7) (by omega) (by omega) (by decide)), nI_clamp (by omega)]
  exact Z_g
theorem bc_9 (h : LR (pr, sb, br, fe, se, fl, x, pl, th, tu, ca) T vp vs vb vg) {q ln sz : Nat} (hq : q < 4) : p_count (nI (9 + q)) pr sb br se fl x pl th tu ca ln sz = nI (cnt (hmP vp q) 3) := by
  rw [q_count (be := vg) (sl := vg) (sv := vg) (pd := vg) _ h.1, m_count]
  have h1 : ¬ inQ (nI (9 + q)) 0 7 = true := by rcases (show q = 0 ∨ q = 1 ∨ q = 2 ∨ q = 3 by omega) with rfl | rfl | rfl | rfl <;> decide
  rw [if_neg h1, if_pos (show inQ (nI (9 + q)) 9 12 = true from inQ_t (lo := 9) (hi := 12) (by omega) (by omega) (by decide)), nI_clamp (by omega), show 9 + q - 9 = q by omega, mho]
  exact congrArg nI (cnt_congr 3 fun j hj => by show decide (ZZ vp vs vb vg (3 * q + j) = 35) = _; rw [hmP, Z_p (by omega)])
theorem bc_8 (h : LR (pr, sb, br, fe, se, fl, x, pl, th, tu, ca) T vp vs vb vg) {ln sz : Nat} : p_count 8 pr sb br se fl x pl th tu ca ln sz = lwi vp := by
  rw [q_count (be := vg) (sl := vg) (sv := vg) (pd := vg) _ h.1, m_count, if_neg (by decide), if_neg (by decide), if_pos rfl, wi_Z (vs := vs) (vb := vb) (vg := vg) (LR_v h)]
theorem bc_13 (h : LR (pr, sb, br, fe, se, fl, x, pl, th, tu, ca) T vp vs vb vg) {ln sz : Nat} : p_count 13 pr sb br se fl x pl th tu ca ln sz = vg 8 := by
  rw [q_count (be := vg) (sl := vg) (sv := vg) (pd := vg) _ h.1, m_count, if_neg (by decide), if_neg (by decide), if_neg (by decide), if_pos rfl]
  exact Z_g (vp := vp) (vs := vs) (vb := vb) (vg := vg) (i := 8)
theorem bc_14 (h : LR (pr, sb, br, fe, se, fl, x, pl, th, tu, ca) T vp vs vb vg) {ln sz : Nat} : p_count 14 pr sb br se fl x pl th tu ca ln sz = lfs vb 32 := by
  rw [q_count (be := vg) (sl := vg) (sv := vg) (pd := vg) _ h.1, m_count, if_neg (by decide), if_neg (by decide), if_neg (by decide), if_neg (by decide), if_pos rfl, lfs_32 h]
theorem bc_15 (h : LR (pr, sb, br, fe, se, fl, x, pl, th, tu, ca) T vp vs vb vg) {ln sz : Nat} : p_count 15 pr sb br se fl x pl th tu ca ln sz = vg 9 := by
  rw [q_count (be := vg) (sl := vg) (sv := vg) (pd := vg) _ h.1, m_count, if_neg (by decide), if_neg (by decide), if_neg (by decide), if_neg (by decide), if_neg (by decide), if_pos rfl]
  exact Z_g (vp := vp) (vs := vs) (vb := vb) (vg := vg) (i := 9)
theorem bb_n (h : LR (pr, sb, br, fe, se, fl, x, pl, th, tu, ca) T vp vs vb vg) (h5 : vg 5 = -6) : p_best pr br se pl th = -5 := by
  rw [p_best, if_pos ((LR_5 h).1.symm.trans h5)]
theorem bb_y (h : LR (pr, sb, br, fe, se, fl, x, pl, th, tu, ca) T vp vs vb vg) {cn : Nat} (hc1 : 1 ≤ cn) (hc : cn ≤ 6) (h5 : vg 5 = nI cn) : p_best pr br se pl th = lbe vp vb vg pl cn := by
  obtain ⟨hp, ht, hr, hx, h40, hth, htu, hca⟩ := RG_iff.mp (LR_RG h).1
  have e41 : ZZ vp vs vb vg 41 = nI cn := (Z_g (i := 5)).trans h5
  rw [q_best hp hr.1 (LR_RG h).2.1 h40 hth, m_best, e41, if_neg (nI_neg (by omega) (by decide)), h40.1, nI_clamp (by omega), nI_clamp (by omega), be_Z (vs := vs) (LR_v h) (TB_F h.2.1) h40.2 hc1]
-- reasons, throws needed, throws to come
theorem bwy (h : LR (pr, sb, br, fe, se, fl, x, pl, th, tu, ca) T vp vs vb vg) {k cn : Nat} (hk : k < 12) (hc1 : 1 ≤ cn) (hc : cn ≤ 6) : p_why (nI k) (nI cn) pr br se = if lwy vp vb vg k cn ≤ 9 then lwy vp vb vg k cn else 0 := by
  obtain ⟨hp, ht, hr, hx, h40, hth, htu, hca⟩ := RG_iff.mp (LR_RG h).1
  rw [q_why _ _ hp hr.1 (LR_RG h).2.1, m_why, if_neg (fun w => w (inQ_t (lo := 0) (hi := 11) (by omega) (by omega) (by decide))), if_pos (show inQ (nI cn) 1 6 = true from inQ_t (lo := 1) (hi := 6) hc1 hc (by decide)), nI_clamp (by omega), nI_clamp (by omega)]
  rcases wy_ok (vs := vs) (vg := vg) (LR_v h) (TB_F h.2.1) hk hc1 with ⟨a, t, ht, _, e⟩ | ⟨a, w, h1, h6, ew, e⟩
  · rw [a, e, if_neg (show ¬ nI (10 + t) ≤ 9 from nI_ge (a := 9) (b := 10 + t) (by omega) (by omega))]
  · rw [e, ew, if_pos (show nI w ≤ 9 from nI_le (b := 9) (by omega) (by decide))]
theorem bnd (h : LR (pr, sb, br, fe, se, fl, x, pl, th, tu, ca) T vp vs vb vg) {nd : IA} {k w : Nat} (hk : k < 12) (hw : w < 2) : p_needs (nI k) (nI w) pr br nd = nI (lnd vp vb k) := by
  obtain ⟨hp, ht, hr, hx, h40, hth, htu, hca⟩ := RG_iff.mp (LR_RG h).1
  have hF' : hF8 (mfN (ZZ vp vs vb vg) (k / 3)) := hF_m (by omega)
  rw [q_needs (nd' := nd) _ _ hp hr.1, m_needs, if_neg (fun w => w (inQ_t (lo := 0) (hi := 11) (by omega) (by omega) (by decide))), if_pos (show inQ (nI w) 0 1 = true from inQ_t (lo := 0) (hi := 1) (by omega) (by omega) (by decide)), nI_clamp (by omega), tnR, lnd, Z_p hk, fb_Z (vp := vp) (vs := vs) (vg := vg) (by omega) (TB_F h.2.1)]
  rcases LR_v h k hk with e | ⟨a, ha, e⟩
  · rw [e, if_pos rfl, if_pos rfl, tnM_n hF' 35 (Nat.le_refl 35) 0 (by decide) (by decide), nI_1]
  · rw [e, if_neg (nI_neg (by omega) (by decide)), if_neg (nI_neg (by omega) (by decide)), nI_clamp (by omega), tnM_n hF' 35 (Nat.le_refl 35) a (by omega) ha]
theorem bnx (h : LR (pr, sb, br, fe, se, fl, x, pl, th, tu, ca) T vp vs vb vg) {n : Nat} (hn : n < 100) : p_nextCast (nI n) x = co (xN (vg 3) (n + 1)) := by
  rw [q_next _ ((RG_iff.mp (LR_RG h).1).2.2.2.1.1), m_nextCast, if_pos (show inQ (nI n) 0 99 = true from inQ_t (lo := 0) (hi := 99) (by omega) (by omega) (by decide)), nI_clamp (by omega), show ZZ vp vs vb vg 39 = vg 3 from Z_g (i := 3)]
end RLs
