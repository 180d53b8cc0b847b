-- ===== p25: the law's rows as one row of 46 numbers; fields, throws, reasons =====
def ZZ (vp vs vb vg : IA) (j : Nat) : Int32 := if j < 12 then vp j else if j < 24 then vs (j - 12) else if j < 28 then vb (3 * (j - 24)) else if j < 32 then vb (3 * (j - 28) + 1) else if j < 36 then vb (3 * (j - 32) + 2) else vg (j - 36)
theorem Z_p {vp vs vb vg : IA} {k : Nat} (h : k < 12) : ZZ vp vs vb vg k = vp k := by rw [ZZ, if_pos h]
theorem Z_s {vp vs vb vg : IA} {k : Nat} (h : k < 12) : ZZ vp vs vb vg (12 + k) = vs k := by rw [ZZ, if_neg (by omega), if_pos (by omega), show 12 + k - 12 = k by omega]
theorem Z_0 {vp vs vb vg : IA} {b : Nat} (h : b < 4) : ZZ vp vs vb vg (24 + b) = vb (3 * b) := by rw [ZZ, if_neg (by omega), if_neg (by omega), if_pos (by omega), show 24 + b - 24 = b by omega]
theorem Z_1 {vp vs vb vg : IA} {b : Nat} (h : b < 4) : ZZ vp vs vb vg (28 + b) = vb (3 * b + 1) := by rw [ZZ, if_neg (by omega), if_neg (by omega), if_neg (by omega), if_pos (by omega), show 28 + b - 28 = b by omega]
theorem Z_2 {vp vs vb vg : IA} {b : Nat} (h : b < 4) : ZZ vp vs vb vg (32 + b) = vb (3 * b + 2) := by rw [ZZ, if_neg (by omega), if_neg (by omega), if_neg (by omega), if_neg (by omega), if_pos (by omega), show 32 + b - 32 = b by omega]
theorem Z_g {vp vs vb vg : IA} {i : Nat} : ZZ vp vs vb vg (36 + i) = vg i := by rw [ZZ, if_neg (by omega), if_neg (by omega), if_neg (by omega), if_neg (by omega), if_neg (by omega), show 36 + i - 36 = i by omega]
theorem U_p {vp vs vb vg : IA} {k : Nat} {v : Int32} (h : k < 12) : ZZ (upd vp k v) vs vb vg = upd (ZZ vp vs vb vg) k v := by
  funext j
  by_cases e : j = k
  · subst e; rw [upd_eq, Z_p h, upd_eq]
  · rw [upd_ne e, ZZ, ZZ]; repeat' split
    all_goals first | rfl | rw [upd_ne (by omega)]
theorem U_s {vp vs vb vg : IA} {k : Nat} {v : Int32} (h : k < 12) : ZZ vp (upd vs k v) vb vg = upd (ZZ vp vs vb vg) (12 + k) v := by
  funext j
  by_cases e : j = 12 + k
  · subst e; rw [upd_eq, Z_s h, upd_eq]
  · rw [upd_ne e, ZZ, ZZ]; repeat' split
    all_goals first | rfl | rw [upd_ne (by omega)]
theorem U_0 {vp vs vb vg : IA} {k : Nat} {v : Int32} (h : k < 4) : ZZ vp vs (upd vb (3 * k) v) vg = upd (ZZ vp vs vb vg) (24 + k) v := by
  funext j
  by_cases e : j = 24 + k
  · subst e; rw [upd_eq, Z_0 h, upd_eq]
  · rw [upd_ne e, ZZ, ZZ]; repeat' split
    all_goals first | rfl | rw [upd_ne (by omega)]
theorem U_1 {vp vs vb vg : IA} {k : Nat} {v : Int32} (h : k < 4) : ZZ vp vs (upd vb (3 * k + 1) v) vg = upd (ZZ vp vs vb vg) (28 + k) v := by
  funext j
  by_cases e : j = 28 + k
  · subst e; rw [upd_eq, Z_1 h, upd_eq]
  · rw [upd_ne e, ZZ, ZZ]; repeat' split
    all_goals first | rfl | rw [upd_ne (by omega)]
theorem U_2 {vp vs vb vg : IA} {k : Nat} {v : Int32} (h : k < 4) : ZZ vp vs (upd vb (3 * k + 2) v) vg = upd (ZZ vp vs vb vg) (32 + k) v := by
  funext j
  by_cases e : j = 32 + k
  · subst e; rw [upd_eq, Z_2 h, upd_eq]
  · rw [upd_ne e, ZZ, ZZ]; repeat' split
    all_goals first | rfl | rw [upd_ne (by omega)]
theorem U_g {vp vs vb vg : IA} {i : Nat} {v : Int32} : ZZ vp vs vb (upd vg i v) = upd (ZZ vp vs vb vg) (36 + i) v := by
  funext j
  by_cases e : j = 36 + i
  · subst e; rw [upd_eq, Z_g, upd_eq]
  · rw [upd_ne e, ZZ, ZZ]; repeat' split
    all_goals first | rfl | rw [upd_ne (by omega)]
/-- the law's flags and numbers are in bounds: at most T turns -/
def TB (T : Nat) (vb vg : IA) : Prop := ∃ t m : Nat, t ≤ T ∧ m ≤ 40 ∧ vg 6 = nI t ∧ vg 1 = nI m ∧ ∀ i, i < 4 → ((vb (3 * i) = 0 ∨ vb (3 * i) = 1) ∧ (vb (3 * i + 1) = 0 ∨ vb (3 * i + 1) = 1)) ∧ ∃ f : Nat, f ≤ t ∧ vb (3 * i + 2) = nI f
def FB (vb : IA) : Prop := ∀ i, i < 4 → (vb (3 * i) = 0 ∨ vb (3 * i) = 1) ∧ (vb (3 * i + 1) = 0 ∨ vb (3 * i + 1) = 1)
theorem TB_F {T : Nat} {vb vg : IA} (h : TB T vb vg) : FB vb := fun i hi => by
  obtain ⟨t, m, _, _, _, _, h⟩ := h
  exact (h i hi).1
-- the pieces on a field
theorem mpc_Z {vp vs vb vg : IA} {p : Nat} {f : Int32} (hp : p < 4) : mpc (ZZ vp vs vb vg) p f = mpc vp p f := cnt_congr 3 fun k hk => by rw [mpP, mpP, Z_p (by omega)]
theorem ao_Z {vp vs vb vg : IA} {f : Int32} : ao (ZZ vp vs vb vg) f 4 = ao vp f 4 := by rw [ao_4, ao_4, mpc_Z (by decide), mpc_Z (by decide), mpc_Z (by decide), mpc_Z (by decide)]
theorem mpc_n {z : IA} {p : Nat} {f : Int32} (hf : f < 0) : mpc z p f = 0 := cnt_zero 3 fun k _ => by rw [mpP]; exact decide_eq_false (fun w => w.1 hf)
theorem mpc_l {z : IA} {p q : Nat} {v : Int32} (hq : q < 4) : mpc z p (lfd q v) = mpc z p (rf q v) := by
  rcases lfd_rf (v := v) hq with ⟨h1, h2⟩ | ⟨a, ha, h1, h2⟩
  · rw [h1, h2, mpc_n (by decide), mpc_n (by decide)]
  · rw [h1, h2]
theorem ao_l {z : IA} {q : Nat} {v : Int32} (hq : q < 4) : ao z (lfd q v) 4 = ao z (rf q v) 4 := by rw [ao_4, ao_4, mpc_l hq, mpc_l hq, mpc_l hq, mpc_l hq]
theorem blO_cc {y z : IA} {q : Nat} {f g : Int32} (h : ∀ p, p < 4 → mpc y p f = mpc z p g) : ∀ n, n ≤ 4 → blO y q f n = blO z q g n
  | 0, _ => rfl
  | n + 1, hn => by rw [blO, blO, blO_cc h n (by omega), h n (by omega)]
theorem prO_c {y z : IA} {f : Int32} (h : ∀ p, p < 4 → mpc y p f = mpc z p f) : ∀ n, n ≤ 4 → prO y f n = prO z f n
  | 0, _ => rfl
  | n + 1, hn => by rw [prO, prO, prO_c h n (by omega), h n (by omega)]
theorem lf_neg {q : Nat} {v : Int32} (hq : q < 4) : lfd q v < 0 ↔ rf q v < 0 := by
  rcases lfd_rf (v := v) hq with ⟨h1, h2⟩ | ⟨a, ha, h1, h2⟩
  · rw [h1, h2]; exact ⟨fun _ => by decide, fun _ => by decide⟩
  · rw [h1, h2]
-- where a throw leads
theorem fb_Z {vp vs vb vg : IA} {q : Nat} (hq : q < 4) (hF : FB vb) : fbN vb q = mfN (ZZ vp vs vb vg) q := by
  funext x
  rw [fbN, mfN, mfa]
  rcases lfd_rf (v := nI x) hq with ⟨h1, h2⟩ | ⟨a, ha, h1, h2⟩
  · rw [h1, h2, decide_eq_false (fun w => absurd w.1 (by decide)), decide_eq_false (fun w => w.1 (by decide))]
  · rw [h1, h2, nI_clamp (by omega), Z_0 (by omega)]
    have hb := (hF (a / 8) (by omega)).1
    refine decide_eq_decide.mpr ⟨fun w => ⟨nI_pos (by omega), w.1, hb.resolve_left w.2⟩, fun w => ⟨w.2.1, fun e => ?_⟩⟩
    rw [w.2.2] at e; exact absurd e (by decide)
theorem lto_Z {vp vs vb vg : IA} {k cn : Nat} (hk : k < 12) (hc : 1 ≤ cn) (hF : FB vb) : lto vp vb k cn = if tgtM (ZZ vp vs vb vg) (k / 3) (vp k) cn = -6 then -1 else tgtM (ZZ vp vs vb vg) (k / 3) (vp k) cn := by
  rw [lto, tgtM]
  by_cases q : vp k = -6
  · rw [if_pos q, if_pos q, if_neg (by decide)]
  · rw [if_neg q, if_neg q, fb_Z (vp := vp) (vs := vs) (vg := vg) (by omega) hF]; exact ld_tg cn _ (fun z => absurd z (by omega))
theorem lb_Z {vp vs vb vg : IA} {q : Nat} (hq : q < 4) : lbP vp q = mbP (ZZ vp vs vb vg) q := by
  funext c
  rw [lbP, mbP]
  exact blO_cc (fun p hp => by rw [mpc_Z hp, mpc_l hq]) 4 (Nat.le_refl 4)
theorem cnt_one {P : Nat → Bool} {i : Nat} : ∀ n, i < n → P i = false → cnt P n + 1 ≤ n
  | 0, h, _ => absurd h (Nat.not_lt_zero i)
  | n + 1, h, hi => by
    by_cases e : i = n
    · subst e; rw [cnt_f (by rw [hi]; decide)]; have := cnt_le P i; omega
    · have := cnt_one n (by omega) hi
      rw [cnt]; split <;> omega
theorem lth_m {vp vs vb vg : IA} {k t : Nat} (hk : k < 12) (ht : t < 35) (hne : ¬ vp k = nI t) : lth vp (k / 3) (nI t) = 2 ↔ 1 < mow (ZZ vp vs vb vg) (k / 3) t := by
  have e : lth vp (k / 3) (nI t) = mow (ZZ vp vs vb vg) (k / 3) t := cnt_congr 3 fun j hj => by
    rw [thP, moP, Z_p (by omega)]
    exact decide_eq_decide.mpr ⟨fun w => ⟨w, ht⟩, fun w => w.1⟩
  have h2 : mow (ZZ vp vs vb vg) (k / 3) t + 1 ≤ 3 := cnt_one (i := k % 3) 3 (by omega) (by
    rw [moP, show 3 * (k / 3) + k % 3 = k by omega, Z_p hk]; exact decide_eq_false (fun w => hne w.1))
  rw [e]; omega
theorem wy_Z {vp vs vb vg : IA} {k cn : Nat} (hv : ∀ k, k < 12 → okv (vp k)) (hF : FB vb) (hk : k < 12) (hc : 1 ≤ cn) :
    lwy vp vb vg k cn = if mwn (ZZ vp vs vb vg) k cn = 0 then 10 + tgtM (ZZ vp vs vb vg) (k / 3) (vp k) cn else mwn (ZZ vp vs vb vg) k cn := by
  have hq : k / 3 < 4 := by omega
  have hz : ∀ k, k < 12 → okv (ZZ vp vs vb vg k) := fun k hk => by rw [Z_p hk]; exact hv k hk
  have hl := lto_Z (vp := vp) (vs := vs) (vg := vg) (cn := cn) hk hc hF
  rw [lwy, mwn, Z_p hk, show ZZ vp vs vb vg 36 = vg 0 from Z_g (i := 0)]
  by_cases q1 : vp k = 35
  · rw [if_pos q1, if_pos q1, if_neg (by decide)]
  rw [if_neg q1, if_neg q1]
  by_cases q2 : vp k = -6 ∧ ¬ vg 0 ≤ nI cn
  · rw [if_pos q2, if_pos q2, if_neg (by decide)]
  rw [if_neg q2, if_neg q2]
  by_cases q3 : tgtM (ZZ vp vs vb vg) (k / 3) (vp k) cn = -6
  · rw [if_pos q3] at hl
    rw [hl, if_pos (by decide), if_pos q3, if_neg (by decide)]
  rw [if_neg q3] at hl
  obtain ⟨t, ht, et, hne⟩ := tgtM_ne (hv k hk) hc q3
  rw [et] at hl
  rw [hl, if_neg (nI_pos (by omega)), if_neg q3, et, nI_clamp (show t < 2 ^ 31 by omega), lbQ, mbQ, nI_clamp (show t < 2 ^ 31 by omega), lb_Z (vs := vs) (vb := vb) (vg := vg) hq]
  by_cases q4 : anyp (mbP (ZZ vp vs vb vg) (k / 3)) (fst0 (vp k)) (t + 1 - fst0 (vp k)) = true
  · rw [if_pos q4, if_pos q4, if_neg (by decide)]
  rw [if_neg q4, if_neg q4]
  have h35 : nI t < 35 ↔ t < 35 := nI_ltI (b := 35) (by omega) (by decide)
  have e5 : (lth vp (k / 3) (nI t) = 2 ∧ nI t < 35) ↔ 1 < mow (ZZ vp vs vb vg) (k / 3) t := by
    by_cases e : t < 35
    · exact ⟨fun w => (lth_m hk e hne).mp w.1, fun w => ⟨(lth_m hk e hne).mpr w, h35.mpr e⟩⟩
    · obtain rfl : t = 35 := by omega
      rw [mow_35]; exact ⟨fun w => absurd (h35.mp w.2) e, fun w => absurd w (by decide)⟩
  by_cases q5 : 1 < mow (ZZ vp vs vb vg) (k / 3) t
  · rw [if_pos (e5.mpr q5), if_pos q5, if_neg (by decide)]
  rw [if_neg (fun w => q5 (e5.mp w)), if_neg q5]
  have e6 : lw6 vp k (nI t) = true ↔ (¬ rf (k / 3) (nI t) < 0 ∧ jr (rf (k / 3) (nI t)) 8 = 0 ∧ mow (ZZ vp vs vb vg) (k / 3) t < ao (ZZ vp vs vb vg) (rf (k / 3) (nI t)) 4) := by
    rw [lw6, decide_eq_true_eq, lf_neg hq, mpc_l hq, ao_l hq, ao_Z]
    by_cases e : t < 32
    · rw [← mpc_mow hz hq e, mpc_Z hq]
      have e2 : lfd (k / 3) (nI t) = rf (k / 3) (nI t) := (lfd_eq (rf_on hq e) hq).mpr rfl
      rw [e2]
    · rw [rf_far (by omega) (by omega)]
      exact ⟨fun w => absurd n6 w.1, fun w => absurd n6 w.1⟩
  by_cases q6 : ¬ rf (k / 3) (nI t) < 0 ∧ jr (rf (k / 3) (nI t)) 8 = 0 ∧ mow (ZZ vp vs vb vg) (k / 3) t < ao (ZZ vp vs vb vg) (rf (k / 3) (nI t)) 4
  · rw [if_pos (e6.mpr q6), if_pos q6, if_neg (by decide)]
  · rw [if_neg (fun w => q6 (e6.mp w)), if_neg q6, if_pos rfl]
theorem wy_ok {vp vs vb vg : IA} {k cn : Nat} (hv : ∀ k, k < 12 → okv (vp k)) (hF : FB vb) (hk : k < 12) (hc : 1 ≤ cn) :
    (mwn (ZZ vp vs vb vg) k cn = 0 ∧ ∃ t : Nat, t ≤ 35 ∧ tgtM (ZZ vp vs vb vg) (k / 3) (vp k) cn = nI t ∧ lwy vp vb vg k cn = nI (10 + t)) ∨ (¬ mwn (ZZ vp vs vb vg) k cn = 0 ∧ ∃ w : Nat, 1 ≤ w ∧ w ≤ 6 ∧ mwn (ZZ vp vs vb vg) k cn = nI w ∧ lwy vp vb vg k cn = nI w) := by
  rw [wy_Z (vs := vs) hv hF hk hc]
  by_cases q : mwn (ZZ vp vs vb vg) k cn = 0
  · have hne := mwn_tgt q
    rw [Z_p hk] at hne
    obtain ⟨t, ht, et, _⟩ := tgtM_ne (hv k hk) hc hne
    rw [if_pos q, et]
    exact Or.inl ⟨q, t, ht, rfl, nI_add 10 t⟩
  · rw [if_neg q]
    refine Or.inr ⟨q, ?_⟩
    revert q
    rw [mwn]
    repeat' split
    all_goals (intro q; first | exact ⟨1, by decide, by decide, rfl, rfl⟩ | exact ⟨2, by decide, by decide, rfl, rfl⟩ | exact ⟨3, by decide, by decide, rfl, rfl⟩ | exact ⟨4, by decide, by decide, rfl, rfl⟩ | exact ⟨5, by decide, by decide, rfl, rfl⟩ | exact ⟨6, by decide, by decide, rfl, rfl⟩ | exact absurd rfl q)
theorem wy_neg {vp vs vb vg : IA} {k cn : Nat} (hv : ∀ k, k < 12 → okv (vp k)) (hF : FB vb) (hk : k < 12) (hc : 1 ≤ cn) : lwy vp vb vg k cn - 10 < 0 ↔ ¬ mwn (ZZ vp vs vb vg) k cn = 0 := by
  rcases wy_ok (vs := vs) (vg := vg) hv hF hk hc with ⟨h, t, ht, _, e⟩ | ⟨h, w, h1, h6, _, e⟩
  · rw [e, show (10 : Int32) = nI 10 from rfl, pk_sub (by omega)]
    exact ⟨fun z => absurd z (nI_pos (by omega)), fun z => absurd h z⟩
  · rw [e]
    refine ⟨fun _ => h, fun _ => ?_⟩
    rcases (show w = 1 ∨ w = 2 ∨ w = 3 ∨ w = 4 ∨ w = 5 ∨ w = 6 by omega) with rfl | rfl | rfl | rfl | rfl | rfl <;> decide
theorem wy_to {vp vs vb vg : IA} {k cn : Nat} (hv : ∀ k, k < 12 → okv (vp k)) (hF : FB vb) (hk : k < 12) (hc : 1 ≤ cn) (h : mwn (ZZ vp vs vb vg) k cn = 0) : lwy vp vb vg k cn - 10 = tgtM (ZZ vp vs vb vg) (k / 3) (vp k) cn := by
  rcases wy_ok (vs := vs) (vg := vg) hv hF hk hc with ⟨_, t, ht, et, e⟩ | ⟨h2, _⟩
  · rw [e, et, show (10 : Int32) = nI 10 from rfl, pk_sub (by omega), show 10 + t - 10 = t by omega]
  · exact absurd h h2
