-- ===== class and reference: counting, fields, why =====
theorem cnt_12 (Q : Nat → Bool) : cnt Q 12 = cnt (fun k => Q (3 * 0 + k)) 3 + cnt (fun k => Q (3 * 1 + k)) 3 + cnt (fun k => Q (3 * 2 + k)) 3 + cnt (fun k => Q (3 * 3 + k)) 3 := by
  simp only [cnt, Nat.reduceMul, Nat.reduceAdd, Nat.zero_add]
  omega
theorem cnt_pos {P : Nat → Bool} : ∀ n, 0 < cnt P n → ∃ k, k < n ∧ P k = true
  | 0, h => absurd h (Nat.lt_irrefl 0)
  | n + 1, h => by
    by_cases q : P n = true
    · exact ⟨n, Nat.lt_succ_self n, q⟩
    · rw [cnt_f q] at h
      obtain ⟨k, h1, h2⟩ := cnt_pos n h
      exact ⟨k, by omega, h2⟩
theorem cnt_zero {P : Nat → Bool} : ∀ n, (∀ k, k < n → P k = false) → cnt P n = 0
  | 0, _ => rfl
  | n + 1, h => by rw [cnt, cnt_zero n (fun k hk => h k (by omega)), h n (by omega)]; rfl
theorem cnt_0 {P : Nat → Bool} : ∀ n, cnt P n = 0 → ∀ k, k < n → P k = false
  | 0, _, k, hk => absurd hk (Nat.not_lt_zero k)
  | n + 1, h, k, hk => by
    by_cases q : P n = true
    · rw [cnt_t q] at h; omega
    · rw [cnt_f q] at h
      rcases Nat.lt_succ_iff_lt_or_eq.mp hk with e | e
      · exact cnt_0 n h k e
      · rw [e]; exact bool_n q
theorem cnt_1 {P : Nat → Bool} : ∀ n, cnt P n ≤ 1 → ∀ j k, j < n → k < n → P j = true → P k = true → j = k
  | 0, _, j, _, hj, _, _, _ => absurd hj (Nat.not_lt_zero j)
  | n + 1, h, j, k, hj, hk, pj, pk => by
    by_cases q : P n = true
    · rw [cnt_t q] at h
      have h0 := cnt_0 (P := P) n (by omega)
      have ej : j = n := by
        rcases Nat.lt_succ_iff_lt_or_eq.mp hj with e | e
        · have := h0 j e; rw [pj] at this; cases this
        · exact e
      have ek : k = n := by
        rcases Nat.lt_succ_iff_lt_or_eq.mp hk with e | e
        · have := h0 k e; rw [pk] at this; cases this
        · exact e
      rw [ej, ek]
    · rw [cnt_f q] at h
      have a1 : j < n := by
        rcases Nat.lt_succ_iff_lt_or_eq.mp hj with e | e
        · exact e
        · rw [e] at pj; exact absurd pj q
      have a2 : k < n := by
        rcases Nat.lt_succ_iff_lt_or_eq.mp hk with e | e
        · exact e
        · rw [e] at pk; exact absurd pk q
      exact cnt_1 n h j k a1 a2 pj pk
theorem anyp_congr {P Q : Nat → Bool} : ∀ n a, (∀ k, a ≤ k → k < a + n → P k = Q k) → anyp P a n = anyp Q a n
  | 0, _, _ => rfl
  | n + 1, a, h => by rw [anyp, anyp, h a (Nat.le_refl a) (by omega), anyp_congr n (a + 1) (fun k h1 h2 => h k (by omega) (by omega))]
theorem low_congr {P Q : Nat → Bool} : ∀ n a, (∀ k, a ≤ k → k < a + n → P k = Q k) → low P a n = low Q a n
  | 0, _, _ => rfl
  | n + 1, a, h => by rw [low, low, h a (Nat.le_refl a) (by omega), low_congr n (a + 1) (fun k h1 h2 => h k (by omega) (by omega))]
theorem hip_none {P : Nat → Bool} : ∀ n, (∀ k, k < n → P k = false) → hip P n = -6
  | 0, _ => rfl
  | n + 1, h => by rw [hip, h n (by omega), if_neg (by decide)]; exact hip_none n (fun k hk => h k (by omega))
theorem hip_lt {P : Nat → Bool} {n : Nat} (hn : n < 2 ^ 31) : hip P n < 0 ↔ cnt P n = 0 := by
  constructor
  · intro h
    apply Decidable.byContradiction
    intro q
    rcases hip_ok P n with e | ⟨b, hb, e, _⟩
    · have : ∀ m, hip P m = -6 → m < 2 ^ 31 → cnt P m = 0 := by
        intro m
        induction m with
        | zero => intro _ _; rfl
        | succ m ih =>
          intro h1 h2
          rw [hip] at h1
          by_cases z : P m = true
          · rw [if_pos z] at h1; exact absurd h1 (nI_neg (by omega) (by decide))
          · rw [if_neg z] at h1; rw [cnt_f z]; exact ih h1 (by omega)
      exact q (this n e hn)
    · rw [e] at h; exact absurd h (nI_pos (by omega))
  · intro h
    rw [hip_none n (cnt_0 n h)]; decide
-- numbers
theorem jr_nI {a d : Nat} (ha : a < 2 ^ 31) (h0 : 0 < d) (hd : d < 2 ^ 31) : jr (nI a) (nI d) = nI (a % d) := by rw [jr]; exact pk_rem ha h0 hd
theorem jr8 {a b : Nat} (ha : a < 2 ^ 31) (hb : b < 2 ^ 31) : jr (nI a) 8 = nI b ↔ a % 8 = b := by
  rw [show (8 : Int32) = nI 8 from rfl, jr_nI ha (by decide) (by decide), nI_eq (by omega) hb]
theorem n6 : (-6 : Int32) < 0 := by decide
theorem okf_lt {f : Int32} (h : okf f) : f < 0 ↔ f = -6 := by
  rcases h with rfl | ⟨a, ha, rfl⟩
  · exact ⟨fun _ => rfl, fun _ => n6⟩
  · exact ⟨fun q => absurd q (nI_pos (by omega)), fun q => absurd q (nI_neg (by omega) (by decide))⟩
theorem okv_lt {v : Int32} (h : okv v) : v < 0 ↔ v = -6 := by
  rcases h with rfl | ⟨a, ha, rfl⟩
  · exact ⟨fun _ => rfl, fun _ => n6⟩
  · exact ⟨fun q => absurd q (nI_pos (by omega)), fun q => absurd q (nI_neg (by omega) (by decide))⟩
theorem rf_y {p : Nat} : rf p (-6) = -6 := by rw [rf, if_pos n6]
theorem rf_on {p t : Nat} (hp : p < 4) (ht : t < 32) : ¬ rf p (nI t) < 0 := by rw [rf_nI hp ht]; exact nI_pos (by omega)
/-- on the ring a field says the progress -/
theorem rf_inj {p t : Nat} {v : Int32} (hp : p < 4) (ht : t < 32) (hv : okv v) : rf p v = rf p (nI t) ↔ v = nI t := by
  constructor
  · intro h
    rw [rf_nI hp ht] at h
    rcases hv with rfl | ⟨a, ha, rfl⟩
    · rw [rf_y] at h; exact absurd h.symm (nI_neg (by omega) (by decide))
    · by_cases q : a < 32
      · rw [rf_nI hp q, nI_eq (by omega) (by omega)] at h
        rw [show a = t by omega]
      · rw [rf_far (by omega) (by omega)] at h; exact absurd h.symm (nI_neg (by omega) (by decide))
  · intro h; rw [h]
-- bridges
def brz (z : IA) (b : Nat) : Int32 := if z (24 + b) = 1 then 3 else if z (28 + b) = 1 then 2 else 1
theorem brz_3 {z : IA} {b : Nat} : brz z b = 3 ↔ z (24 + b) = 1 := by
  rw [brz]; split
  · rename_i h; exact ⟨fun _ => h, fun _ => rfl⟩
  · rename_i h; split <;> exact ⟨fun q => absurd q (by decide), fun q => absurd q h⟩
theorem brz_2 {z : IA} {b : Nat} : brz z b = 2 ↔ ¬ z (24 + b) = 1 ∧ z (28 + b) = 1 := by
  rw [brz]; split
  · rename_i h; exact ⟨fun q => absurd q (by decide), fun q => absurd h q.1⟩
  · rename_i h; split
    · rename_i h2; exact ⟨fun _ => ⟨h, h2⟩, fun _ => rfl⟩
    · rename_i h2; exact ⟨fun q => absurd q (by decide), fun q => absurd q.2 h2⟩
theorem brz_1 {z : IA} {b : Nat} : brz z b = 1 ↔ ¬ z (24 + b) = 1 ∧ ¬ z (28 + b) = 1 := by
  rw [brz]; split
  · rename_i h; exact ⟨fun q => absurd q (by decide), fun q => absurd h q.1⟩
  · rename_i h; split
    · rename_i h2; exact ⟨fun q => absurd q (by decide), fun q => absurd h2 q.2⟩
    · rename_i h2; exact ⟨fun _ => ⟨h, h2⟩, fun _ => rfl⟩
theorem bs_nI {br : IA} {a : Nat} (ha : a < 32) : bs br (nI a) = if a % 8 = 4 then br (a / 8) else 0 := by
  have h1 : ¬ nI a < 0 := nI_pos (by omega)
  have h2 : ¬ (32 : Int32) ≤ nI a := nI_ge (b := 32) ha (by decide)
  by_cases q : a % 8 = 4
  · have e : bo (nI a) = nI (a / 8) := by
      rw [bo, if_neg h1, if_neg h2, if_pos (show jr (nI a) 8 = 4 from (jr8 (b := 4) (by omega) (by decide)).mpr q)]
      exact pk_div (a := a) (d := 8) (by omega) (by decide) (by decide)
    rw [bs, e, if_neg (nI_neg (by omega) (by decide)), nI_clamp (by omega), if_pos q]
  · have e : bo (nI a) = -6 := by rw [bo, if_neg h1, if_neg h2, if_neg (show ¬ jr (nI a) 8 = 4 from fun z => q ((jr8 (b := 4) (by omega) (by decide)).mp z))]
    rw [bs, e, if_pos rfl, if_neg q]
theorem bs_6 {br : IA} : bs br (-6) = 0 := by
  have e : bo (-6) = -6 := by rw [bo, if_pos n6]
  rw [bs, e, if_pos rfl]
theorem fa_mf {br z : IA} (hb : ∀ b, b < 4 → br b = brz z b) {f : Int32} (hf : okf f) : decide (bs br f = 3) = mfa z f := by
  rcases hf with rfl | ⟨a, ha, rfl⟩
  · rw [bs_6, mfa, decide_eq_false (by decide), decide_eq_false (fun q => q.1 n6)]
  · rw [bs_nI ha, mfa, nI_clamp (by omega)]
    by_cases q : a % 8 = 4
    · rw [if_pos q, hb _ (by omega)]
      by_cases q2 : z (24 + a / 8) = 1
      · rw [decide_eq_true (brz_3.mpr q2), decide_eq_true ⟨nI_pos (by omega), (jr8 (b := 4) (by omega) (by decide)).mpr q, q2⟩]
      · rw [decide_eq_false (fun w => q2 (brz_3.mp w)), decide_eq_false (fun w => q2 w.2.2)]
    · rw [if_neg q, decide_eq_false (by decide), decide_eq_false (fun w => q ((jr8 (b := 4) (by omega) (by decide)).mp w.2.1))]
theorem faQ_mf {br z : IA} (hb : ∀ b, b < 4 → br b = brz z b) {p : Nat} {v : Int32} (hp : p < 4) : faQ br p v = mfa z (rf p v) := by rw [faQ]; exact fa_mf hb (rf_okf _ hp)
theorem faN_mf {br z : IA} (hb : ∀ b, b < 4 → br b = brz z b) {p : Nat} (hp : p < 4) : faN br p = mfN z p := by
  funext a; rw [faN, mfN]; exact faQ_mf hb hp
theorem tgt_M {br z : IA} (hb : ∀ b, b < 4 → br b = brz z b) {p c : Nat} {v : Int32} (hp : p < 4) : tgt br p v c = tgtM z p v c := by rw [tgt, tgtM, faN_mf hb hp]
theorem tgtM_ne {z : IA} {p c : Nat} {v : Int32} (hv : okv v) (hc : 1 ≤ c) (h : ¬ tgtM z p v c = -6) : ∃ t : Nat, t ≤ 35 ∧ tgtM z p v c = nI t ∧ ¬ v = nI t := by
  rcases tgtM_ok (z := z) (p := p) (c := c) (v := v) with e | ⟨t, ht, e⟩
  · exact absurd e h
  · refine ⟨t, ht, e, fun q => ?_⟩
    rcases hv with rfl | ⟨a, ha, rfl⟩
    · exact nI_neg (by omega) (by decide) q.symm
    · rw [tgtM, if_neg (nI_neg (by omega) (by decide)), nI_clamp (by omega)] at e
      have := tgI_gt e hc ht
      rw [nI_eq (by omega) (by omega)] at q
      omega
-- the pieces on a field
/-- no field of the ring holds pieces of two players -/
def EX (z : IA) : Prop := ∀ j k, j < 12 → k < 12 → ¬ j / 3 = k / 3 → ¬ rf (j / 3) (z j) < 0 → ¬ rf (j / 3) (z j) = rf (k / 3) (z k)
theorem EX_mpc {z : IA} (h : EX z) {p q : Nat} {f : Int32} (hp : p < 4) (hq : q < 4) (hpq : ¬ p = q) : mpc z p f = 0 ∨ mpc z q f = 0 := by
  apply Decidable.byContradiction
  intro hn
  obtain ⟨j, hj, pj⟩ := cnt_pos (P := mpP z p f) 3 (Nat.pos_of_ne_zero fun e => hn (Or.inl e))
  obtain ⟨k, hk, pk⟩ := cnt_pos (P := mpP z q f) 3 (Nat.pos_of_ne_zero fun e => hn (Or.inr e))
  rw [mpP, decide_eq_true_eq] at pj pk
  exact h (3 * p + j) (3 * q + k) (by omega) (by omega) (by omega) (by rw [pj.2]; exact pj.1) (by rw [pj.2, pk.2])
/-- the rivals on a field -/
def rvM (z : IA) (p : Nat) (f : Int32) : Nat := (if p = 0 then 0 else mpc z 0 f) + (if p = 1 then 0 else mpc z 1 f) + (if p = 2 then 0 else mpc z 2 f) + (if p = 3 then 0 else mpc z 3 f)
theorem ao_4 {z : IA} {f : Int32} : ao z f 4 = mpc z 0 f + mpc z 1 f + mpc z 2 f + mpc z 3 f := by simp only [ao, Nat.zero_add]
theorem ao_rv {z : IA} {f : Int32} {p : Nat} (hp : p < 4) : ao z f 4 = rvM z p f + mpc z p f := by
  rw [ao_4, rvM]
  rcases (show p = 0 ∨ p = 1 ∨ p = 2 ∨ p = 3 by omega) with rfl | rfl | rfl | rfl <;> simp <;> omega
theorem rv1 {pr z : IA} {p q : Nat} {f : Int32} (hz : ∀ k, k < 12 → pr k = z k) (hf : okf f) (hq : q < 4) : cnt (fun k => rvP pr p f (3 * q + k)) 3 = if p = q then 0 else mpc z q f := by
  by_cases e : p = q
  · rw [if_pos e]; exact cnt_zero 3 (fun k hk => by rw [rvP]; exact decide_eq_false (fun w => w.2.1 (by omega)))
  · rw [if_neg e, mpc]
    exact cnt_congr 3 fun k hk => by
      rw [rvP, mpP, hz _ (by omega)]
      exact decide_eq_decide.mpr ⟨fun w => ⟨fun l => w.1 ((okf_lt hf).mp l), w.2.2⟩, fun w => ⟨fun l => w.1 ((okf_lt hf).mpr l), by omega, w.2⟩⟩
theorem rv_M {pr z : IA} {p : Nat} {f : Int32} (hz : ∀ k, k < 12 → pr k = z k) (hf : okf f) : cnt (rvP pr p f) 12 = rvM z p f := by
  rw [cnt_12, rv1 hz hf (by decide), rv1 hz hf (by decide), rv1 hz hf (by decide), rv1 hz hf (by decide), rvM]
theorem rv_v {pr z : IA} {p : Nat} {v : Int32} (hz : ∀ k, k < 12 → pr k = z k) (hp : p < 4) : rv pr p v = rvM z p (rf p v) := rv_M hz (rf_okf _ hp)
theorem bl_iff {z : IA} {p : Nat} {f : Int32} (h : EX z) (hp : p < 4) : blO z p f 4 = true ↔ 2 ≤ rvM z p f := by
  have h01 := EX_mpc h (f := f) (show 0 < 4 by decide) (show 1 < 4 by decide) (by decide)
  have h02 := EX_mpc h (f := f) (show 0 < 4 by decide) (show 2 < 4 by decide) (by decide)
  have h03 := EX_mpc h (f := f) (show 0 < 4 by decide) (show 3 < 4 by decide) (by decide)
  have h12 := EX_mpc h (f := f) (show 1 < 4 by decide) (show 2 < 4 by decide) (by decide)
  have h13 := EX_mpc h (f := f) (show 1 < 4 by decide) (show 3 < 4 by decide) (by decide)
  have h23 := EX_mpc h (f := f) (show 2 < 4 by decide) (show 3 < 4 by decide) (by decide)
  rw [rvM]
  rcases (show p = 0 ∨ p = 1 ∨ p = 2 ∨ p = 3 by omega) with rfl | rfl | rfl | rfl <;> simp [blO] <;> omega
theorem pr_iff {z : IA} {f : Int32} (h : EX z) : prO z f 4 = true ↔ 2 ≤ ao z f 4 := by
  have h01 := EX_mpc h (f := f) (show 0 < 4 by decide) (show 1 < 4 by decide) (by decide)
  have h02 := EX_mpc h (f := f) (show 0 < 4 by decide) (show 2 < 4 by decide) (by decide)
  have h03 := EX_mpc h (f := f) (show 0 < 4 by decide) (show 3 < 4 by decide) (by decide)
  have h12 := EX_mpc h (f := f) (show 1 < 4 by decide) (show 2 < 4 by decide) (by decide)
  have h13 := EX_mpc h (f := f) (show 1 < 4 by decide) (show 3 < 4 by decide) (by decide)
  have h23 := EX_mpc h (f := f) (show 2 < 4 by decide) (show 3 < 4 by decide) (by decide)
  rw [ao_4]
  simp [prO]; omega
theorem ao_pc {pr z : IA} {f : Int32} (hz : ∀ k, k < 12 → pr k = z k) (hf : ¬ f < 0) : cnt (pcP pr f) 12 = ao z f 4 := by
  have a : ∀ q, q < 4 → cnt (fun k => pcP pr f (3 * q + k)) 3 = mpc z q f := fun q hq => cnt_congr 3 fun k hk => by
    rw [pcP, mpP, hz _ (by omega)]
    exact decide_eq_decide.mpr ⟨fun w => ⟨hf, w⟩, fun w => w.2⟩
  rw [cnt_12, a 0 (by decide), a 1 (by decide), a 2 (by decide), a 3 (by decide), ao_4]
theorem ot_rv {z : IA} {p : Nat} {f : Int32} (hf : okf f) : ∀ k, otP z p f k = rvP z p f k := fun k => by
  rw [otP, rvP]
  exact decide_eq_decide.mpr ⟨fun w => ⟨fun l => w.2.1 ((okf_lt hf).mpr l), w.1, w.2.2⟩, fun w => ⟨w.2.1, fun l => w.1 ((okf_lt hf).mp l), w.2.2⟩⟩
theorem ot_lt {z : IA} {p : Nat} {f : Int32} (hf : okf f) : ot z p f < 0 ↔ rvM z p f = 0 := by
  rw [ot, hip_lt (by decide), cnt_congr 12 (fun k _ => ot_rv hf k), rv_M (fun _ _ => rfl) hf]
theorem mpc_mow {z : IA} {p t : Nat} (hz : ∀ k, k < 12 → okv (z k)) (hp : p < 4) (ht : t < 32) : mpc z p (rf p (nI t)) = mow z p t :=
  cnt_congr 3 fun k hk => by
    rw [mpP, moP]
    refine decide_eq_decide.mpr ⟨fun w => ⟨?_, by omega⟩, fun w => ⟨rf_on hp ht, ?_⟩⟩
    · have := w.2; rw [show (3 * p + k) / 3 = p by omega] at this; exact (rf_inj hp ht (hz _ (by omega))).mp this
    · rw [show (3 * p + k) / 3 = p by omega, w.1]
theorem mt_mow {pr z : IA} {k t : Nat} (hz : ∀ k, k < 12 → pr k = z k) (hk : k < 12) (ht : t < 35) (hne : ¬ z k = nI t) : mt pr k (nI t) = mow z (k / 3) t :=
  cnt_congr 3 fun j hj => by
    rw [mtP, moP, hz _ (by omega), show k - k % 3 + j = 3 * (k / 3) + j by omega]
    exact decide_eq_decide.mpr ⟨fun w => ⟨w.2, ht⟩, fun w => ⟨fun e => hne (by rw [← e]; exact w.1), w.1⟩⟩
theorem mow_35 {z : IA} {p : Nat} : mow z p 35 = 0 := cnt_zero 3 fun k _ => by rw [moP]; exact decide_eq_false (fun w => absurd w.2 (by decide))
theorem full_mow {pr z : IA} {k t : Nat} (hz : ∀ k, k < 12 → pr k = z k) (hk : k < 12) (ht : t ≤ 35) (hne : ¬ z k = nI t) : fullQ pr k (nI t) = true ↔ 1 < mow z (k / 3) t := by
  rw [fullQ, decide_eq_true_eq]
  by_cases e : t = 35
  · subst e; rw [mow_35]; exact ⟨fun w => absurd rfl w.2.1, fun w => absurd w (by decide)⟩
  · rw [mt_mow hz hk (by omega) hne]
    exact ⟨fun w => w.2.2, fun w => ⟨nI_neg (by omega) (by decide), fun q => e ((nI_eq (a := t) (b := 35) (by omega) (by decide)).mp q), w⟩⟩
theorem blP_M {pr z : IA} {p : Nat} (hz : ∀ k, k < 12 → pr k = z k) (h : EX z) (hp : p < 4) : blP pr p = mbP z p := by
  funext a
  rw [blP, mbP, rv_v hz hp]
  cases e : blO z p (rf p (nI a)) 4 with
  | true => exact decide_eq_true ((bl_iff h hp).mp e)
  | false => exact decide_eq_false (fun w => by rw [(bl_iff h hp).mpr w] at e; cases e)
theorem rs_M {pr br se z : IA} {k cn : Nat} (hz : ∀ k, k < 12 → pr k = z k) (hv : ∀ k, k < 12 → okv (z k)) (hx : EX z) (hb : ∀ b, b < 4 → br b = brz z b) (hs : se 0 = z 36) (hk : k < 12) (h1 : 1 ≤ cn) : rs pr br se k cn = mwn z k cn := by
  have hp : k / 3 < 4 := by omega
  rw [rs, mwn, hz k hk, hs, tgt_M hb hp]
  by_cases q1 : z k = 35
  · rw [if_pos q1, if_pos q1]
  rw [if_neg q1, if_neg q1]
  by_cases q2 : z k = -6 ∧ ¬ z 36 ≤ nI cn
  · rw [if_pos q2, if_pos q2]
  rw [if_neg q2, if_neg q2]
  by_cases q3 : tgtM z (k / 3) (z k) cn = -6
  · rw [if_pos q3, if_pos q3]
  rw [if_neg q3, if_neg q3]
  obtain ⟨t, ht, et, hne⟩ := tgtM_ne (hv k hk) h1 q3
  rw [et, nI_clamp (by omega), blQ, mbQ, blP_M hz hx hp]
  by_cases q4 : anyp (mbP z (k / 3)) (fst0 (z k)) (t + 1 - fst0 (z k)) = true
  · rw [if_pos q4, if_pos q4]
  rw [if_neg q4, if_neg q4]
  by_cases q5 : 1 < mow z (k / 3) t
  · rw [if_pos ((full_mow hz hk ht hne).mpr q5), if_pos q5]
  rw [if_neg (fun w => q5 ((full_mow hz hk ht hne).mp w)), if_neg q5, rv_v hz hp]
  by_cases q6 : t < 32
  · have ea := ao_rv (z := z) (f := rf (k / 3) (nI t)) hp
    rw [mpc_mow hv hp q6] at ea
    by_cases q7 : isf (rf (k / 3) (nI t)) = true ∧ 0 < rvM z (k / 3) (rf (k / 3) (nI t))
    · have q8 := q7.1
      rw [isf, decide_eq_true_eq] at q8
      rw [if_pos q7, if_pos ⟨q8.1, q8.2, by omega⟩]
    · rw [if_neg q7, if_neg (fun w => q7 ⟨by rw [isf, decide_eq_true_eq]; exact ⟨w.1, w.2.1⟩, by have := w.2.2; omega⟩)]
  · rw [rf_far (by omega) (by omega), if_neg (fun w => by have := w.1; rw [isf, decide_eq_true_eq] at this; exact this.1 n6), if_neg (fun w => w.1 n6)]
