-- ===== p25: what the class's changes answer and leave, beside the law's rows =====
theorem SM_e {r : SR} {m : Int32 × KS} {ks : KS} {a : Int32} {z' : IA} (h : SM r m ks) (em : m = (a, rcK ks z')) : r.1 = a ∧ (r.2.1 = true ∨ m.2 = ks) ∧ RC r.2.2 m.2.1 := by
  refine ⟨h.1.trans (congrArg Prod.fst em), ?_, ?_⟩
  · rcases h.2 with ⟨e, _⟩ | ⟨_, e, _⟩
    · exact Or.inl e
    · exact Or.inr e
  · rcases h.2 with ⟨_, z', e, hR⟩ | ⟨_, e, hR⟩
    · rw [e]; exact hR
    · rw [e]; exact hR
theorem SM_y {r : SR} {m : Int32 × KS} {ks : KS} {a : Int32} {z' : IA} (h : SM r m ks) (em : m = (a, rcK ks z')) : r.1 = a ∧ RC r.2.2 z' := by
  have := SM_e h em
  rw [em] at this
  exact ⟨this.1, this.2.2⟩
theorem SM_n {r : SR} {m : Int32 × KS} {ks : KS} {a : Int32} (h : SM r m ks) (em : m = (a, ks)) : r.1 = a ∧ RC r.2.2 ks.1 := by
  refine ⟨h.1.trans (congrArg Prod.fst em), ?_⟩
  rcases h.2 with ⟨_, z', e, hR⟩ | ⟨_, e, hR⟩
  · rw [em] at e
    rw [show ks.1 = z' from congrArg Prod.fst e]; exact hR
  · exact hR
theorem XP_L {ob ob' : OB} {nx sz nx' sz' : Nat} {g g' : GC} {r : SR} (h : XP ob nx sz g r g' ob' nx' sz') (hn : nx < 6) (hs : sz ≤ 6) : nx' < 6 ∧ sz' ≤ 6 := by
  cases hb : r.2.1 with
  | false => obtain ⟨_, e1, e2⟩ := h.2.2 hb; rw [e1, e2]; exact ⟨hn, hs⟩
  | true =>
    obtain ⟨_, e1, e2⟩ := h.2.1 hb
    rw [e1, e2, rcN]
    exact ⟨Nat.mod_lt _ (by decide), by split <;> omega⟩
theorem AX {ob ob' : OB} {nx sz nx' sz' T : Nat} {g g' : GC} {r : SR} {a : Int32} {vp vs vb vg : IA} (hX : XP ob nx sz g r g' ob' nx' sz') (h : r.1 = a ∧ LR r.2.2 T vp vs vb vg) : r.1 = a ∧ LR g' T vp vs vb vg := ⟨h.1, by rw [hX.1]; exact h.2⟩
theorem A_no {g : GC} {r : SR} {a : Int32} {T : Nat} {vp vs vb vg : IA} (hR : LR g T vp vs vb vg) (h : r = (a, false, g)) : r.1 = a ∧ LR r.2.2 T vp vs vb vg := by rw [h]; exact ⟨rfl, hR⟩
theorem LR_m {g : GC} {T U : Nat} {vp vs vb vg : IA} (h : LR g T vp vs vb vg) (hU : T ≤ U) (h2 : U < 2 ^ 28) : LR g U vp vs vb vg := ⟨h.1, TB_m h.2.1 hU, h2⟩
/-- the row with a place changed has bounds still -/
theorem TB_g {T i : Nat} {vb vg : IA} {v : Int32} (h : TB T vb vg) (h6 : ¬ i = 6) (h1 : ¬ i = 1) : TB T vb (upd vg i v) := by
  obtain ⟨t, m, ht, hm, e6, e1, h⟩ := h
  exact ⟨t, m, ht, hm, by rw [upd_ne (fun e => h6 e.symm)]; exact e6, by rw [upd_ne (fun e => h1 e.symm)]; exact e1, h⟩
def and3 (x : Int32) : Nat := x.toUInt32.toNat % 4
theorem and3_eq (x : Int32) : x &&& 3 = nI (and3 x) := by
  apply i32_inj
  have hl : and3 x < 4 := Nat.mod_lt _ (by decide)
  have h1 : (nI (and3 x)).toUInt32.toNat = and3 x := by
    show (BitVec.ofNat 32 (and3 x)).toNat = _
    rw [BitVec.toNat_ofNat]; exact Nat.mod_eq_of_lt (by omega)
  rw [h1]
  show (x.toUInt32 &&& Int32.toUInt32 3).toNat = _
  rw [UInt32.toNat_and]
  exact Nat.and_two_pow_sub_one_eq_mod _ 2
theorem and3_lt (x : Int32) : and3 x < 4 := Nat.mod_lt _ (by decide)
/-- whether a piece can be laid -/
def owP (vp : IA) (k : Nat) (v : Int32) (j : Nat) : Bool := decide (¬ 3 * (k / 3) + j = k ∧ vp (3 * (k / 3) + j) = v ∧ ¬ v < 0 ∧ v < 35)
def canL (vp vb : IA) (k : Nat) (v : Int32) : Bool := decide (cnt (owP vp k v) 3 < 2 ∧ (lfd (k / 3) v < 0 ∨ (ao vp (lfd (k / 3) v) 4 = mpc vp (k / 3) (lfd (k / 3) v) ∧ ¬ (jr (lfd (k / 3) v) 8 = 4 ∧ ¬ vb (3 * ((lfd (k / 3) v).toNatClampNeg / 8)) = 0))))
section RAs
variable {pr sb br fe se vp vs vb vg : IA} {fl x th tu ca : Int32} {pl T : Nat}
theorem can_Z {k : Nat} {v : Int32} (hF : FB vb) (hk : k < 12) (hv : okv v) : canL vp vb k v = true ↔ ¬ (0 ≤ ot (ZZ vp vs vb vg) (k / 3) (rf (k / 3) v) ∨ 1 < laO (ZZ vp vs vb vg) v k ∨ mfa (ZZ vp vs vb vg) (rf (k / 3) v) = true) := by
  have hq : k / 3 < 4 := by omega
  have hf : okf (rf (k / 3) v) := rf_okf _ hq
  have e1 : (0 : Int32) ≤ ot (ZZ vp vs vb vg) (k / 3) (rf (k / 3) v) ↔ ¬ rvM (ZZ vp vs vb vg) (k / 3) (rf (k / 3) v) = 0 := by rw [← Int32.not_lt]; exact not_congr (ot_lt hf)
  have e2 : laO (ZZ vp vs vb vg) v k = cnt (owP vp k v) 3 := cnt_congr 3 fun j hj => by
    rw [laP, owP, Z_p (by omega)]
    have e : (¬ v < 0 ∧ v < 35) ↔ inQ v 0 34 = true := by
      rw [inQ, decide_eq_true_eq]
      rcases hv with rfl | ⟨a, ha, rfl⟩
      · exact ⟨fun w => absurd n6 w.1, fun w => absurd n6 w.1⟩
      · have a1 : nI a < 35 ↔ a < 35 := nI_ltI (b := 35) (by omega) (by decide)
        have a2 : (34 : Int32) < nI a ↔ 34 < a := nI_ltI (a := 34) (by decide) (by omega)
        rw [a1, a2]; exact ⟨fun w => ⟨w.1, by omega⟩, fun w => ⟨w.1, by omega⟩⟩
    exact decide_eq_decide.mpr ⟨fun w => ⟨w.1, w.2.1, (e.mpr w.2.2).1, (e.mpr w.2.2).2⟩, fun w => ⟨w.1, w.2.1, e.mp w.2.2⟩⟩
  rw [canL, decide_eq_true_eq, e1, e2]
  have ea := ao_rv (z := ZZ vp vs vb vg) (f := rf (k / 3) v) hq
  rcases lfd_rf (v := v) hq with ⟨h1, h2⟩ | ⟨a, ha, h1, h2⟩
  · have e3 : rvM (ZZ vp vs vb vg) (k / 3) (-6) = 0 := by rw [rvM, mpc_n n6, mpc_n n6, mpc_n n6, mpc_n n6]; simp
    have e4 : ¬ mfa (ZZ vp vs vb vg) (-6) = true := by rw [mfa, decide_eq_true_eq]; exact fun w => w.1 n6
    rw [h1, h2, e3]
    constructor
    · rintro ⟨w, _⟩ (z | z | z)
      · exact z rfl
      · omega
      · exact e4 z
    · exact fun w => ⟨by have := fun z => w (Or.inr (Or.inl z)); omega, Or.inl (by decide)⟩
  · rw [h1] at ea ⊢
    have e3 : mpc (ZZ vp vs vb vg) (k / 3) (nI a) = mpc vp (k / 3) (nI a) := mpc_Z hq
    have e4 : ao (ZZ vp vs vb vg) (nI a) 4 = ao vp (nI a) 4 := ao_Z
    have e5 : mfa (ZZ vp vs vb vg) (nI a) = true ↔ (jr (nI a) 8 = 4 ∧ ¬ vb (3 * (a / 8)) = 0) := by
      rw [mfa, decide_eq_true_eq, nI_clamp (by omega), Z_0 (by omega)]
      have hb := (hF (a / 8) (by omega)).1
      exact ⟨fun w => ⟨w.2.1, fun z => by rw [w.2.2] at z; exact absurd z (by decide)⟩, fun w => ⟨nI_pos (by omega), w.1, hb.resolve_left w.2⟩⟩
    rw [h2, e5, nI_clamp (by omega)]
    constructor
    · rintro ⟨w, y⟩ (z | z | z)
      · rcases y with y | y
        · exact nI_pos (by omega) y
        · have := y.1; omega
      · omega
      · rcases y with y | y
        · exact nI_pos (by omega) y
        · exact y.2 z
    · refine fun w => ⟨by have := fun z => w (Or.inr (Or.inl z)); omega, Or.inr ⟨?_, fun z => w (Or.inr (Or.inr z))⟩⟩
      have : rvM (ZZ vp vs vb vg) (k / 3) (nI a) = 0 := Decidable.byContradiction fun z => w (Or.inl z)
      omega
theorem ok35 {v : Int32} (hv : okv v) : ¬ (¬ v = -6 ∧ ¬ inQ v 0 35 = true) := by
  rcases hv with rfl | ⟨a, ha, rfl⟩
  · exact fun w => w.1 rfl
  · exact fun w => w.2 (inQ_t (lo := 0) (hi := 35) (by omega) ha (by decide))
theorem A_lay_y (hR : LR (pr, sb, br, fe, se, fl, x, pl, th, tu, ca) T vp vs vb vg) {k : Nat} {v : Int32} (hk : k < 12) (hv : okv v) (hc : canL vp vb k v = true) :
    (s_lay (nI k) v (pr, sb, br, fe, se, fl, x, pl, th, tu, ca)).1 = vp k ∧ LR (s_lay (nI k) v (pr, sb, br, fe, se, fl, x, pl, th, tu, ca)).2.2 T (upd vp k v) vs (lbr (upd vp k v) vb vg 4).1 (lbr (upd vp k v) vb vg 4).2 := by
  have hF := TB_F hR.2.1
  have em : m_lay (nI k) v (ZZ vp vs vb vg, vg, 0, vg, vg, vg, 0) = (ZZ vp vs vb vg k, rcK (ZZ vp vs vb vg, vg, 0, vg, vg, vg, 0) (lk (upd (ZZ vp vs vb vg) k v) 4)) := by
    rw [m_lay, if_neg (fun w => w (inQ_t (lo := 0) (hi := 11) (by omega) (by omega) (by decide))), if_neg (ok35 hv), nI_clamp (show k < 2 ^ 31 by omega)]
    exact if_neg ((can_Z (vs := vs) (vg := vg) hF hk hv).mp hc)
  obtain ⟨h1, h2⟩ := SM_y (q_lay (nI k) v (ks := (ZZ vp vs vb vg, vg, 0, vg, vg, vg, 0)) hR.1) em
  refine ⟨h1.trans (Z_p hk), ?_, lbr_B hR.2.1 4 (Nat.le_refl 4), hR.2.2⟩
  rw [(lbr_Z hF 4 (Nat.le_refl 4)).1, U_p hk]; exact h2
theorem A_lay_n (hR : LR (pr, sb, br, fe, se, fl, x, pl, th, tu, ca) T vp vs vb vg) {k : Nat} {v : Int32} (hk : k < 12) (hv : okv v) (hc : ¬ canL vp vb k v = true) :
    (s_lay (nI k) v (pr, sb, br, fe, se, fl, x, pl, th, tu, ca)).1 = -5 ∧ LR (s_lay (nI k) v (pr, sb, br, fe, se, fl, x, pl, th, tu, ca)).2.2 T vp vs vb vg := by
  have hF := TB_F hR.2.1
  have em : m_lay (nI k) v (ZZ vp vs vb vg, vg, 0, vg, vg, vg, 0) = (-5, (ZZ vp vs vb vg, vg, 0, vg, vg, vg, 0)) := by
    rw [m_lay, if_neg (fun w => w (inQ_t (lo := 0) (hi := 11) (by omega) (by omega) (by decide))), if_neg (ok35 hv), nI_clamp (show k < 2 ^ 31 by omega)]
    exact if_pos (Decidable.byContradiction fun w => hc ((can_Z (vs := vs) (vg := vg) hF hk hv).mpr w))
  obtain ⟨h1, h2⟩ := SM_n (q_lay (nI k) v (ks := (ZZ vp vs vb vg, vg, 0, vg, vg, vg, 0)) hR.1) em
  exact ⟨h1, h2, hR.2⟩
theorem N_lay1 {g : GC} : s_lay 12 99 g = (-1, false, g) := by obtain ⟨a, b, c, d, e, f, i, j, k, l, m⟩ := g; rw [s_lay, if_pos (by decide)]
theorem N_lay2 {g : GC} : s_lay 0 36 g = (-2, false, g) := by obtain ⟨a, b, c, d, e, f, i, j, k, l, m⟩ := g; rw [s_lay, if_neg (by decide), if_pos (by decide)]
theorem N_lay3 {g : GC} : s_lay 0 (-1) g = (-2, false, g) := by obtain ⟨a, b, c, d, e, f, i, j, k, l, m⟩ := g; rw [s_lay, if_neg (by decide), if_pos (by decide)]
-- settings, the seed
theorem A_set (hR : LR (pr, sb, br, fe, se, fl, x, pl, th, tu, ca) T vp vs vb vg) {k v : Nat} (h : (k = 0 ∧ 1 ≤ v ∧ v ≤ 6) ∨ (k = 1 ∧ v ≤ 40) ∨ (k = 2 ∧ v ≤ 3)) :
    (s_set (nI k) (nI v) (pr, sb, br, fe, se, fl, x, pl, th, tu, ca)).1 = vg k ∧ LR (s_set (nI k) (nI v) (pr, sb, br, fe, se, fl, x, pl, th, tu, ca)).2.2 T vp vs vb (upd vg k (nI v)) := by
  have em : m_set (nI k) (nI v) (ZZ vp vs vb vg, vg, 0, vg, vg, vg, 0) = (ZZ vp vs vb vg (36 + k), rcK (ZZ vp vs vb vg, vg, 0, vg, vg, vg, 0) (upd (ZZ vp vs vb vg) (36 + k) (nI v))) := by
    rw [m_set, nI_clamp (show k < 2 ^ 31 by omega)]
    refine if_pos ?_
    rcases h with ⟨rfl, a, b⟩ | ⟨rfl, a⟩ | ⟨rfl, a⟩
    · exact ⟨by decide, inQ_t (lo := 1) (hi := 6) a b (by decide)⟩
    · exact ⟨by decide, inQ_t (lo := 0) (hi := 40) (by omega) a (by decide)⟩
    · exact ⟨by decide, inQ_t (lo := 0) (hi := 3) (by omega) a (by decide)⟩
  obtain ⟨h1, h2⟩ := SM_y (q_set (nI k) (nI v) (ks := (ZZ vp vs vb vg, vg, 0, vg, vg, vg, 0)) hR.1) em
  refine ⟨h1.trans Z_g, by rw [U_g]; exact h2, ?_, hR.2.2⟩
  rcases h with ⟨rfl, a, b⟩ | ⟨rfl, a⟩ | ⟨rfl, a⟩
  · exact TB_g hR.2.1 (by decide) (by decide)
  · obtain ⟨t, m, ht, hm, e6, e1, hb⟩ := hR.2.1
    exact ⟨t, v, ht, a, by rw [upd_ne (by decide)]; exact e6, by rw [upd_eq], hb⟩
  · exact TB_g hR.2.1 (by decide) (by decide)
theorem N_set1 {g : GC} : s_set 0 0 g = (-2, false, g) := by obtain ⟨a, b, c, d, e, r⟩ := g; rw [s_set, if_neg (by decide), if_pos (by decide)]
theorem N_set2 {g : GC} : s_set 1 41 g = (-2, false, g) := by obtain ⟨a, b, c, d, e, r⟩ := g; rw [s_set, if_neg (by decide), if_pos (by decide)]
theorem N_set3 {g : GC} : s_set 2 4 g = (-2, false, g) := by obtain ⟨a, b, c, d, e, r⟩ := g; rw [s_set, if_neg (by decide), if_pos (by decide)]
theorem N_set4 {g : GC} : s_set 3 1 g = (-2, false, g) := by obtain ⟨a, b, c, d, e, r⟩ := g; rw [s_set, if_pos (by decide)]
theorem A_seed (hR : LR (pr, sb, br, fe, se, fl, x, pl, th, tu, ca) T vp vs vb vg) {v : Nat} (h : v < 2 ^ 31) :
    (s_seed (nI v) (pr, sb, br, fe, se, fl, x, pl, th, tu, ca)).1 = vg 3 ∧ LR (s_seed (nI v) (pr, sb, br, fe, se, fl, x, pl, th, tu, ca)).2.2 T vp vs vb (upd vg 3 (nI v)) := by
  have em : m_seed (nI v) (ZZ vp vs vb vg, vg, 0, vg, vg, vg, 0) = (ZZ vp vs vb vg 39, rcK (ZZ vp vs vb vg, vg, 0, vg, vg, vg, 0) (upd (ZZ vp vs vb vg) 39 (nI v))) := by rw [m_seed, if_pos (nI_pos' h)]
  obtain ⟨h1, h2⟩ := SM_y (q_seed (nI v) (ks := (ZZ vp vs vb vg, vg, 0, vg, vg, vg, 0)) hR.1) em
  exact ⟨h1.trans (Z_g (i := 3)), by rw [U_g]; exact h2, TB_g hR.2.1 (by decide) (by decide), hR.2.2⟩
theorem N_seed {g : GC} : s_seed (-1) g = (-2, false, g) := by obtain ⟨a, b, c, d, e, f, i, r⟩ := g; rw [s_seed, if_pos (by decide)]
-- throws played
theorem ov_Z (hR : LR (pr, sb, br, fe, se, fl, x, pl, th, tu, ca) T vp vs vb vg) : wi pr = lwi vp ∧ (¬ wi pr = -6 ↔ 0 ≤ lwi vp) := by
  obtain ⟨hp, ht, hr, hx, h40, hth, htu, hca⟩ := RG_iff.mp (LR_RG hR).1
  have e : wi pr = lwi vp := by rw [wi_M hp.1, wi_Z (vs := vs) (vb := vb) (vg := vg) (LR_v hR)]
  refine ⟨e, ?_⟩
  rw [e, wi_Z (vs := vs) (vb := vb) (vg := vg) (LR_v hR), ← mwi_lt, Int32.not_lt]
theorem N_play (hR : LR (pr, sb, br, fe, se, fl, x, pl, th, tu, ca) T vp vs vb vg) {c : Nat} (h1 : 1 ≤ c) (h2 : c ≤ 100) (h : 0 ≤ lwi vp ∨ ¬ vg 5 = -6) : s_play (nI c) (pr, sb, br, fe, se, fl, x, pl, th, tu, ca) = (-5, false, pr, sb, br, fe, se, fl, x, pl, th, tu, ca) := by
  rw [s_play, if_neg (show ¬ (nI c < 1 ∨ ¬ nI c ≤ 100) from fun w => inQ_le.mp w (inQ_t (lo := 1) (hi := 100) h1 h2 (by decide))), if_pos (h.elim (fun w => Or.inl ((ov_Z hR).2.mpr w)) (fun w => Or.inr (by rw [← (LR_5 hR).1]; exact w)))]
theorem N_play1 {g : GC} : s_play 101 g = (-2, false, g) := by obtain ⟨a, b, c, d, e, f, i, j, k, l, m⟩ := g; rw [s_play, if_pos (by decide)]
theorem N_play0 {g : GC} : s_play 0 g = (-2, false, g) := by obtain ⟨a, b, c, d, e, f, i, j, k, l, m⟩ := g; rw [s_play, if_pos (by decide)]
theorem A_play (hR : LR (pr, sb, br, fe, se, fl, x, pl, th, tu, ca) T vp vs vb vg) {c i : Nat} {u : L4} (h1 : 1 ≤ c) (h2 : c ≤ 12) (hT : T + 12 < 2 ^ 28) (hw : ¬ 0 ≤ lwi vp) (h5 : vg 5 = -6) (he : lpN c (vp, vs, vb, vg) = (u, i)) :
    (s_play (nI c) (pr, sb, br, fe, se, fl, x, pl, th, tu, ca)).1 = nI i ∧ LR (s_play (nI c) (pr, sb, br, fe, se, fl, x, pl, th, tu, ca)).2.2 (T + 12) u.1 u.2.1 u.2.2.1 u.2.2.2 := by
  have e41 : ZZ vp vs vb vg 41 = -6 := (Z_g (i := 5)).trans h5
  have em : m_play (nI c) (ZZ vp vs vb vg, vg, 0, vg, vg, vg, 0) = (nI (pgM c (ZZ vp vs vb vg)).2, rcK (ZZ vp vs vb vg, vg, 0, vg, vg, vg, 0) (pgM c (ZZ vp vs vb vg)).1) := by
    rw [m_play, if_neg (fun w => w (inQ_t (lo := 1) (hi := 100) h1 (by omega) (by decide))), nI_clamp (show c < 2 ^ 31 by omega)]
    exact if_neg (fun w => w.elim (fun z => hw (Int32.not_lt.mp (by rw [wi_Z (vs := vs) (vb := vb) (vg := vg) (LR_v hR)]; exact z))) (fun z => z e41))
  obtain ⟨q1, q2⟩ := SM_y (q_play (nI c) (ks := (ZZ vp vs vb vg, vg, 0, vg, vg, vg, 0)) hR.1) em
  obtain ⟨⟨n1, n3⟩, n2⟩ := lpN_Z c T _ vp vs vb vg (LR_RG hR).1 (LR_RG hR).2 (by omega) hR.2.1
  rw [he] at n1 n2 n3
  have n1 : ZZ u.1 u.2.1 u.2.2.1 u.2.2.2 = (pgM c (ZZ vp vs vb vg)).1 := n1
  have n2 : i = (pgM c (ZZ vp vs vb vg)).2 := n2
  exact ⟨by rw [n2]; exact q1, by rw [n1]; exact q2, TB_m n3 (by omega), hT⟩
-- a throw, a move, passing
theorem A_cast (hR : LR (pr, sb, br, fe, se, fl, x, pl, th, tu, ca) T vp vs vb vg) (hw : ¬ 0 ≤ lwi vp) (h5 : vg 5 = -6) :
    (s_cast (pr, sb, br, fe, se, fl, x, pl, th, tu, ca)).1 = co (nx (vg 3)) ∧ LR (s_cast (pr, sb, br, fe, se, fl, x, pl, th, tu, ca)).2.2 T vp vs vb (lpG vg) := by
  have e41 : ZZ vp vs vb vg 41 = -6 := (Z_g (i := 5)).trans h5
  have em : m_cast (ZZ vp vs vb vg, vg, 0, vg, vg, vg, 0) = (co (nx (ZZ vp vs vb vg 39)), rcK (ZZ vp vs vb vg, vg, 0, vg, vg, vg, 0) (thM (ZZ vp vs vb vg))) := by
    rw [m_cast]
    exact if_neg (fun w => w.elim (fun z => hw (Int32.not_lt.mp (by rw [wi_Z (vs := vs) (vb := vb) (vg := vg) (LR_v hR)]; exact z))) (fun z => z e41))
  obtain ⟨q1, q2⟩ := SM_y (q_cast (ks := (ZZ vp vs vb vg, vg, 0, vg, vg, vg, 0)) hR.1) em
  refine ⟨q1.trans (by rw [show ZZ vp vs vb vg 39 = vg 3 from Z_g (i := 3)]), by rw [lpG_Z]; exact q2, ?_, hR.2.2⟩
  rw [lpG]; exact TB_g (TB_g (TB_g hR.2.1 (by decide) (by decide)) (by decide) (by decide)) (by decide) (by decide)
theorem N_cast (hR : LR (pr, sb, br, fe, se, fl, x, pl, th, tu, ca) T vp vs vb vg) (h : 0 ≤ lwi vp ∨ ¬ vg 5 = -6) : s_cast (pr, sb, br, fe, se, fl, x, pl, th, tu, ca) = (-5, false, pr, sb, br, fe, se, fl, x, pl, th, tu, ca) := by
  rw [s_cast, if_pos (h.elim (fun w => Or.inl ((ov_Z hR).2.mpr w)) (fun w => Or.inr (by rw [← (LR_5 hR).1]; exact w)))]
theorem N_move5 (hR : LR (pr, sb, br, fe, se, fl, x, pl, th, tu, ca) T vp vs vb vg) (h5 : vg 5 = -6) : s_move 0 (pr, sb, br, fe, se, fl, x, pl, th, tu, ca) = (-5, false, pr, sb, br, fe, se, fl, x, pl, th, tu, ca) := by
  rw [s_move, if_neg (by decide), if_pos (Or.inl ((LR_5 hR).1.symm.trans h5))]
theorem N_skip5 (hR : LR (pr, sb, br, fe, se, fl, x, pl, th, tu, ca) T vp vs vb vg) (h5 : vg 5 = -6) : s_skip (pr, sb, br, fe, se, fl, x, pl, th, tu, ca) = (-5, false, pr, sb, br, fe, se, fl, x, pl, th, tu, ca) := by
  rw [s_skip, if_pos (Or.inl ((LR_5 hR).1.symm.trans h5))]
theorem N_move3 {g : GC} : s_move 3 g = (-1, false, g) := by obtain ⟨a, b, c, d, e, f, i, j, k, l, m⟩ := g; rw [s_move, if_pos (by decide)]
theorem rs_Z (hR : LR (pr, sb, br, fe, se, fl, x, pl, th, tu, ca) T vp vs vb vg) {j cn : Nat} (hj : j < 3) (hc : 1 ≤ cn) : rs pr br se (pl * 3 + j) cn = mwn (ZZ vp vs vb vg) (3 * pl + j) cn := by
  obtain ⟨hp, ht, hr, hx, h40, hth, htu, hca⟩ := RG_iff.mp (LR_RG hR).1
  rw [Nat.mul_comm pl 3]; exact rs_M hp.1 hp.2.1 hp.2.2 hr.1 (LR_RG hR).2.1 (by omega) hc
theorem wn_Z (hR : LR (pr, sb, br, fe, se, fl, x, pl, th, tu, ca) T vp vs vb vg) {j cn : Nat} (hj : j < 3) (hc : 1 ≤ cn) : lwy vp vb vg (3 * pl + j) cn - 10 < 0 ↔ ¬ mwn (ZZ vp vs vb vg) (3 * pl + j) cn = 0 :=
  wy_neg (LR_v hR) (TB_F hR.2.1) (by have := (LR_X5 hR).2.2.1; omega) hc
theorem N_move (hR : LR (pr, sb, br, fe, se, fl, x, pl, th, tu, ca) T vp vs vb vg) {j cn : Nat} (hj : j < 3) (hc1 : 1 ≤ cn) (hc : cn ≤ 6) (h5 : vg 5 = nI cn) (h : lwy vp vb vg (3 * pl + j) cn - 10 < 0) : s_move (nI j) (pr, sb, br, fe, se, fl, x, pl, th, tu, ca) = (-5, false, pr, sb, br, fe, se, fl, x, pl, th, tu, ca) := by
  have eth : th = nI cn := (LR_5 hR).1.symm.trans h5
  rw [s_move, if_neg (show ¬ (nI j < 0 ∨ ¬ nI j < 3) from fun w => in2'.mp w (inQ_t (lo := 0) (hi := 2) (by omega) (by omega) (by decide))), if_pos (Or.inr (by rw [eth, nI_clamp (show j < 2 ^ 31 by omega), nI_clamp (show cn < 2 ^ 31 by omega), rs_Z hR hj hc1]; exact (wn_Z hR hj hc1).mp h))]
theorem be_no (hR : LR (pr, sb, br, fe, se, fl, x, pl, th, tu, ca) T vp vs vb vg) {cn : Nat} (hc1 : 1 ≤ cn) : lbe vp vb vg pl cn < 0 ↔ ¬ cmQ pr br se pl cn = true := by
  have hpl := (LR_X5 hR).2.2.1
  have e : cmQ pr br se pl cn = true ↔ ∃ j, j < 3 ∧ mwn (ZZ vp vs vb vg) (3 * pl + j) cn = 0 := by
    rw [cmQ]
    have e0 : ∀ j, j < 3 → (rsP pr br se cn (pl * 3 + j) = true ↔ mwn (ZZ vp vs vb vg) (3 * pl + j) cn = 0) := fun j hj => by rw [rsP, decide_eq_true_eq, rs_Z hR hj hc1]
    have a0 := e0 0 (by decide)
    have a1 := e0 1 (by decide)
    have a2 := e0 2 (by decide)
    simp only [anyp, Bool.or_false, Bool.or_eq_true]
    rw [show pl * 3 + 1 + 1 = pl * 3 + 2 from rfl, show pl * 3 = pl * 3 + 0 from rfl, a0, show pl * 3 + 0 + 1 = pl * 3 + 1 from rfl, a1, show pl * 3 + 0 + 2 = pl * 3 + 2 from rfl, a2]
    constructor
    · rintro (w | w | w)
      · exact ⟨0, by decide, w⟩
      · exact ⟨1, by decide, w⟩
      · exact ⟨2, by decide, w⟩
    · rintro ⟨j, hj, w⟩
      rcases (show j = 0 ∨ j = 1 ∨ j = 2 by omega) with rfl | rfl | rfl
      · exact Or.inl w
      · exact Or.inr (Or.inl w)
      · exact Or.inr (Or.inr w)
  rw [e, lbe]
  rcases lbs_P (vs := vs) (vg := vg) (LR_v hR) (TB_F hR.2.1) hpl hc1 3 (Nat.le_refl 3) with ⟨b1, _, b2⟩ | ⟨k, b1, _, b3⟩
  · rw [b1]; exact ⟨fun _ ⟨j, hj, w⟩ => b2 j (by omega) hj w, fun _ => n6⟩
  · rw [b1]; exact ⟨fun w => absurd w (nI_pos (by have := b3.2.1; omega)), fun w => absurd ⟨k, b3.2.1, b3.2.2.1⟩ w⟩
theorem N_skip (hR : LR (pr, sb, br, fe, se, fl, x, pl, th, tu, ca) T vp vs vb vg) {cn : Nat} (hc1 : 1 ≤ cn) (hc : cn ≤ 6) (h5 : vg 5 = nI cn) (h : ¬ lbe vp vb vg pl cn < 0) : s_skip (pr, sb, br, fe, se, fl, x, pl, th, tu, ca) = (-5, false, pr, sb, br, fe, se, fl, x, pl, th, tu, ca) := by
  have eth : th = nI cn := (LR_5 hR).1.symm.trans h5
  rw [s_skip, if_pos (Or.inr (by rw [eth, nI_clamp (show cn < 2 ^ 31 by omega)]; exact Decidable.byContradiction fun w => h ((be_no hR hc1).mpr w)))]
theorem can_be (hR : LR (pr, sb, br, fe, se, fl, x, pl, th, tu, ca) T vp vs vb vg) {j cn : Nat} (hj : j < 3) (hc1 : 1 ≤ cn) (h : ¬ lwy vp vb vg (3 * pl + j) cn - 10 < 0) : ¬ lbe vp vb vg pl cn < 0 := by
  rw [lbe]
  have hm : mwn (ZZ vp vs vb vg) (3 * pl + j) cn = 0 := Decidable.byContradiction fun w => h ((wn_Z hR hj hc1).mpr w)
  rcases lbs_P (vs := vs) (vg := vg) (LR_v hR) (TB_F hR.2.1) (LR_X5 hR).2.2.1 hc1 3 (Nat.le_refl 3) with ⟨b1, _, b2⟩ | ⟨k, b1, _, b3⟩
  · exact absurd hm (b2 j (by omega) hj)
  · rw [b1]; exact nI_pos (by have := b3.2.1; omega)
theorem A_skip (hR : LR (pr, sb, br, fe, se, fl, x, pl, th, tu, ca) T vp vs vb vg) {cn : Nat} (hT : T + 12 < 2 ^ 28) (hc1 : 1 ≤ cn) (hc : cn ≤ 6) (h5 : vg 5 = nI cn) (h : lbe vp vb vg pl cn < 0) :
    (s_skip (pr, sb, br, fe, se, fl, x, pl, th, tu, ca)).1 = (lnS vp vb vg).2 4 ∧ LR (s_skip (pr, sb, br, fe, se, fl, x, pl, th, tu, ca)).2.2 (T + 12) vp vs (lnS vp vb vg).1 (lnS vp vb vg).2 := by
  obtain ⟨hp, ht, hr, hx, h40, hth, htu, hca⟩ := RG_iff.mp (LR_RG hR).1
  have e41 : ZZ vp vs vb vg 41 = nI cn := (Z_g (i := 5)).trans h5
  have hcm : ¬ mcQ (ZZ vp vs vb vg) pl cn 3 = true := by rw [← cm_M (cn := cn) hp hr.1 (LR_RG hR).2.1 h40.2 hc1]; exact (be_no hR hc1).mp h
  have em : m_skip (ZZ vp vs vb vg, vg, 0, vg, vg, vg, 0) = (goM (ZZ vp vs vb vg) pl 40, rcK (ZZ vp vs vb vg, vg, 0, vg, vg, vg, 0) (goM (ZZ vp vs vb vg) pl)) := by
    rw [m_skip]
    show (if ZZ vp vs vb vg 41 = -6 ∨ mcQ (ZZ vp vs vb vg) (ZZ vp vs vb vg 40).toNatClampNeg (ZZ vp vs vb vg 41).toNatClampNeg 3 = true then _ else (goM (ZZ vp vs vb vg) (ZZ vp vs vb vg 40).toNatClampNeg 40, rcK _ (goM (ZZ vp vs vb vg) (ZZ vp vs vb vg 40).toNatClampNeg))) = _
    rw [e41, h40.1, nI_clamp (show pl < 2 ^ 31 by omega), nI_clamp (show cn < 2 ^ 31 by omega)]
    exact if_neg (fun w => w.elim (nI_neg (by omega) (by decide)) hcm)
  obtain ⟨q1, q2⟩ := SM_y (q_skip (ks := (ZZ vp vs vb vg, vg, 0, vg, vg, vg, 0)) hR.1) em
  obtain ⟨n1, n2⟩ := en_Z (vs := vs) (LR_v hR) (show T < 2 ^ 29 by omega) hR.2.1 (LR_4 hR) h40.2
  exact ⟨q1.trans (by rw [← n1]; exact Z_g (i := 4)), by rw [n1]; exact q2, TB_m n2 (by omega), hT⟩
theorem A_move (hR : LR (pr, sb, br, fe, se, fl, x, pl, th, tu, ca) T vp vs vb vg) {j cn : Nat} (hT : T + 12 < 2 ^ 28) (hj : j < 3) (hc1 : 1 ≤ cn) (hc : cn ≤ 6) (h5 : vg 5 = nI cn) (h : ¬ lwy vp vb vg (3 * pl + j) cn - 10 < 0) :
    (lgS vp vs vb vg (3 * pl + j) (lwy vp vb vg (3 * pl + j) cn - 10)).2.2.2 4 = nI pl ∧
    (s_move (nI j) (pr, sb, br, fe, se, fl, x, pl, th, tu, ca)).1 = (lgS vp vs vb vg (3 * pl + j) (lwy vp vb vg (3 * pl + j) cn - 10)).1 (3 * pl + j) ∧
    LR (s_move (nI j) (pr, sb, br, fe, se, fl, x, pl, th, tu, ca)).2.2 (T + 12) (lmS vp vs vb vg (3 * pl + j) (lwy vp vb vg (3 * pl + j) cn - 10)).1 (lmS vp vs vb vg (3 * pl + j) (lwy vp vb vg (3 * pl + j) cn - 10)).2.1 (lmS vp vs vb vg (3 * pl + j) (lwy vp vb vg (3 * pl + j) cn - 10)).2.2.1 (lmS vp vs vb vg (3 * pl + j) (lwy vp vb vg (3 * pl + j) cn - 10)).2.2.2 := by
  obtain ⟨hp, ht, hr, hx, h40, hth, htu, hca⟩ := RG_iff.mp (LR_RG hR).1
  have hm : mwn (ZZ vp vs vb vg) (3 * pl + j) cn = 0 := Decidable.byContradiction fun w => h ((wn_Z hR hj hc1).mpr w)
  have e41 : ZZ vp vs vb vg 41 = nI cn := (Z_g (i := 5)).trans h5
  have em : m_move (nI j) (ZZ vp vs vb vg, vg, 0, vg, vg, vg, 0) = (moM (ZZ vp vs vb vg) pl cn j (3 * pl + j), rcK (ZZ vp vs vb vg, vg, 0, vg, vg, vg, 0) (moM (ZZ vp vs vb vg) pl cn j)) := by
    rw [m_move, if_neg (fun w => w (inQ_t (lo := 0) (hi := 2) (by omega) (by omega) (by decide))), nI_clamp (show j < 2 ^ 31 by omega)]
    show (if ZZ vp vs vb vg 41 = -6 ∨ ¬ mwn (ZZ vp vs vb vg) (3 * (ZZ vp vs vb vg 40).toNatClampNeg + j) (ZZ vp vs vb vg 41).toNatClampNeg ≤ 0 then _ else (moM (ZZ vp vs vb vg) (ZZ vp vs vb vg 40).toNatClampNeg (ZZ vp vs vb vg 41).toNatClampNeg j (3 * (ZZ vp vs vb vg 40).toNatClampNeg + j), rcK _ (moM (ZZ vp vs vb vg) (ZZ vp vs vb vg 40).toNatClampNeg (ZZ vp vs vb vg 41).toNatClampNeg j))) = _
    rw [e41, h40.1, nI_clamp (show pl < 2 ^ 31 by omega), nI_clamp (show cn < 2 ^ 31 by omega), hm]
    exact if_neg (fun w => w.elim (nI_neg (by omega) (by decide)) (fun z => z (by decide)))
  obtain ⟨q1, q2⟩ := SM_y (q_move (nI j) (ks := (ZZ vp vs vb vg, vg, 0, vg, vg, vg, 0)) hR.1) em
  obtain ⟨g1, _, g4, n1, n2⟩ := mv_Z (vp := vp) (vs := vs) (LR_v hR) hp.2.2 (show T < 2 ^ 29 by omega) hR.2.1 (LR_4 hR) h40.2 hj hc1 hm
  have hk : 3 * pl + j < 12 := by have := h40.2; omega
  refine ⟨g4, q1.trans ?_, by rw [n1]; exact q2, TB_m n2 (by omega), hT⟩
  show goM (mv2 (ZZ vp vs vb vg) pl cn j) pl (3 * pl + j) = _
  rw [goM_lo (by omega), ← g1, Z_p hk]
end RAs
theorem ow_t {vp : IA} {k i : Nat} {v : Int32} (h0 : k / 3 * 3 ≤ i) (h1 : ¬ i = k) (h2 : vp i = v) (h3 : ¬ v < 0) (h4 : v < 35) : owP vp k v (i - k / 3 * 3) = true := by
  rw [owP, show 3 * (k / 3) + (i - k / 3 * 3) = i by omega]; exact decide_eq_true ⟨h1, h2, h3, h4⟩
theorem ow_f {vp : IA} {k i : Nat} {v : Int32} (h0 : k / 3 * 3 ≤ i) (h : ¬ (¬ i = k ∧ vp i = v ∧ ¬ v < 0 ∧ v < 35)) : ¬ owP vp k v (i - k / 3 * 3) = true := by
  rw [owP, show 3 * (k / 3) + (i - k / 3 * 3) = i by omega]; exact fun w => h (of_decide_eq_true w)
theorem neg5 {v : Int32} (h : okc v) (hn : v < 0) : v = -6 := by
  rcases h with e | ⟨a, _, _, rfl⟩
  · exact e
  · exact absurd hn (nI_pos (by omega))
theorem pos5 {v : Int32} (h : okc v) (hn : ¬ v < 0) : ¬ v = -6 := fun e => hn (by rw [e]; decide)
theorem lpG5 {vg : IA} (h : ¬ vg 3 < 0) : ¬ lpG vg 5 = -6 := by
  obtain ⟨c, h1, h6, e⟩ := co_ok (nx_nn h)
  rw [lpG, upd_ne (by decide), upd_eq, e]; exact nI_neg (by omega) (by decide)
theorem lpG_5 {vg : IA} : lpG vg 5 = co (nx (vg 3)) := by rw [lpG, upd_ne (by decide), upd_eq]
section RBs
variable {pr sb br fe se vp vs vb vg : IA} {fl x th tu ca : Int32} {pl T : Nat}
theorem A_mov2 (hR : LR (pr, sb, br, fe, se, fl, x, pl, th, tu, ca) T vp vs vb vg) {j cn : Nat} (hT : T + 12 < 2 ^ 28) (hj : j < 3) (hc1 : 1 ≤ cn) (hc : cn ≤ 6) (h5 : vg 5 = nI cn) (h : ¬ lwy vp vb vg (3 * pl + j) cn - 10 < 0) {u : L4} (hu : lgS vp vs vb vg (3 * pl + j) (lwy vp vb vg (3 * pl + j) cn - 10) = u) :
    (s_move (nI j) (pr, sb, br, fe, se, fl, x, pl, th, tu, ca)).1 = u.1 (3 * pl + j) ∧
    LR (s_move (nI j) (pr, sb, br, fe, se, fl, x, pl, th, tu, ca)).2.2 (T + 12) u.1 u.2.1 (lnS u.1 u.2.2.1 u.2.2.2).1 (lnS u.1 u.2.2.1 u.2.2.2).2 := by
  obtain ⟨_, h1, h2⟩ := A_move hR hT hj hc1 hc h5 h
  simp only [lmS] at h2
  rw [hu] at h1 h2
  exact ⟨h1, h2⟩
end RBs
section RCs
variable {pr sb br fe se vp vs vb vg : IA} {fl x th tu ca : Int32} {pl pl2 T : Nat}
theorem pl_eq (hR : LR (pr, sb, br, fe, se, fl, x, pl2, th, tu, ca) T vp vs vb vg) (h4 : vg 4 = nI pl) (hpl : pl < 4) : pl2 = pl := by
  have h := (LR_4 hR).symm.trans h4
  exact (nI_eq (by have := (LR_X5 hR).2.2.1; omega) (by omega)).mp h
theorem N_skip2 (hR : LR (pr, sb, br, fe, se, fl, x, pl2, th, tu, ca) T vp vs vb vg) (h4 : vg 4 = nI pl) (hpl : pl < 4) {cn : Nat} (hc1 : 1 ≤ cn) (hc : cn ≤ 6) (h5 : vg 5 = nI cn) (h : ¬ lbe vp vb vg pl cn < 0) : s_skip (pr, sb, br, fe, se, fl, x, pl2, th, tu, ca) = (-5, false, pr, sb, br, fe, se, fl, x, pl2, th, tu, ca) := by
  obtain rfl := pl_eq hR h4 hpl
  exact N_skip hR hc1 hc h5 h
theorem A_skip2 (hR : LR (pr, sb, br, fe, se, fl, x, pl2, th, tu, ca) T vp vs vb vg) (h4 : vg 4 = nI pl) (hpl : pl < 4) {cn : Nat} (hT : T + 12 < 2 ^ 28) (hc1 : 1 ≤ cn) (hc : cn ≤ 6) (h5 : vg 5 = nI cn) (h : lbe vp vb vg pl cn < 0) :
    (s_skip (pr, sb, br, fe, se, fl, x, pl2, th, tu, ca)).1 = (lnS vp vb vg).2 4 ∧ LR (s_skip (pr, sb, br, fe, se, fl, x, pl2, th, tu, ca)).2.2 (T + 12) vp vs (lnS vp vb vg).1 (lnS vp vb vg).2 := by
  obtain rfl := pl_eq hR h4 hpl
  exact A_skip hR hT hc1 hc h5 h
theorem A_mov3 (hR : LR (pr, sb, br, fe, se, fl, x, pl2, th, tu, ca) T vp vs vb vg) (h4 : vg 4 = nI pl) (hpl : pl < 4) {j cn : Nat} (hT : T + 12 < 2 ^ 28) (hj : j < 3) (hc1 : 1 ≤ cn) (hc : cn ≤ 6) (h5 : vg 5 = nI cn) (h : ¬ lwy vp vb vg (3 * pl + j) cn - 10 < 0) {u : L4} (hu : lgS vp vs vb vg (3 * pl + j) (lwy vp vb vg (3 * pl + j) cn - 10) = u) :
    (s_move (nI j) (pr, sb, br, fe, se, fl, x, pl2, th, tu, ca)).1 = u.1 (3 * pl + j) ∧
    LR (s_move (nI j) (pr, sb, br, fe, se, fl, x, pl2, th, tu, ca)).2.2 (T + 12) u.1 u.2.1 (lnS u.1 u.2.2.1 u.2.2.2).1 (lnS u.1 u.2.2.1 u.2.2.2).2 := by
  obtain rfl := pl_eq hR h4 hpl
  exact A_mov2 hR hT hj hc1 hc h5 h hu
end RCs
