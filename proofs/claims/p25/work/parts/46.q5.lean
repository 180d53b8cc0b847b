-- ===== p25: who has won, moves, a throw's end, throws played =====
theorem e6 {v : Int32} (h : okv v) : ∃ e : Nat, e ≤ 41 ∧ v + 6 = nI e ∧ (v = 35 ↔ e = 41) := by
  rcases h with rfl | ⟨a, ha, rfl⟩
  · exact ⟨0, by decide, by decide, ⟨fun z => absurd z (by decide), fun z => absurd z (by decide)⟩⟩
  · exact ⟨a + 6, by omega, nI_add a 6, ⟨fun z => by have := (nI_eq (a := a) (b := 35) (by omega) (by decide)).mp z; omega, fun z => by rw [show a = 35 by omega]; rfl⟩⟩
theorem i4 (x p y q : Int32) : (x + p) + (y + q) = (x + y) + (p + q) := by
  rw [Int32.add_assoc x p, ← Int32.add_assoc p y q, Int32.add_comm p y, Int32.add_assoc y p q, ← Int32.add_assoc x y]
theorem sum18 (a b c : Int32) : (a + 6) + (b + 6) + (c + 6) = a + b + c + 18 := by
  rw [i4 a 6 b 6, i4 (a + b) (6 + 6) c 6]; rfl
theorem s105 {a b c : Int32} (ha : okv a) (hb : okv b) (hc : okv c) : a + b + c = 105 ↔ (a = 35 ∧ b = 35 ∧ c = 35) := by
  constructor
  · intro h
    obtain ⟨x, hx, ex, fx⟩ := e6 ha
    obtain ⟨y, hy, ey, fy⟩ := e6 hb
    obtain ⟨w, hw, ew, fw⟩ := e6 hc
    have h1 : nI (x + y + w) = nI 123 := by
      rw [← nI_add, ← nI_add, ← ex, ← ey, ← ew, sum18, h]; decide
    rw [nI_eq (by omega) (by decide)] at h1
    exact ⟨fx.mpr (by omega), fy.mpr (by omega), fw.mpr (by omega)⟩
  · rintro ⟨rfl, rfl, rfl⟩; decide
theorem wi_Z {vp vs vb vg : IA} (hv : ∀ k, k < 12 → okv (vp k)) : lwi vp = mwi (ZZ vp vs vb vg) := by
  rw [lwi, mwi]
  refine low_congr 4 0 fun p _ hp => ?_
  have h := s105 (hv (3 * p) (by omega)) (hv (3 * p + 1) (by omega)) (hv (3 * p + 2) (by omega))
  rw [lwP, mwP, mho]
  refine decide_eq_decide.mpr (h.trans ?_)
  rw [cnt_congr (Q := fun i => decide (vp (3 * p + i) = 35)) 3 (fun i hi => by rw [mhP, Z_p (by omega)])]
  simp only [cnt, Nat.add_zero, Nat.zero_add]
  by_cases q1 : vp (3 * p) = 35 <;> by_cases q2 : vp (3 * p + 1) = 35 <;> by_cases q3 : vp (3 * p + 2) = 35 <;> simp [q1, q2, q3]
-- sending back
theorem lg0_none {q : Nat} {f : Int32} {vp vs vg : IA} (h : ∀ j, j < 12 → ¬ (¬ f < 0 ∧ ¬ j / 3 = q ∧ lfd (j / 3) (vp j) = f)) : ∀ n, n ≤ 12 → lg0 q f vp vs vg n = (vp, vs, vg)
  | 0, _ => rfl
  | n + 1, hn => by rw [lg0, lg0_none h n (by omega), if_neg (h n (by omega))]
theorem lg0_one {q o : Nat} {f : Int32} {vp vs vg : IA} (hc : ¬ f < 0 ∧ ¬ o / 3 = q ∧ lfd (o / 3) (vp o) = f) (h : ∀ j, j < 12 → (¬ f < 0 ∧ ¬ j / 3 = q ∧ lfd (j / 3) (vp j) = f) → j = o) : ∀ n, n ≤ 12 → lg0 q f vp vs vg n = if o < n then (upd vp o (-6), upd vs o (vs o + 1), upd vg 8 (vg 8 + 1)) else (vp, vs, vg)
  | 0, _ => by rw [if_neg (Nat.not_lt_zero o)]; rfl
  | n + 1, hn => by
    rw [lg0, lg0_one hc h n (by omega)]
    by_cases e : o < n
    · rw [if_pos e, if_pos (show o < n + 1 by omega)]
      have hne : ¬ (¬ f < 0 ∧ ¬ n / 3 = q ∧ lfd (n / 3) (upd vp o (-6) n) = f) := fun w => by
        rw [upd_ne (by omega)] at w
        have := h n (by omega) w; omega
      exact if_neg hne
    · rw [if_neg e]
      by_cases e2 : o = n
      · subst e2
        rw [if_pos (Nat.lt_succ_self o)]
        exact if_pos hc
      · rw [if_neg (show ¬ o < n + 1 by omega)]
        exact if_neg (fun w => e2 (h n (by omega) w).symm)
theorem send_Z {vp vs vb vg : IA} {q : Nat} {v : Int32} (hq : q < 4) (h1 : rvM (ZZ vp vs vb vg) q (rf q v) ≤ 1) :
    ZZ (lg0 q (lfd q v) vp vs vg 12).1 (lg0 q (lfd q v) vp vs vg 12).2.1 vb (lg0 q (lfd q v) vp vs vg 12).2.2 = sdM (ZZ vp vs vb vg) q (rf q v) ∧ (∃ x, (lg0 q (lfd q v) vp vs vg 12).2.2 = upd vg 8 x) := by
  have hf : okf (rf q v) := rf_okf _ hq
  have hc : cnt (rvP (ZZ vp vs vb vg) q (rf q v)) 12 = rvM (ZZ vp vs vb vg) q (rf q v) := rv_M (fun _ _ => rfl) hf
  have ec : ∀ j, j < 12 → ((¬ lfd q v < 0 ∧ ¬ j / 3 = q ∧ lfd (j / 3) (vp j) = lfd q v) ↔ rvP (ZZ vp vs vb vg) q (rf q v) j = true) := fun j hj => by
    rw [← ot_rv hf, otP, decide_eq_true_eq, Z_p hj, lf_neg hq]
    constructor
    · rintro ⟨a, b, c⟩
      rcases lfd_rf (v := v) hq with ⟨x, y⟩ | ⟨w, hw, x, y⟩
      · rw [x] at a; exact absurd n6 a
      · rw [y] at c; exact ⟨b, a, by rw [x]; exact (lfd_eq (nI_pos (by omega)) (by omega)).mp c⟩
    · rintro ⟨b, a, c⟩
      rcases lfd_rf (v := v) hq with ⟨x, y⟩ | ⟨w, hw, x, y⟩
      · rw [x] at a; exact absurd n6 a
      · rw [x] at c; exact ⟨a, b, by rw [y]; exact (lfd_eq (nI_pos (by omega)) (by omega)).mpr c⟩
  by_cases w : ot (ZZ vp vs vb vg) q (rf q v) < 0
  · have h0 := cnt_0 12 (hc.trans ((ot_lt hf).mp w))
    rw [lg0_none (fun j hj z => by have := (ec j hj).mp z; rw [h0 j hj] at this; cases this) 12 (Nat.le_refl 12), sdM, if_pos w]
    exact ⟨rfl, vg 8, by rw [upd_self]⟩
  · obtain ⟨o, ho, eo, po⟩ := ot_ok w
    rw [ot_rv hf] at po
    have hu : ∀ j, j < 12 → (¬ lfd q v < 0 ∧ ¬ j / 3 = q ∧ lfd (j / 3) (vp j) = lfd q v) → j = o := fun j hj z => cnt_1 12 (by rw [hc]; exact h1) j o hj ho ((ec j hj).mp z) po
    rw [lg0_one ((ec o ho).mpr po) hu 12 (Nat.le_refl 12), if_pos ho, sdM, if_neg w, eo, nI_clamp (by omega), sbM]
    refine ⟨?_, vg 8 + 1, rfl⟩
    show ZZ (upd vp o (-6)) (upd vs o (vs o + 1)) vb (upd vg 8 (vg 8 + 1)) = _
    have a1 : upd (ZZ vp vs vb vg) o (-6) (12 + o) = vs o := by rw [upd_ne (by omega), Z_s ho]
    have a2 : upd (upd (ZZ vp vs vb vg) o (-6)) (12 + o) (vs o + 1) 44 = vg 8 := by rw [upd_ne (by omega), upd_ne (by omega)]; exact Z_g (i := 8)
    rw [a1, a2, U_g, U_s ho, U_p ho]
theorem go_Z {T : Nat} {vp vs vb vg : IA} {k : Nat} {v : Int32} (hk : k < 12) (hB : TB T vb vg) (h1 : rvM (ZZ vp vs vb vg) (k / 3) (rf (k / 3) v) ≤ 1) :
    ZZ (lgS vp vs vb vg k v).1 (lgS vp vs vb vg k v).2.1 (lgS vp vs vb vg k v).2.2.1 (lgS vp vs vb vg k v).2.2.2 = mvM (ZZ vp vs vb vg) k v ∧ TB T (lgS vp vs vb vg k v).2.2.1 (lgS vp vs vb vg k v).2.2.2 := by
  obtain ⟨e1, x, e2⟩ := send_Z (vb := vb) (show k / 3 < 4 by omega) h1
  have hB2 : TB T vb (lg0 (k / 3) (lfd (k / 3) v) vp vs vg 12).2.2 := by
    obtain ⟨t, m, ht, hm, g6, g1, hb⟩ := hB
    exact ⟨t, m, ht, hm, by rw [e2, upd_ne (by decide)]; exact g6, by rw [e2, upd_ne (by decide)]; exact g1, hb⟩
  rw [lgS]
  refine ⟨?_, lbr_B hB2 4 (Nat.le_refl 4)⟩
  show ZZ (upd (lg0 (k / 3) (lfd (k / 3) v) vp vs vg 12).1 k v) (lg0 (k / 3) (lfd (k / 3) v) vp vs vg 12).2.1 (lbr (upd (lg0 (k / 3) (lfd (k / 3) v) vp vs vg 12).1 k v) vb (lg0 (k / 3) (lfd (k / 3) v) vp vs vg 12).2.2 4).1 (lbr (upd (lg0 (k / 3) (lfd (k / 3) v) vp vs vg 12).1 k v) vb (lg0 (k / 3) (lfd (k / 3) v) vp vs vg 12).2.2 4).2 = _
  rw [(lbr_Z (TB_F hB) 4 (Nat.le_refl 4)).1, U_p hk, e1, sdM, mvM]
-- a throw's end
theorem md_Z {T t m : Nat} {vp vs vb vg : IA} (hT : T < 2 ^ 30) (ht : t ≤ T) (hm : m ≤ 40) (g6 : vg 6 = nI t) (g1 : vg 1 = nI m) (hf : ∀ i, i < 4 → ∃ f : Nat, f ≤ t ∧ vb (3 * i + 2) = nI f) : ∀ n, n ≤ 4 → ZZ vp vs (lmd (vg 1) (vg 6) vb n) vg = mend (ZZ vp vs vb vg) n ∧ (∀ i, i < 4 → lmd (vg 1) (vg 6) vb n (3 * i + 2) = vb (3 * i + 2) ∧ lmd (vg 1) (vg 6) vb n (3 * i + 1) = vb (3 * i + 1) ∧ (lmd (vg 1) (vg 6) vb n (3 * i) = vb (3 * i) ∨ lmd (vg 1) (vg 6) vb n (3 * i) = 0))
  | 0, _ => ⟨rfl, fun i _ => ⟨rfl, rfl, Or.inl rfl⟩⟩
  | n + 1, hn => by
    obtain ⟨ih, ihk⟩ := md_Z (vp := vp) (vs := vs) hT ht hm g6 g1 hf n (by omega)
    obtain ⟨f, hft, ef⟩ := hf n (by omega)
    have k1 : mend (ZZ vp vs vb vg) n (24 + n) = lmd (vg 1) (vg 6) vb n (3 * n) := by rw [← ih, Z_0 (by omega)]
    have k2 : mend (ZZ vp vs vb vg) n (32 + n) = nI f := by rw [← ih, Z_2 (by omega), (ihk n (by omega)).1, ef]
    have k3 : mend (ZZ vp vs vb vg) n 37 = nI m := by rw [← ih]; exact (Z_g (i := 1)).trans g1
    have k4 : mend (ZZ vp vs vb vg) n 42 = nI t := by rw [← ih]; exact (Z_g (i := 6)).trans g6
    have ec : (lmd (vg 1) (vg 6) vb n (3 * n) = 1 ∧ ¬ vg 1 ≤ 0 ∧ ¬ vg 6 < lmd (vg 1) (vg 6) vb n (3 * n + 2) + vg 1) ↔ (mend (ZZ vp vs vb vg) n (24 + n) = 1 ∧ ¬ mend (ZZ vp vs vb vg) n 37 ≤ 0 ∧ ¬ mend (ZZ vp vs vb vg) n 42 - mend (ZZ vp vs vb vg) n (32 + n) < mend (ZZ vp vs vb vg) n 37) := by
      rw [k1, k2, k3, k4, (ihk n (by omega)).1, ef]
      generalize lmd (vg 1) (vg 6) vb n (3 * n) = y
      rw [g1, g6, nI_add, pk_sub hft, nI_ltI (by omega) (by omega), nI_ltI (by omega) (by omega)]
      constructor
      · rintro ⟨a, b, c⟩; exact ⟨a, b, by omega⟩
      · rintro ⟨a, b, c⟩; exact ⟨a, b, by omega⟩
    rw [lmd, mend]
    by_cases q : lmd (vg 1) (vg 6) vb n (3 * n) = 1 ∧ ¬ vg 1 ≤ 0 ∧ ¬ vg 6 < lmd (vg 1) (vg 6) vb n (3 * n + 2) + vg 1
    · rw [if_pos q, if_pos (ec.mp q), U_0 (by omega), ih]
      refine ⟨rfl, fun i hi => ⟨by rw [upd_ne (by omega)]; exact (ihk i hi).1, by rw [upd_ne (by omega)]; exact (ihk i hi).2.1, ?_⟩⟩
      by_cases e : i = n
      · subst e; exact Or.inr upd_eq
      · rw [upd_ne (by omega)]; exact (ihk i hi).2.2
    · rw [if_neg q, if_neg (fun w => q (ec.mpr w))]
      exact ⟨ih, ihk⟩
theorem en_Z {T pl : Nat} {vp vs vb vg : IA} (hv : ∀ k, k < 12 → okv (vp k)) (hT : T < 2 ^ 29) (hB : TB T vb vg) (h4 : vg 4 = nI pl) (hpl : pl < 4) :
    ZZ vp vs (lnS vp vb vg).1 (lnS vp vb vg).2 = goM (ZZ vp vs vb vg) pl ∧ TB (T + 1) (lnS vp vb vg).1 (lnS vp vb vg).2 := by
  obtain ⟨t, m, ht, hm, g6, g1, hb⟩ := hB
  have ew : mwi (upd (ZZ vp vs vb vg) 41 (-6)) = lwi vp := by
    rw [wi_Z (vs := vs) (vb := vb) (vg := upd vg 5 (-6)) hv, U_g]
  have ec : (0 ≤ lwi vp ∨ (vg 5 = 6 ∧ ¬ vg 2 < vg 7)) ↔ (¬ mwi (upd (ZZ vp vs vb vg) 41 (-6)) < 0 ∨ (ZZ vp vs vb vg 41 = 6 ∧ ¬ ZZ vp vs vb vg 38 < ZZ vp vs vb vg 43)) := by
    rw [ew, show ZZ vp vs vb vg 41 = vg 5 from Z_g (i := 5), show ZZ vp vs vb vg 38 = vg 2 from Z_g (i := 2), show ZZ vp vs vb vg 43 = vg 7 from Z_g (i := 7), show (¬ lwi vp < 0) = (0 ≤ lwi vp) from propext Int32.not_lt]
  rw [lnS, goM]
  by_cases q : 0 ≤ lwi vp ∨ (vg 5 = 6 ∧ ¬ vg 2 < vg 7)
  · rw [if_pos q, if_pos (ec.mp q)]
    refine ⟨U_g, t, m, by omega, hm, ?_, ?_, hb⟩
    · show upd vg 5 (-6) 6 = nI t; rw [upd_ne (by decide)]; exact g6
    · show upd vg 5 (-6) 1 = nI m; rw [upd_ne (by decide)]; exact g1
  · rw [if_neg q, if_neg (fun w => q (ec.mpr w))]
    have a6 : lnG vg 6 = nI (t + 1) := by rw [lnG, upd_ne (by decide), upd_eq, g6]; exact nI_1 t
    have a1 : lnG vg 1 = nI m := by rw [lnG, upd_ne (by decide), upd_ne (by decide), upd_ne (by decide), upd_ne (by decide)]; exact g1
    have a16 : lmd (vg 1) (vg 6 + 1) vb 4 = lmd (lnG vg 1) (lnG vg 6) vb 4 := by rw [a1, a6, g1, g6, nI_1]
    have hf : ∀ i, i < 4 → ∃ f : Nat, f ≤ t + 1 ∧ vb (3 * i + 2) = nI f := fun i hi => by obtain ⟨f, hf, ef⟩ := (hb i hi).2; exact ⟨f, by omega, ef⟩
    obtain ⟨h1, h2⟩ := md_Z (T := T + 1) (t := t + 1) (vp := vp) (vs := vs) (by omega) (by omega) hm a6 a1 hf 4 (Nat.le_refl 4)
    have e4 : (if vg 4 = 3 then 0 else vg 4 + 1) = nI ((pl + 1) % 4) := by
      rw [h4]
      by_cases e : pl = 3
      · subst e; rfl
      · rw [if_neg (show ¬ nI pl = 3 from fun w => e ((nI_eq (b := 3) (by omega) (by decide)).mp w)), nI_1, show (pl + 1) % 4 = pl + 1 by omega]
    constructor
    · show ZZ vp vs (lmd (vg 1) (vg 6 + 1) vb 4) (lnG vg) = _
      rw [a16, h1, lnG, U_g, U_g, U_g, U_g, e4, show ZZ vp vs vb vg 42 = vg 6 from Z_g (i := 6)]
    · refine ⟨t + 1, m, by omega, hm, a6, a1, fun i hi => ?_⟩
      show ((lmd (vg 1) (vg 6 + 1) vb 4 (3 * i) = 0 ∨ lmd (vg 1) (vg 6 + 1) vb 4 (3 * i) = 1) ∧ (lmd (vg 1) (vg 6 + 1) vb 4 (3 * i + 1) = 0 ∨ lmd (vg 1) (vg 6 + 1) vb 4 (3 * i + 1) = 1)) ∧ ∃ f : Nat, f ≤ t + 1 ∧ lmd (vg 1) (vg 6 + 1) vb 4 (3 * i + 2) = nI f
      obtain ⟨b2, b1, b0⟩ := h2 i hi
      rw [a16, b2, b1]
      refine ⟨⟨?_, (hb i hi).1.2⟩, hf i hi⟩
      rcases b0 with e | e
      · rw [e]; exact (hb i hi).1.1
      · exact Or.inl e
-- a throw played
theorem lpG_Z {vp vs vb vg : IA} : ZZ vp vs vb (lpG vg) = thM (ZZ vp vs vb vg) := by
  have e9 : ZZ vp vs vb vg 39 = vg 3 := Z_g (i := 3)
  have e7 : upd (ZZ vp vs vb vg) 39 (nx (vg 3)) 43 = vg 7 := by rw [upd_ne (by decide)]; exact Z_g (i := 7)
  rw [lpG, U_g, U_g, U_g, thM, dcM, drM, e9, e7]
theorem mv_Z {T pl j cn : Nat} {vp vs vb vg : IA} (hv : ∀ k, k < 12 → okv (vp k)) (hx : EX (ZZ vp vs vb vg)) (hT : T < 2 ^ 29) (hB : TB T vb vg) (h4 : vg 4 = nI pl) (hpl : pl < 4) (hj : j < 3) (hc : 1 ≤ cn) (h : mwn (ZZ vp vs vb vg) (3 * pl + j) cn = 0) :
    (ZZ (lgS vp vs vb vg (3 * pl + j) (lwy vp vb vg (3 * pl + j) cn - 10)).1 (lgS vp vs vb vg (3 * pl + j) (lwy vp vb vg (3 * pl + j) cn - 10)).2.1 (lgS vp vs vb vg (3 * pl + j) (lwy vp vb vg (3 * pl + j) cn - 10)).2.2.1 (lgS vp vs vb vg (3 * pl + j) (lwy vp vb vg (3 * pl + j) cn - 10)).2.2.2 = mv2 (ZZ vp vs vb vg) pl cn j) ∧
    (∀ k, k < 12 → okv ((lgS vp vs vb vg (3 * pl + j) (lwy vp vb vg (3 * pl + j) cn - 10)).1 k)) ∧ (lgS vp vs vb vg (3 * pl + j) (lwy vp vb vg (3 * pl + j) cn - 10)).2.2.2 4 = nI pl ∧
    (ZZ (lmS vp vs vb vg (3 * pl + j) (lwy vp vb vg (3 * pl + j) cn - 10)).1 (lmS vp vs vb vg (3 * pl + j) (lwy vp vb vg (3 * pl + j) cn - 10)).2.1 (lmS vp vs vb vg (3 * pl + j) (lwy vp vb vg (3 * pl + j) cn - 10)).2.2.1 (lmS vp vs vb vg (3 * pl + j) (lwy vp vb vg (3 * pl + j) cn - 10)).2.2.2 = goM (mv2 (ZZ vp vs vb vg) pl cn j) pl) ∧
    TB (T + 1) (lmS vp vs vb vg (3 * pl + j) (lwy vp vb vg (3 * pl + j) cn - 10)).2.2.1 (lmS vp vs vb vg (3 * pl + j) (lwy vp vb vg (3 * pl + j) cn - 10)).2.2.2 := by
  have hk : 3 * pl + j < 12 := by omega
  have hz : ∀ k, k < 12 → okv (ZZ vp vs vb vg k) := fun k hk => by rw [Z_p hk]; exact hv k hk
  obtain ⟨t, ht, et, hr⟩ := free_M hz hx hk hc h
  have eto := wy_to (vs := vs) (vg := vg) hv (TB_F hB) hk hc h
  rw [Z_p hk] at et
  rw [← et, ← eto] at hr
  obtain ⟨g1, g2⟩ := go_Z hk hB hr
  have em : mvM (ZZ vp vs vb vg) (3 * pl + j) (lwy vp vb vg (3 * pl + j) cn - 10) = mv2 (ZZ vp vs vb vg) pl cn j := by rw [mv2, eto, Z_p hk]
  rw [em] at g1
  have o1 : ∀ k, k < 12 → okv ((lgS vp vs vb vg (3 * pl + j) (lwy vp vb vg (3 * pl + j) cn - 10)).1 k) := fun k hk2 => by
    have := mv2_ok (pl := pl) (cn := cn) (j := j) hz k hk2
    rw [← g1, Z_p hk2] at this; exact this
  have o4 : (lgS vp vs vb vg (3 * pl + j) (lwy vp vb vg (3 * pl + j) cn - 10)).2.2.2 4 = nI pl := by
    have : ZZ (lgS vp vs vb vg (3 * pl + j) (lwy vp vb vg (3 * pl + j) cn - 10)).1 (lgS vp vs vb vg (3 * pl + j) (lwy vp vb vg (3 * pl + j) cn - 10)).2.1 (lgS vp vs vb vg (3 * pl + j) (lwy vp vb vg (3 * pl + j) cn - 10)).2.2.1 (lgS vp vs vb vg (3 * pl + j) (lwy vp vb vg (3 * pl + j) cn - 10)).2.2.2 40 = nI pl := by
      rw [g1, mv2, mvM_hi hk (by decide) (by decide) (by decide)]; exact (Z_g (i := 4)).trans h4
    exact (Z_g (i := 4)).symm.trans this
  obtain ⟨n1, n2⟩ := en_Z (vs := (lgS vp vs vb vg (3 * pl + j) (lwy vp vb vg (3 * pl + j) cn - 10)).2.1) o1 hT g2 o4 hpl
  rw [g1] at n1
  exact ⟨g1, o1, o4, n1, n2⟩
theorem lp_Z {T : Nat} {g : GS} {vp vs vb vg : IA} (h : RG g (ZZ vp vs vb vg)) (hT : T < 2 ^ 29) (hB : TB T vb vg) :
    ZZ (lpS (vp, vs, vb, vg)).1 (lpS (vp, vs, vb, vg)).2.1 (lpS (vp, vs, vb, vg)).2.2.1 (lpS (vp, vs, vb, vg)).2.2.2 = oneM (ZZ vp vs vb vg) ∧ TB (T + 1) (lpS (vp, vs, vb, vg)).2.2.1 (lpS (vp, vs, vb, vg)).2.2.2 := by
  obtain ⟨pr, sb, br, fe, fl, x, pl, th, tu, ca⟩ := g
  obtain ⟨hp, ht, hr, hx, h40, hth, htu, hca⟩ := RG_iff.mp h
  have h4 : vg 4 = nI pl := (Z_g (i := 4)).symm.trans h40.1
  have hx0 : ¬ ZZ vp vs vb vg 39 < 0 := by rw [← hx.1]; exact hx.2
  have e9 : ZZ vp vs vb vg 39 = vg 3 := Z_g (i := 3)
  obtain ⟨cn, hc1, hc, ec⟩ := co_ok (nx_nn hx0)
  have hv : ∀ k, k < 12 → okv (vp k) := fun k hk => by rw [← Z_p (vp := vp) (vs := vs) (vb := vb) (vg := vg) hk]; exact hp.2.1 k hk
  have h4' : lpG vg 4 = nI pl := by rw [lpG, upd_ne (by decide), upd_ne (by decide), upd_ne (by decide)]; exact h4
  have hB' : TB T vb (lpG vg) := by
    obtain ⟨t, m, ht, hm, g6, g1, hb⟩ := hB
    exact ⟨t, m, ht, hm, by rw [lpG, upd_ne (by decide), upd_ne (by decide), upd_ne (by decide)]; exact g6, by rw [lpG, upd_ne (by decide), upd_ne (by decide), upd_ne (by decide)]; exact g1, hb⟩
  have hx' : EX (ZZ vp vs vb (lpG vg)) := EX_c (fun k hk => by rw [Z_p hk, Z_p hk]) hp.2.2
  have eb := be_Z (vs := vs) (vg := lpG vg) hv (TB_F hB) h40.2 hc1
  rw [e9] at ec
  rw [lpS_eq, h4, nI_clamp (show pl < 2 ^ 31 by omega), ec, nI_clamp (show cn < 2 ^ 31 by omega), lpA]
  rw [← e9] at ec
  by_cases q : lbe vp vb (lpG vg) pl cn < 0
  · rw [if_pos q, ← oneM_y h40.2 h40.1 hc ec (by rw [← lpG_Z, ← eb]; exact q), ← lpG_Z]
    exact en_Z hv hT hB' h4' h40.2
  · obtain ⟨j, hj, ej, aj⟩ := bpM_ok (show ¬ bpM (ZZ vp vs vb (lpG vg)) pl cn < 0 by rw [← eb]; exact q)
    rw [if_neg q, eb, ej, nI_clamp (show j < 2 ^ 31 by omega), ← oneM_m h40.2 h40.1 hc ec hj (by rw [← lpG_Z]; exact ej), ← lpG_Z]
    exact (mv_Z hv hx' hT hB' h4' h40.2 hj hc1 aj).2.2.2
theorem lpN_Z {se : IA} : ∀ (n T : Nat) (g : GS) (vp vs vb vg : IA), RG g (ZZ vp vs vb vg) → RS se (ZZ vp vs vb vg) → T + n < 2 ^ 29 → TB T vb vg →
    (ZZ (lpN n (vp, vs, vb, vg)).1.1 (lpN n (vp, vs, vb, vg)).1.2.1 (lpN n (vp, vs, vb, vg)).1.2.2.1 (lpN n (vp, vs, vb, vg)).1.2.2.2 = (pgM n (ZZ vp vs vb vg)).1 ∧ TB (T + n) (lpN n (vp, vs, vb, vg)).1.2.2.1 (lpN n (vp, vs, vb, vg)).1.2.2.2) ∧ (lpN n (vp, vs, vb, vg)).2 = (pgM n (ZZ vp vs vb vg)).2
  | 0, T, g, vp, vs, vb, vg, _, _, _, hB => ⟨⟨rfl, hB⟩, rfl⟩
  | n + 1, T, g, vp, vs, vb, vg, h, hs, hT, hB => by
    have hv : ∀ k, k < 12 → okv (vp k) := fun k hk => by
      obtain ⟨pr, sb, br, fe, fl, x, pl, th, tu, ca⟩ := g
      rw [← Z_p (vp := vp) (vs := vs) (vb := vb) (vg := vg) hk]; exact (RG_iff.mp h).1.2.1 k hk
    rw [lpN, pgM]
    have ew : (0 ≤ lwi vp) ↔ ¬ mwi (ZZ vp vs vb vg) < 0 := by rw [wi_Z (vs := vs) (vb := vb) (vg := vg) hv, Int32.not_lt]
    by_cases q : 0 ≤ lwi vp
    · rw [if_pos q, if_neg (ew.mp q)]
      refine ⟨⟨rfl, ?_⟩, rfl⟩
      obtain ⟨t, m, ht, hm, h⟩ := hB
      exact ⟨t, m, by omega, hm, h⟩
    · rw [if_neg q, if_pos (Decidable.byContradiction fun w => q (ew.mpr w))]
      obtain ⟨e1, hB1⟩ := lp_Z h (by omega) hB
      obtain ⟨r1, r2⟩ := one_M h hs
      rw [← e1] at r1 r2
      obtain ⟨⟨i1, i2⟩, i3⟩ := lpN_Z n (T + 1) _ _ _ _ _ r1 r2 (by omega) hB1
      rw [e1] at i1 i3
      refine ⟨⟨i1, ?_⟩, by show _ + 1 = _ + 1; rw [← i3]⟩
      rw [show T + (n + 1) = T + 1 + n by omega]; exact i2
