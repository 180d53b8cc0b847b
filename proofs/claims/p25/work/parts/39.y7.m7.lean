-- ===== class and reference: what holds between calls =====
theorem RG_c {g : GS} {y z : IA} (h : ∀ k, k < 46 → y k = z k) (hx : RG g z) : RG g y := by
  obtain ⟨pr, sb, br, fe, fl, x, pl, th, tu, ca⟩ := g
  obtain ⟨hp, ht, hr, hx, h40, hth, htu, hca⟩ := RG_iff.mp hx
  refine RG_iff.mpr ⟨RP_c (fun k hk => h k (by omega)) hp, RT_c (fun k hk => h _ (by omega)) (h _ (by decide)) ht, RR_c (fun k hk => h _ (by omega)) (h _ (by decide)) hr, ⟨?_, hx.2⟩, ⟨?_, h40.2⟩, ⟨?_, hth.2⟩, ?_, ?_⟩
  · rw [h 39 (by decide)]; exact hx.1
  · rw [h 40 (by decide)]; exact h40.1
  · rw [h 41 (by decide)]; exact hth.1
  · rw [h 42 (by decide)]; exact htu
  · rw [h 43 (by decide)]; exact hca
theorem RC_c {g : GC} {y z : IA} (h : ∀ k, k < 46 → y k = z k) (hx : RC g z) : RC g y := by
  obtain ⟨pr, sb, br, fe, se, fl, x, pl, th, tu, ca⟩ := g
  exact RC_iff.mpr ⟨RG_c h (RC_iff.mp hx).1, RS_c (fun k h1 h2 => h k (by omega)) (RC_iff.mp hx).2⟩
theorem RC_geq {c d : GC} {z : IA} (h : geq d c) (hx : RC c z) : RC d z := by
  obtain ⟨pr, sb, br, fe, se, r⟩ := c
  obtain ⟨pr', sb', br', fe', se', r'⟩ := d
  obtain ⟨e1, e2, e3, e4, e5, e6⟩ := h
  have e6 : r' = r := e6
  subst e6
  obtain ⟨fl, x, pl, th, tu, ca⟩ := r'
  obtain ⟨hg, hs⟩ := RC_iff.mp hx
  obtain ⟨hp, ht, hr, hx, h40, hth, htu, hca⟩ := RG_iff.mp hg
  refine RC_iff.mpr ⟨RG_iff.mpr ⟨⟨fun k hk => (e1 k hk).trans (hp.1 k hk), hp.2⟩, ⟨fun k hk => (e2 k hk).trans (ht.1 k hk), ?_⟩, ⟨fun b hb => (e3 b hb).trans (hr.1 b hb), hr.2.1, fun b hb => (e4 b hb).trans (hr.2.2.1 b hb), hr.2.2.2⟩, hx, h40, hth, htu, hca⟩, ⟨(e5 0 (by decide)).trans hs.1, (e5 1 (by decide)).trans hs.2.1, (e5 2 (by decide)).trans hs.2.2.1, hs.2.2.2⟩⟩
  rw [ht.2]; exact (sumI_c 12 e2).symm
/-- the i-th row of 46 -/
def row46 (be : IA) (i : Nat) : IA := fun k => be (46 * i + k)
def HI (ob : OB) (nx sz : Nat) (be : IA) (sts : Nat) : Prop := nx < 6 ∧ sz ≤ 6 ∧ sz = sts ∧ ∀ i, i < sz → ∃ b, ob ((nx + 6 - sz + i) % 6) = some b ∧ RC b.2 (row46 be i)
def SL (ob : OB) (sl sv : IA) : Prop := ∀ j, j < 2 → (ob (6 + j) = none ∧ sv j = 0) ∨ (∃ b, ob (6 + j) = some b ∧ ¬ sv j = 0 ∧ RC b.2 (row46 sl j))
def IN (g : GC) (tx : IA) (ln : Nat) (ob : OB) (nx sz : Nat) : KS → Prop
  | (z, be, sts, sl, sv, pd, len) => RC g z ∧ HI ob nx sz be sts ∧ SL ob sl sv ∧ (tx = pd ∧ ln = len ∧ ln ≤ 60)
theorem IN_iff {g : GC} {tx : IA} {ln : Nat} {ob : OB} {nx sz : Nat} {z be sl sv pd : IA} {sts len : Nat} : IN g tx ln ob nx sz (z, be, sts, sl, sv, pd, len) ↔ RC g z ∧ HI ob nx sz be sts ∧ SL ob sl sv ∧ (tx = pd ∧ ln = len ∧ ln ≤ 60) := Iff.rfl
theorem shf_at {be : IA} : ∀ n j, shf be n j = if j < n then be (46 + j) else be j
  | 0, j => by rw [if_neg (Nat.not_lt_zero j)]; rfl
  | n + 1, j => by
    rw [shf, shf_at n (46 + n), if_neg (by omega)]
    by_cases e : j = n
    · rw [e, upd_eq, if_pos (Nat.lt_succ_self n)]
    · rw [upd_ne e, shf_at n j]
      by_cases q : j < n
      · rw [if_pos q, if_pos (by omega)]
      · rw [if_neg q, if_neg (by omega)]
theorem HI_rem {ob ob' : OB} {nx sz sts : Nat} {be z : IA} {g : GC} (h : HI ob nx sz be sts) (hz : RC g z) (w : ∃ a d, ob' = upo ob nx (a, d) ∧ geq d g) : HI ob' ((nx + 1) % 6) (rcN sz) (rcB be z sts) (rcN sts) := by
  obtain ⟨hn, hs, he, hi⟩ := h
  obtain ⟨a, d, eo, hd⟩ := w
  subst he
  have hlt : (nx + 1) % 6 < 6 := Nat.mod_lt _ (by decide)
  rw [rcN, rcB]
  by_cases q : sz = 6
  · rw [if_pos q, if_pos q]
    refine ⟨hlt, Nat.le_refl 6, rfl, fun i hi6 => ?_⟩
    by_cases e : i = 5
    · refine ⟨(a, d), ?_, RC_geq hd (RC_c (fun k hk => ?_) hz)⟩
      · rw [eo, upo, if_pos (by omega)]
      · rw [row46, e]; exact cpz_at (f := shf be 230) (g := z) (o := 230) (q := 0) 46 hk |>.trans (by rw [Nat.zero_add])
    · obtain ⟨b, hb, hR⟩ := hi (i + 1) (by omega)
      refine ⟨b, ?_, RC_c (fun k hk => ?_) hR⟩
      · rw [eo, upo, if_neg (by omega), ← hb]; congr 1; omega
      · rw [row46, cpz_out 46 (by omega), shf_at, if_pos (by omega), row46]; congr 1; omega
  · rw [if_neg q, if_neg q]
    refine ⟨hlt, by omega, rfl, fun i hi1 => ?_⟩
    by_cases e : i = sz
    · refine ⟨(a, d), ?_, RC_geq hd (RC_c (fun k hk => ?_) hz)⟩
      · rw [eo, upo, if_pos (by omega)]
      · rw [row46, e]; exact cpz_at (f := be) (g := z) (o := 46 * sz) (q := 0) 46 hk |>.trans (by rw [Nat.zero_add])
    · obtain ⟨b, hb, hR⟩ := hi i (by omega)
      refine ⟨b, ?_, RC_c (fun k hk => ?_) hR⟩
      · rw [eo, upo, if_neg (by omega), ← hb]; congr 1; omega
      · rw [row46, cpz_out 46 (by omega), row46]
theorem SL_rem {ob ob' : OB} {nx : Nat} {sl sv : IA} {g : GC} (hn : nx < 6) (h : SL ob sl sv) (w : ∃ a d, ob' = upo ob nx (a, d) ∧ geq d g) : SL ob' sl sv := fun j hj => by
  obtain ⟨a, d, eo, _⟩ := w
  rw [eo, upo, if_neg (by omega)]; exact h j hj
/-- what a method that remembers leaves -/
theorem IN_X {g g' : GC} {tx : IA} {ln nx sz nx' sz' : Nat} {ob ob' : OB} {ks : KS} {r : SR} {m : Int32 × KS} (h : IN g tx ln ob nx sz ks) (hX : XP ob nx sz g r g' ob' nx' sz') (hM : SM r m ks) : r.1 = m.1 ∧ IN g' tx ln ob' nx' sz' m.2 := by
  obtain ⟨z, be, sts, sl, sv, pd, len⟩ := ks
  obtain ⟨hR, hH, hS, hP⟩ := IN_iff.mp h
  refine ⟨hM.1, ?_⟩
  obtain ⟨e, hy, hno⟩ := hX
  rcases hM.2 with ⟨hb, z', em, hR'⟩ | ⟨hb, em, hR'⟩
  · obtain ⟨w, e1, e2⟩ := hy hb
    rw [em, e, e1, e2, rcK]
    exact IN_iff.mpr ⟨hR', HI_rem hH hR w, SL_rem hH.1 hS w, hP⟩
  · obtain ⟨e0, e1, e2⟩ := hno hb
    rw [em, e, e0, e1, e2]
    exact IN_iff.mpr ⟨hR', hH, hS, hP⟩
theorem IN_read {g g' : GC} {tx : IA} {ln ln' nx sz nx' sz' : Nat} {ob ob' : OB} {ks : KS} (h : IN g tx ln ob nx sz ks) (hX : XP ob nx sz g (s_read tx ln g) g' ob' nx' sz' ∧ ln' = if (s_read tx ln g).2.1 = true then 0 else ln) : (s_read tx ln g).1 = (m_read ks).1 ∧ IN g' tx ln' ob' nx' sz' (m_read ks).2 := by
  obtain ⟨z, be, sts, sl, sv, pd, len⟩ := ks
  obtain ⟨hR, hH, hS, rfl, rfl, hl⟩ := IN_iff.mp h
  have hM := q_read (be := be) (sl := sl) (sv := sv) (sts := sts) (pd := tx) hR hl
  refine ⟨hM.1, ?_⟩
  obtain ⟨⟨e, hy, hno⟩, eln⟩ := hX
  rcases hM.2 with ⟨hb, z', em, hR'⟩ | ⟨hb, em, hR'⟩
  · obtain ⟨w, e1, e2⟩ := hy hb
    rw [hb, if_pos rfl] at eln
    rw [em, e, e1, e2, eln]
    exact IN_iff.mpr ⟨hR', HI_rem hH hR w, SL_rem hH.1 hS w, rfl, rfl, by decide⟩
  · obtain ⟨e0, e1, e2⟩ := hno hb
    rw [hb, if_neg (by decide)] at eln
    rw [em, e, e0, e1, e2, eln]
    exact IN_iff.mpr ⟨hR', hH, hS, rfl, rfl, hl⟩
theorem IN_undo {g g' : GC} {tx : IA} {ln nx sz nx' sz' : Nat} {ob : OB} {ks : KS} (h : IN g tx ln ob nx sz ks) (hT : tkP ob nx sz g g' nx' sz') : p_undo ob nx sz = (m_undo ks).1 ∧ IN g' tx ln ob nx' sz' (m_undo ks).2 := by
  obtain ⟨z, be, sts, sl, sv, pd, len⟩ := ks
  obtain ⟨hR, hH, hS, hP⟩ := IN_iff.mp h
  obtain ⟨hn, hs, he, hi⟩ := hH
  subst he
  rw [p_undo, m_undo]
  show _ = (if sz = 0 then ((-5 : Int32), ((z, be, sz, sl, sv, pd, len) : KS)) else (nI (sz - 1), (cpz z be 0 (46 * (sz - 1)) 46, be, sz - 1, sl, sv, pd, len))).1 ∧ IN g' tx ln ob nx' sz' (if sz = 0 then ((-5 : Int32), ((z, be, sz, sl, sv, pd, len) : KS)) else (nI (sz - 1), (cpz z be 0 (46 * (sz - 1)) 46, be, sz - 1, sl, sv, pd, len))).2
  by_cases q : sz = 0
  · have hno : ¬ (0 < sz ∧ (ob ((nx + 6 - 1) % 6)).isSome = true) := fun w => by omega
    obtain ⟨e1, e2, e3⟩ := hT.2 hno
    rw [if_neg hno, if_pos q, e1, e2, e3]
    exact ⟨rfl, IN_iff.mpr ⟨hR, ⟨hn, hs, rfl, hi⟩, hS, hP⟩⟩
  · obtain ⟨b, hb, hRb⟩ := hi (sz - 1) (by omega)
    rw [show (nx + 6 - sz + (sz - 1)) % 6 = (nx + 6 - 1) % 6 by omega] at hb
    have hyes : 0 < sz ∧ (ob ((nx + 6 - 1) % 6)).isSome = true := ⟨by omega, by rw [hb]; rfl⟩
    obtain ⟨a, e, ho, hg, e2, e3⟩ := hT.1 hyes
    rw [hb] at ho
    cases ho
    rw [if_pos hyes, if_neg q, e2, e3]
    refine ⟨rfl, IN_iff.mpr ⟨RC_geq hg (RC_c (fun k hk => ?_) hRb), ⟨Nat.mod_lt _ (by decide), by omega, rfl, fun i hi2 => ?_⟩, hS, hP⟩⟩
    · have := cpz_at (f := z) (g := be) (o := 0) (q := 46 * (sz - 1)) 46 hk
      rw [Nat.zero_add] at this
      exact this
    · obtain ⟨b2, hb2, hR2⟩ := hi i (by omega)
      refine ⟨b2, ?_, hR2⟩
      rw [← hb2]; congr 1; omega
theorem badS_iff {k : Int32} : badS k ↔ ¬ inQ k 0 1 = true := in1'
theorem nar1 : ¬ vp_nar .boolean 1 = 0 := by decide
theorem IN_save {g : GC} {tx : IA} {ln nx sz : Nat} {ob ob' : OB} {ks : KS} {k tu : Int32} (h : IN g tx ln ob nx sz ks) (ht : tu = tuG g) (hV : svP ob k g ob') : p_save k tu = (m_save k ks).1 ∧ IN g tx ln ob' nx sz (m_save k ks).2 := by
  obtain ⟨z, be, sts, sl, sv, pd, len⟩ := ks
  obtain ⟨hR, hH, hS, hP⟩ := IN_iff.mp h
  rw [m_save]
  by_cases q : inQ k 0 1 = true
  · have hb : ¬ badS k := fun w => badS_iff.mp w q
    obtain ⟨j, _, hj, rfl⟩ := inQ_nI (lo := 0) (hi := 1) (by decide) (by decide) q
    obtain ⟨a, d, eo, hd⟩ := hV.2 hb
    rw [nI_clamp (by omega)] at eo
    rw [if_pos q, ← p_save_yes (by omega), nI_clamp (by omega), ht]
    have htu : tuG g = z 42 := by
      obtain ⟨pr, sb, br, fe, se, fl, x, pl, th, tu, ca⟩ := g
      exact (RG_iff.mp (RC_iff.mp hR).1).2.2.2.2.2.2.1
    refine ⟨htu, IN_iff.mpr ⟨hR, ⟨hH.1, hH.2.1, hH.2.2.1, fun i hi => ?_⟩, fun j2 hj2 => ?_, hP⟩⟩
    · have := hH.2.2.2 i hi
      rw [eo, upo, if_neg (by omega)]; exact this
    · by_cases e : j2 = j
      · subst e
        refine Or.inr ⟨(a, d), by rw [eo, upo, if_pos rfl], by rw [upd_eq]; exact nar1, RC_geq hd (RC_c (fun k hk => ?_) hR)⟩
        rw [row46]; exact (cpz_at (f := sl) (g := z) (o := 46 * j2) (q := 0) 46 hk).trans (by rw [Nat.zero_add])
      · rw [eo, upo, if_neg (by omega), upd_ne e]
        rcases hS j2 hj2 with w | ⟨b, h1, h2, h3⟩
        · exact Or.inl w
        · refine Or.inr ⟨b, h1, h2, RC_c (fun k hk => ?_) h3⟩
          rw [row46, row46, cpz_out 46 (by omega)]
  · rw [if_neg q, ← p_save_no (badS_iff.mpr q), hV.1 (badS_iff.mpr q)]
    exact ⟨rfl, h⟩
theorem IN_rest {g g' : GC} {tx : IA} {ln nx sz nx' sz' : Nat} {ob ob' : OB} {ks : KS} {k : Int32} (h : IN g tx ln ob nx sz ks) (hV : rtP ob nx sz k g g' ob' nx' sz') : p_restore k ob = (m_restore k ks).1 ∧ IN g' tx ln ob' nx' sz' (m_restore k ks).2 := by
  obtain ⟨z, be, sts, sl, sv, pd, len⟩ := ks
  obtain ⟨hR, hH, hS, hP⟩ := IN_iff.mp h
  rw [m_restore]
  by_cases q : inQ k 0 1 = true
  · have hb : ¬ badS k := fun w => badS_iff.mp w q
    rw [if_neg (show ¬ ¬ inQ k 0 1 = true from fun w => w q)]
    obtain ⟨j, _, hj, rfl⟩ := inQ_nI (lo := 0) (hi := 1) (by decide) (by decide) q
    rw [nI_clamp (show j < 2 ^ 31 by omega)]
    rcases hS j (by omega) with ⟨ho, hs⟩ | ⟨b, ho, hs, hRb⟩
    · obtain ⟨e1, e2, e3, e4⟩ := hV.1 (Or.inr (by rw [nI_clamp (by omega)]; exact ho))
      rw [if_pos hs, ← p_rs_none (by omega) ho, e1, e2, e3, e4]
      exact ⟨rfl, h⟩
    · obtain ⟨hg, w, e3, e4⟩ := hV.2 b hb (by rw [nI_clamp (by omega)]; exact ho)
      rw [if_neg hs, ← p_rs_yes (t := tuG b.2) (by omega) ho rfl, e3, e4]
      have hRz : RC b.2 (cpz z sl 0 (46 * j) 46) := RC_c (fun k hk => by
        have := cpz_at (f := z) (g := sl) (o := 0) (q := 46 * j) 46 hk
        rw [Nat.zero_add] at this
        exact this) hRb
      have htu : tuG b.2 = cpz z sl 0 (46 * j) 46 42 := by
        generalize b.2 = c at hRz
        obtain ⟨pr, sb, br, fe, se, fl, x, pl, th, tu, ca⟩ := c
        exact (RG_iff.mp (RC_iff.mp hRz).1).2.2.2.2.2.2.1
      exact ⟨htu, IN_iff.mpr ⟨RC_geq hg hRz, HI_rem hH hR w, SL_rem hH.1 hS w, hP⟩⟩
  · have hb := badS_iff.mpr q
    obtain ⟨e1, e2, e3, e4⟩ := hV.1 (Or.inl hb)
    rw [if_pos q, ← p_rs_no hb, e1, e2, e3, e4]
    exact ⟨rfl, h⟩
theorem IN_put {g : GC} {tx : IA} {ln nx sz : Nat} {ob : OB} {ks : KS} {ch : Int64} (h : IN g tx ln ob nx sz ks) : (p_put ch tx ln).1 = (m_put ch ks).1 ∧ IN g (p_put ch tx ln).2.1 (p_put ch tx ln).2.2 ob nx sz (m_put ch ks).2 := by
  obtain ⟨z, be, sts, sl, sv, pd, len⟩ := ks
  obtain ⟨hR, hH, hS, rfl, rfl, hl⟩ := IN_iff.mp h
  obtain ⟨h1, h2⟩ := q_put (ch := ch) (tx := tx) (z := z) (be := be) (sl := sl) (sv := sv) (ln := ln) (sts := sts)
  refine ⟨h1, ?_⟩
  rw [h2]
  exact IN_iff.mpr ⟨hR, hH, hS, rfl, rfl, put_le hl⟩
theorem IN_wipe {g : GC} {tx : IA} {ln nx sz : Nat} {ob : OB} {ks : KS} (h : IN g tx ln ob nx sz ks) : nI ln = (m_wipe ks).1 ∧ IN g tx 0 ob nx sz (m_wipe ks).2 := by
  obtain ⟨z, be, sts, sl, sv, pd, len⟩ := ks
  obtain ⟨hR, hH, hS, rfl, rfl, hl⟩ := IN_iff.mp h
  exact ⟨rfl, IN_iff.mpr ⟨hR, hH, hS, rfl, rfl, by decide⟩⟩
theorem IN_0 : IN (iPr, zrA, iBr, zrA, iSe, 0, 1, 0, -6, 1, 0) zrA 0 (fun _ => none) 0 0 (iMz, zrA, 0, zrA, zrA, zrA, 0) := by
  have hv : ∀ k, k < 12 → iMz k = -6 := by decide
  have ho : ∀ k, k < 36 → 12 ≤ k → iMz k = 0 := by decide
  refine IN_iff.mpr ⟨RC_iff.mpr ⟨RG_iff.mpr ⟨⟨fun k hk => ?_, fun k hk => Or.inl (hv k hk), fun j k hj hk _ hf => ?_⟩, ⟨fun k hk => ?_, by decide⟩, ⟨fun b hb => ?_, fun b hb => ?_, fun b hb => ?_, by decide⟩, by decide, by decide, ⟨by decide, Or.inl rfl⟩, by decide, by decide⟩, ⟨by decide, by decide, by decide, by decide⟩⟩, ⟨by decide, by decide, rfl, fun i hi => absurd hi (Nat.not_lt_zero i)⟩, fun j _ => Or.inl ⟨rfl, rfl⟩, rfl, rfl, by decide⟩
  · rw [hv k hk]; revert k; decide
  · rw [hv j hj, rf_y] at hf; exact absurd n6 hf
  · rw [ho _ (by omega) (by omega)]; rfl
  · rw [brz, ho _ (by omega) (by omega), ho _ (by omega) (by omega), if_neg (by decide), if_neg (by decide)]; revert b; decide
  · rw [fz, ho _ (by omega) (by omega)]; exact ⟨Or.inl rfl, fun w => absurd w (by decide)⟩
  · rw [ho _ (by omega) (by omega)]; rfl
