-- ===== class and reference: the changes =====
def SM (r : SR) (m : Int32 × KS) (ks : KS) : Prop := r.1 = m.1 ∧ ((r.2.1 = true ∧ ∃ z', m.2 = rcK ks z' ∧ RC r.2.2 z') ∨ (r.2.1 = false ∧ m.2 = ks ∧ RC r.2.2 ks.1))
theorem SM_no {a : Int32} {g : GC} {ks : KS} (h : RC g ks.1) : SM (a, false, g) (a, ks) ks := ⟨rfl, Or.inr ⟨rfl, rfl, h⟩⟩
theorem SM_yes {a a' : Int32} {g : GC} {ks : KS} {z' : IA} (e : a = a') (h : RC g z') : SM (a, true, g) (a', rcK ks z') ks := ⟨e, Or.inl ⟨rfl, z', rfl, h⟩⟩
theorem q_seed {g : GC} {ks : KS} (n : Int32) (h : RC g ks.1) : SM (s_seed n g) (m_seed n ks) ks := by
  obtain ⟨pr, sb, br, fe, se, fl, x, pl, th, tu, ca⟩ := g
  obtain ⟨hg, hs⟩ := RC_iff.mp h
  obtain ⟨hp, ht, hr, hx, h40, hth, htu, hca⟩ := RG_iff.mp hg
  rw [s_seed, m_seed]
  by_cases q : 0 ≤ n
  · rw [if_neg (fun w => w q), if_pos q]
    have ea : ∀ j, ¬ j = 39 → upd ks.1 39 n j = ks.1 j := fun j hj => upd_ne hj
    refine SM_yes hx.1 (RC_iff.mpr ⟨RG_iff.mpr ⟨RP_c (fun k hk => ea k (by omega)) hp, RT_c (fun k hk => ea _ (by omega)) (ea _ (by decide)) ht, RR_c (fun k hk => ea _ (by omega)) (ea _ (by decide)) hr, ⟨?_, Int32.not_lt.mpr q⟩, ⟨?_, h40.2⟩, ⟨?_, hth.2⟩, ?_, ?_⟩, RS_c (fun k h1 h2 => ea k (by omega)) hs⟩)
    · rw [upd_eq]
    · rw [ea 40 (by decide)]; exact h40.1
    · rw [ea 41 (by decide)]; exact hth.1
    · rw [ea 42 (by decide)]; exact htu
    · rw [ea 43 (by decide)]; exact hca
  · rw [if_pos q, if_neg q]; exact SM_no h
theorem q_set {g : GC} {ks : KS} (k v : Int32) (h : RC g ks.1) : SM (s_set k v g) (m_set k v ks) ks := by
  obtain ⟨pr, sb, br, fe, se, fl, x, pl, th, tu, ca⟩ := g
  obtain ⟨hg, hs⟩ := RC_iff.mp h
  obtain ⟨hp, ht, hr, hx, h40, hth, htu, hca⟩ := RG_iff.mp hg
  rw [s_set, m_set]
  by_cases q : inQ k 0 2 = true
  · rw [if_neg (fun w => in2'.mp w q)]
    obtain ⟨j, _, hj, rfl⟩ := inQ_nI (lo := 0) (hi := 2) (by decide) (by decide) q
    have el : fvL j = if nI j = 0 then 1 else 0 := by
      rcases (show j = 0 ∨ j = 1 ∨ j = 2 by omega) with rfl | rfl | rfl <;> decide
    have eg : fvG j = if nI j = 0 then 6 else if nI j = 1 then 40 else 3 := by
      rcases (show j = 0 ∨ j = 1 ∨ j = 2 by omega) with rfl | rfl | rfl <;> decide
    rw [nI_clamp (by omega), ← el, ← eg]
    by_cases q2 : inQ v (fvL j) (fvG j) = true
    · rw [if_neg (fun w => inQ_le.mp w q2), if_pos ⟨q, q2⟩]
      have ea : ∀ i, ¬ i = 36 + j → upd ks.1 (36 + j) v i = ks.1 i := fun i hi => upd_ne hi
      have es : ∀ i, i < 3 → upd se j v i = upd ks.1 (36 + j) v (36 + i) := fun i hi => by
        by_cases e : i = j
        · rw [e, upd_eq, upd_eq]
        · rw [upd_ne e, upd_ne (by omega)]
          rcases (show i = 0 ∨ i = 1 ∨ i = 2 by omega) with rfl | rfl | rfl
          · exact hs.1
          · exact hs.2.1
          · exact hs.2.2.1
      have e37 : ¬ upd ks.1 (36 + j) v 37 < 0 := by
        by_cases e : j = 1
        · subst e
          rw [upd_eq]
          have := of_decide_eq_true q2
          exact this.1
        · rw [upd_ne (by omega)]; exact hs.2.2.2
      refine SM_yes ?_ (RC_iff.mpr ⟨RG_iff.mpr ⟨RP_c (fun k hk => ea k (by omega)) hp, RT_c (fun k hk => ea _ (by omega)) (ea _ (by omega)) ht, RR_c (fun k hk => ea _ (by omega)) (ea _ (by omega)) hr, ⟨?_, hx.2⟩, ⟨?_, h40.2⟩, ⟨?_, hth.2⟩, ?_, ?_⟩, ⟨es 0 (by decide), es 1 (by decide), es 2 (by decide), e37⟩⟩)
      · rcases (show j = 0 ∨ j = 1 ∨ j = 2 by omega) with rfl | rfl | rfl
        · exact hs.1
        · exact hs.2.1
        · exact hs.2.2.1
      · rw [ea 39 (by omega)]; exact hx.1
      · rw [ea 40 (by omega)]; exact h40.1
      · rw [ea 41 (by omega)]; exact hth.1
      · rw [ea 42 (by omega)]; exact htu
      · rw [ea 43 (by omega)]; exact hca
    · rw [if_pos (inQ_le.mpr q2), if_neg (fun w => q2 w.2)]; exact SM_no h
  · rw [if_pos (in2'.mpr q), if_neg (fun w => q w.1)]; exact SM_no h
theorem q_cast {g : GC} {ks : KS} (h : RC g ks.1) : SM (s_cast g) (m_cast ks) ks := by
  obtain ⟨pr, sb, br, fe, se, fl, x, pl, th, tu, ca⟩ := g
  obtain ⟨hg, hs⟩ := RC_iff.mp h
  obtain ⟨hp, ht, hr, hx, h40, hth, htu, hca⟩ := RG_iff.mp hg
  have ec : (¬ wi pr = -6 ∨ ¬ th = -6) ↔ (¬ mwi ks.1 < 0 ∨ ¬ ks.1 41 = -6) := by rw [wi_M hp.1, mwi_lt, hth.1]
  rw [s_cast, m_cast]
  by_cases q : ¬ wi pr = -6 ∨ ¬ th = -6
  · rw [if_pos q, if_pos (ec.mp q)]; exact SM_no h
  · rw [if_neg q, if_neg (fun w => q (ec.mpr w))]
    obtain ⟨h1, h2⟩ := th_M hg hs
    exact SM_yes (by rw [hx.1]) (RC_iff.mpr ⟨h1, h2⟩)
theorem RC_gs {se z : IA} {g : GS} (h : RG g z) (hs : RS se z) : RC (gsc se g) z := by
  obtain ⟨pr, sb, br, fe, fl, x, pl, th, tu, ca⟩ := g
  exact RC_iff.mpr ⟨h, hs⟩
theorem q_move {g : GC} {ks : KS} (k : Int32) (h : RC g ks.1) : SM (s_move k g) (m_move k ks) ks := by
  obtain ⟨pr, sb, br, fe, se, fl, x, pl, th, tu, ca⟩ := g
  obtain ⟨hg, hs⟩ := RC_iff.mp h
  obtain ⟨hp, ht, hr, hx, h40, hth, htu, hca⟩ := RG_iff.mp hg
  rw [s_move, m_move]
  by_cases q : inQ k 0 2 = true
  · rw [if_neg (fun w => in2'.mp w q), if_neg (show ¬ ¬ inQ k 0 2 = true from fun w => w q)]
    obtain ⟨j, _, hj, rfl⟩ := inQ_nI (lo := 0) (hi := 2) (by decide) (by decide) q
    rw [nI_clamp (show j < 2 ^ 31 by omega), h40.1, nI_clamp (show pl < 2 ^ 31 by omega), ← hth.1]
    by_cases q2 : th = -6
    · rw [if_pos (Or.inl q2), if_pos (Or.inl q2)]; exact SM_no h
    obtain ⟨cn, hc1, hc, rfl⟩ := okc_ne hth.2 q2
    rw [nI_clamp (show cn < 2 ^ 31 by omega)]
    have er : rs pr br se (pl * 3 + j) cn = mwn ks.1 (3 * pl + j) cn := by rw [Nat.mul_comm pl 3]; exact rs_M hp.1 hp.2.1 hp.2.2 hr.1 hs.1 (by omega) hc1
    rw [er]
    by_cases q3 : mwn ks.1 (3 * pl + j) cn = 0
    · rw [if_neg (fun w => w.elim q2 (fun v => v q3)), if_neg (fun w => w.elim q2 (fun v => v (by rw [q3]; decide)))]
      obtain ⟨⟨h1, h2⟩, h3⟩ := mv_M hg hs (show j < 3 by omega) hc1 q3
      exact SM_yes h3 (RC_gs h1 h2)
    · rw [if_pos (Or.inr q3), if_pos (Or.inr fun w => q3 (mwn_nn w))]; exact SM_no h
  · rw [if_pos (in2'.mpr q), if_pos q]; exact SM_no h
theorem q_skip {g : GC} {ks : KS} (h : RC g ks.1) : SM (s_skip g) (m_skip ks) ks := by
  obtain ⟨pr, sb, br, fe, se, fl, x, pl, th, tu, ca⟩ := g
  obtain ⟨hg, hs⟩ := RC_iff.mp h
  obtain ⟨hp, ht, hr, hx, h40, hth, htu, hca⟩ := RG_iff.mp hg
  rw [s_skip, m_skip, h40.1, nI_clamp (show pl < 2 ^ 31 by omega), ← hth.1]
  by_cases q2 : th = -6
  · rw [if_pos (Or.inl q2), if_pos (Or.inl q2)]; exact SM_no h
  obtain ⟨cn, hc1, hc, rfl⟩ := okc_ne hth.2 q2
  rw [nI_clamp (show cn < 2 ^ 31 by omega), cm_M hp hr.1 hs.1 h40.2 hc1]
  by_cases q3 : mcQ ks.1 pl cn 3 = true
  · rw [if_pos (Or.inr q3), if_pos (Or.inr q3)]; exact SM_no h
  · rw [if_neg (fun w => w.elim q2 q3), if_neg (fun w => w.elim q2 q3)]
    obtain ⟨h1, h2⟩ := et_M (se := se) hp ht hr hx h40 hth.1 htu hca hs
    exact SM_yes (RG_iff.mp h1).2.2.2.2.1.1.symm (RC_iff.mpr ⟨h1, h2⟩)
theorem q_play {g : GC} {ks : KS} (n : Int32) (h : RC g ks.1) : SM (s_play n g) (m_play n ks) ks := by
  obtain ⟨pr, sb, br, fe, se, fl, x, pl, th, tu, ca⟩ := g
  obtain ⟨hg, hs⟩ := RC_iff.mp h
  obtain ⟨hp, ht, hr, hx, h40, hth, htu, hca⟩ := RG_iff.mp hg
  have ec : (¬ wi pr = -6 ∨ ¬ th = -6) ↔ (¬ mwi ks.1 < 0 ∨ ¬ ks.1 41 = -6) := by rw [wi_M hp.1, mwi_lt, hth.1]
  rw [s_play, m_play]
  by_cases q : inQ n 1 100 = true
  · rw [if_neg (fun w => inQ_le.mp w q), if_neg (show ¬ ¬ inQ n 1 100 = true from fun w => w q)]
    by_cases q2 : ¬ wi pr = -6 ∨ ¬ th = -6
    · rw [if_pos q2, if_pos (ec.mp q2)]; exact SM_no h
    · rw [if_neg q2, if_neg (fun w => q2 (ec.mpr w))]
      obtain ⟨⟨h1, h2⟩, h3⟩ := pg_M n.toNatClampNeg _ ks.1 hg hs
      exact SM_yes (by rw [h3]) (RC_gs h1 h2)
  · rw [if_pos (inQ_le.mpr q), if_pos q]; exact SM_no h
theorem q_lay {g : GC} {ks : KS} (k v : Int32) (h : RC g ks.1) : SM (s_lay k v g) (m_lay k v ks) ks := by
  obtain ⟨pr, sb, br, fe, se, fl, x, pl, th, tu, ca⟩ := g
  obtain ⟨hg, hs⟩ := RC_iff.mp h
  obtain ⟨hp, ht, hr, hx, h40, hth, htu, hca⟩ := RG_iff.mp hg
  rw [s_lay, m_lay]
  by_cases q : inQ k 0 11 = true
  · rw [if_neg (fun w => in11.mp w q), if_neg (show ¬ ¬ inQ k 0 11 = true from fun w => w q)]
    obtain ⟨j, hj, rfl⟩ := np_ok' q
    rw [nI_clamp (show j < 2 ^ 31 by omega)]
    have e35 : (v < 0 ∨ ¬ v ≤ 35) ↔ ¬ inQ v 0 35 = true := inQ_le
    by_cases q1 : ¬ v = -6 ∧ (v < 0 ∨ ¬ v ≤ 35)
    · rw [if_pos q1, if_pos ⟨q1.1, e35.mp q1.2⟩]; exact SM_no h
    rw [if_neg q1, if_neg (show ¬ (¬ v = -6 ∧ ¬ inQ v 0 35 = true) from fun w => q1 ⟨w.1, e35.mpr w.2⟩)]
    have hv : okv v := by
      by_cases e : v = -6
      · exact Or.inl e
      · have : inQ v 0 35 = true := Decidable.byContradiction fun w => q1 ⟨e, e35.mpr w⟩
        obtain ⟨t, _, ht, e⟩ := inQ_nI (lo := 0) (hi := 35) (by decide) (by decide) this
        exact Or.inr ⟨t, ht, e⟩
    have hj3 : j / 3 < 4 := by omega
    have hf : okf (rf (j / 3) v) := rf_okf _ hj3
    have e1 : (0 : Int32) ≤ ot ks.1 (j / 3) (rf (j / 3) v) ↔ ¬ rvM ks.1 (j / 3) (rf (j / 3) v) = 0 := by rw [← Int32.not_lt]; exact not_congr (ot_lt hf)
    have e2 : fullQ pr j v = true ↔ 1 < laO ks.1 v j := by
      rw [fullQ, decide_eq_true_eq]
      rcases hv with rfl | ⟨t, ht, rfl⟩
      · have : laO ks.1 (-6) j = 0 := cnt_zero 3 fun i _ => by rw [laP]; exact decide_eq_false (fun w => absurd w.2.2 (by decide))
        rw [this]; exact ⟨fun w => absurd rfl w.1, fun w => absurd w (by decide)⟩
      · by_cases e : t = 35
        · subst e
          have : laO ks.1 (nI 35) j = 0 := cnt_zero 3 fun i _ => by rw [laP]; exact decide_eq_false (fun w => absurd w.2.2 (by decide))
          rw [this]; exact ⟨fun w => absurd rfl w.2.1, fun w => absurd w (by decide)⟩
        · have ei : inQ (nI t) 0 34 = true := by
            rw [inQ, decide_eq_true_eq]
            exact ⟨nI_pos (by omega), nI_nlt (a := 34) (by omega) (by decide)⟩
          have : laO ks.1 (nI t) j = mt pr j (nI t) := cnt_congr 3 fun i hi => by
            rw [laP, mtP, hp.1 _ (by omega), show j - j % 3 + i = 3 * (j / 3) + i by omega, ei]
            exact decide_eq_decide.mpr ⟨fun w => ⟨w.1, w.2.1⟩, fun w => ⟨w.1, w.2, rfl⟩⟩
          rw [this]
          exact ⟨fun w => w.2.2, fun w => ⟨nI_neg (by omega) (by decide), fun z => e ((nI_eq (a := t) (b := 35) (by omega) (by decide)).mp z), w⟩⟩
    have ec : ¬ roomQ pr br j v = true ↔ (0 ≤ ot ks.1 (j / 3) (rf (j / 3) v) ∨ 1 < laO ks.1 v j ∨ mfa ks.1 (rf (j / 3) v) = true) := by
      rw [roomQ, decide_eq_true_eq, rv_v hp.1 hj3, e1, ← e2, faQ_mf hr.1 hj3]
      constructor
      · intro w
        by_cases a1 : rvM ks.1 (j / 3) (rf (j / 3) v) = 0
        · by_cases a2 : fullQ pr j v = true
          · exact Or.inr (Or.inl a2)
          · exact Or.inr (Or.inr (Decidable.byContradiction fun a3 => w ⟨a1, a2, a3⟩))
        · exact Or.inl a1
      · intro w z
        exact w.elim (fun a => a z.1) (fun a => a.elim z.2.1 z.2.2)
    by_cases q2 : ¬ roomQ pr br j v = true
    · rw [if_pos q2, if_pos (ec.mp q2)]; exact SM_no h
    · rw [if_neg q2, if_neg (fun w => q2 (ec.mpr w))]
      have hrv : rvM ks.1 (j / 3) (rf (j / 3) v) = 0 := Decidable.byContradiction fun a => q2 (ec.mpr (Or.inl (e1.mpr a)))
      have hp2 : RP (upd pr j v) (upd ks.1 j v) := put_M hp hj hv fun i hi hij hff e => by
        have h0 := cnt_0 12 ((rv_M (pr := ks.1) (fun _ _ => rfl) hf).trans hrv) i hi
        rw [rvP] at h0
        exact of_decide_eq_false h0 ⟨fun w => hff ((okf_lt hf).mpr w), hij, e⟩
      have hu : ∀ i, 12 ≤ i → upd ks.1 j v i = ks.1 i := fun i hi => upd_ne (by omega)
      have hl := look_M (tu := tu) hp2 (RR_c (fun k hk => hu _ (by omega)) (hu _ (by decide)) hr) (by rw [hu 42 (by decide)]; exact htu) 4 (Nat.le_refl 4)
      have hhi : ∀ i, 36 ≤ i → ¬ i = 45 → lk (upd ks.1 j v) 4 i = ks.1 i := fun i hi h5 => by rw [lk_hi hi h5 4 (Nat.le_refl 4)]; exact hu i (by omega)
      refine SM_yes (hp.1 j hj) (RC_iff.mpr ⟨RG_iff.mpr ⟨RP_c (fun k hk => lk_lo (by omega) 4) hp2, RT_c (fun k hk => by rw [lk_lo (by omega) 4]; exact hu _ (by omega)) (hhi 44 (by decide) (by decide)) ht, hl, ⟨?_, hx.2⟩, ⟨?_, h40.2⟩, ⟨?_, hth.2⟩, ?_, ?_⟩, RS_c (fun k h1 h2 => hhi k (by omega) (by omega)) hs⟩)
      · rw [hhi 39 (by decide) (by decide)]; exact hx.1
      · rw [hhi 40 (by decide) (by decide)]; exact h40.1
      · rw [hhi 41 (by decide) (by decide)]; exact hth.1
      · rw [hhi 42 (by decide) (by decide)]; exact htu
      · rw [hhi 43 (by decide) (by decide)]; exact hca
  · rw [if_pos (in11.mpr q), if_pos q]; exact SM_no h
/-- reading empties the pad -/
def SM0 (r : SR) (m : Int32 × KS) (ks : KS) : Prop := r.1 = m.1 ∧ ((r.2.1 = true ∧ ∃ z', m.2 = (z', rcB ks.2.1 ks.1 ks.2.2.1, rcN ks.2.2.1, ks.2.2.2.1, ks.2.2.2.2.1, ks.2.2.2.2.2.1, 0) ∧ RC r.2.2 z') ∨ (r.2.1 = false ∧ m.2 = ks ∧ RC r.2.2 ks.1))
theorem ffM_lt {pd : IA} {ln : Nat} (hl : ln ≤ 60) : ffM pd ln = -6 ↔ ffM pd ln < 0 := by
  have hx : ∀ (P : Nat → Bool) n a, a + n < 2 ^ 31 → fxs P (ffE ln) a n = -6 ∨ ∃ b : Nat, b < 2 ^ 31 ∧ fxs P (ffE ln) a n = nI b := by
    intro P n
    induction n with
    | zero =>
      intro a _
      rw [fxs, ffE]; split
      · exact Or.inl rfl
      · exact Or.inr ⟨ln, by omega, rfl⟩
    | succ n ih =>
      intro a ha
      rw [fxs]; split
      · exact Or.inr ⟨a, by omega, rfl⟩
      · exact ih (a + 1) (by omega)
  rcases hx (badM pd) ln 0 (by omega) with e | ⟨b, hb, e⟩
  · exact ⟨fun _ => by rw [ffM, e]; decide, fun _ => e⟩
  · constructor
    · intro w; rw [w]; decide
    · intro w; rw [ffM, e] at w; exact absurd w (nI_pos hb)
theorem q_read {g : GC} {z be sl sv pd : IA} {sts ln : Nat} (h : RC g z) (hl : ln ≤ 60) : SM0 (s_read pd ln g) (m_read (z, be, sts, sl, sv, pd, ln)) (z, be, sts, sl, sv, pd, ln) := by
  obtain ⟨pr, sb, br, fe, se, fl, x, pl, th, tu, ca⟩ := g
  obtain ⟨hg, hs⟩ := RC_iff.mp h
  obtain ⟨hp, ht, hr, hx, h40, hth, htu, hca⟩ := RG_iff.mp hg
  rw [s_read, m_read]
  show SM0 _ (if ¬ ffM pd ln < 0 then (-3, (z, be, sts, sl, sv, pd, ln)) else if ¬ z 41 = -6 then (-5, (z, be, sts, sl, sv, pd, ln)) else (nI (rdS pd z (ln / 2)).2.1, ((rdS pd z (ln / 2)).1, rcB be z sts, rcN sts, sl, sv, pd, 0))) _
  rw [← hth.1]
  by_cases q : ffM pd ln < 0
  · rw [if_neg (fun w => w ((ffM_lt hl).mpr q)), if_neg (show ¬ ¬ ffM pd ln < 0 from fun w => w q)]
    by_cases q2 : ¬ th = -6
    · rw [if_pos q2, if_pos q2]; exact ⟨rfl, Or.inr ⟨rfl, rfl, h⟩⟩
    · rw [if_neg q2, if_neg q2]
      obtain ⟨⟨h1, h2⟩, h3⟩ := rx_M hg hs hl q (ln / 2) (by omega)
      exact ⟨by show nI _ = nI _; rw [h3], Or.inl ⟨rfl, (rdS pd z (ln / 2)).1, rfl, RC_gs h1 h2⟩⟩
  · rw [if_pos (fun w => q ((ffM_lt hl).mp w)), if_pos q]; exact ⟨rfl, Or.inr ⟨rfl, rfl, h⟩⟩
theorem q_put {ch : Int64} {tx z be sl sv : IA} {ln sts : Nat} : (p_put ch tx ln).1 = (m_put ch (z, be, sts, sl, sv, tx, ln)).1 ∧ (m_put ch (z, be, sts, sl, sv, tx, ln)).2 = (z, be, sts, sl, sv, (p_put ch tx ln).2.1, (p_put ch tx ln).2.2) := by
  rw [p_put, m_put]
  show (if lenL ch = 0 then ((-2 : Int32), tx, ln) else if 60 < ln + lenL ch then (-4, tx, ln) else (nI (ln + lenL ch), apd tx ln (uN ch) (lenL ch) (lenL ch), ln + lenL ch)).1 = (if uN ch = 0 ∨ ¬ dok 8 (uN ch) = true then ((-2 : Int32), (z, be, sts, sl, sv, tx, ln)) else if 60 < ln + dln 8 (uN ch) then (-4, (z, be, sts, sl, sv, tx, ln)) else (nI (ln + dln 8 (uN ch)), (z, be, sts, sl, sv, apd tx ln (uN ch) (dln 8 (uN ch)) (dln 8 (uN ch)), ln + dln 8 (uN ch)))).1 ∧
    (if uN ch = 0 ∨ ¬ dok 8 (uN ch) = true then ((-2 : Int32), (z, be, sts, sl, sv, tx, ln)) else if 60 < ln + dln 8 (uN ch) then (-4, (z, be, sts, sl, sv, tx, ln)) else (nI (ln + dln 8 (uN ch)), (z, be, sts, sl, sv, apd tx ln (uN ch) (dln 8 (uN ch)) (dln 8 (uN ch)), ln + dln 8 (uN ch)))).2 = _
  have el : lenL ch = 0 ↔ (uN ch = 0 ∨ ¬ dok 8 (uN ch) = true) := by
    rw [lenL]
    by_cases d : dok 8 (uN ch) = true
    · rw [if_pos d]
      constructor
      · intro w
        by_cases n0 : uN ch = 0
        · exact Or.inl n0
        · rw [dln, if_neg n0] at w; omega
      · intro w
        rcases w with w | w
        · rw [w, dln, if_pos rfl]
        · exact absurd d w
    · rw [if_neg d]; exact ⟨fun _ => Or.inr d, fun _ => rfl⟩
  by_cases q : lenL ch = 0
  · rw [if_pos q, if_pos (el.mp q)]; exact ⟨rfl, rfl⟩
  · have q1 : ¬ (uN ch = 0 ∨ ¬ dok 8 (uN ch) = true) := fun w => q (el.mpr w)
    have d : dok 8 (uN ch) = true := Decidable.byContradiction fun w => q1 (Or.inr w)
    have e : lenL ch = dln 8 (uN ch) := by rw [lenL, if_pos d]
    rw [if_neg q, if_neg q1, e]
    by_cases q2 : 60 < ln + dln 8 (uN ch)
    · rw [if_pos q2, if_pos q2]; exact ⟨rfl, rfl⟩
    · rw [if_neg q2, if_neg q2]; exact ⟨rfl, rfl⟩
theorem put_le {ch : Int64} {tx : IA} {ln : Nat} (h : ln ≤ 60) : (p_put ch tx ln).2.2 ≤ 60 := by
  rw [p_put]; split
  · exact h
  · split
    · exact h
    · show ln + lenL ch ≤ 60; omega
