-- ===== class and reference: a throw, playing on, reading =====
theorem RG_iff {pr sb br fe z : IA} {fl x th tu ca : Int32} {pl : Nat} : RG (pr, sb, br, fe, fl, x, pl, th, tu, ca) z ↔ RP pr z ∧ RT sb z ∧ RR br fe fl z ∧ (x = z 39 ∧ ¬ x < 0) ∧ (z 40 = nI pl ∧ pl < 4) ∧ (th = z 41 ∧ okc th) ∧ tu = z 42 ∧ ca = z 43 := Iff.rfl
theorem goM_lo {z : IA} {pl j : Nat} (h : j < 24) : goM z pl j = z j := by
  rw [goM]; split
  · rw [upd_ne (by omega)]
  · rw [mend_ne (Or.inl h) 4 (by decide), upd_ne (by omega), upd_ne (by omega), upd_ne (by omega), upd_ne (by omega)]
theorem et_M {se pr sb br fe z : IA} {fl x th tu ca : Int32} {pl : Nat} (hp : RP pr z) (ht : RT sb z) (hr : RR br fe fl z) (hx : x = z 39 ∧ ¬ x < 0) (h40 : z 40 = nI pl ∧ pl < 4) (hth : th = z 41) (htu : tu = z 42) (hca : ca = z 43) (hs : RS se z) :
    RG (pr, sb, (et pr br fe se pl th tu ca).1, fe, fl, x, (et pr br fe se pl th tu ca).2.1, -6, (et pr br fe se pl th tu ca).2.2.1, (et pr br fe se pl th tu ca).2.2.2) (goM z pl) ∧ RS se (goM z pl) := by
  have ew : wi pr = mwi (upd z 41 (-6)) := wi_M (fun k hk => by rw [upd_ne (by omega)]; exact hp.1 k hk)
  have ec : ((th = 6 ∧ ¬ se 2 < ca) ∨ ¬ wi pr = -6) ↔ (¬ mwi (upd z 41 (-6)) < 0 ∨ (z 41 = 6 ∧ ¬ z 38 < z 43)) := by
    rw [ew, mwi_lt, hth, hca, hs.2.2.1]; exact Or.comm
  by_cases q : (th = 6 ∧ ¬ se 2 < ca) ∨ ¬ wi pr = -6
  · have e1 : et pr br fe se pl th tu ca = (br, pl, tu, ca) := by rw [et, if_pos q]
    have e2 : goM z pl = upd z 41 (-6) := by rw [goM, if_pos (ec.mp q)]
    rw [e1, e2]
    refine ⟨RG_iff.mpr ⟨RP_c (fun k hk => upd_ne (by omega)) hp, RT_c (fun k hk => upd_ne (by omega)) (upd_ne (by decide)) ht, RR_c (fun k hk => upd_ne (by omega)) (upd_ne (by decide)) hr, ⟨?_, hx.2⟩, ⟨?_, h40.2⟩, ⟨?_, Or.inl rfl⟩, ?_, ?_⟩, RS_c (fun k h1 h2 => upd_ne (by omega)) hs⟩
    · rw [upd_ne (by decide)]; exact hx.1
    · rw [upd_ne (by decide)]; exact h40.1
    · rw [upd_eq]
    · rw [upd_ne (by decide)]; exact htu
    · rw [upd_ne (by decide)]; exact hca
  · have e1 : et pr br fe se pl th tu ca = (md fe (tu + 1) (se 1) br 4, (pl + 1) % 4, tu + 1, 0) := by rw [et, if_neg q]
    have e2 : goM z pl = mend (upd (upd (upd (upd z 41 (-6)) 40 (nI ((pl + 1) % 4))) 42 (z 42 + 1)) 43 0) 4 := by rw [goM, if_neg (fun w => q (ec.mpr w))]
    rw [e1, e2]
    have ea : ∀ j, ¬ j = 40 → ¬ j = 41 → ¬ j = 42 → ¬ j = 43 → upd (upd (upd (upd z 41 (-6)) 40 (nI ((pl + 1) % 4))) 42 (z 42 + 1)) 43 0 j = z j := fun j h0 h1 h2 h3 => by rw [upd_ne h3, upd_ne h2, upd_ne h0, upd_ne h1]
    have hr1 : RR br fe fl (upd (upd (upd (upd z 41 (-6)) 40 (nI ((pl + 1) % 4))) 42 (z 42 + 1)) 43 0) := RR_c (fun k hk => ea _ (by omega) (by omega) (by omega) (by omega)) (ea _ (by decide) (by decide) (by decide) (by decide)) hr
    have hs1 : RS se (upd (upd (upd (upd z 41 (-6)) 40 (nI ((pl + 1) % 4))) 42 (z 42 + 1)) 43 0) := RS_c (fun k h1 h2 => ea _ (by omega) (by omega) (by omega) (by omega)) hs
    have hm := md_M (tu := tu + 1) (me := se 1) hr1 (by rw [upd_ne (by decide), upd_eq, htu]) hs1.2.1 hs1.2.2.2 4 (Nat.le_refl 4)
    have hi : ∀ j, 28 ≤ j → mend (upd (upd (upd (upd z 41 (-6)) 40 (nI ((pl + 1) % 4))) 42 (z 42 + 1)) 43 0) 4 j = upd (upd (upd (upd z 41 (-6)) 40 (nI ((pl + 1) % 4))) 42 (z 42 + 1)) 43 0 j := fun j hj => mend_ne (Or.inr hj) 4 (Nat.le_refl 4)
    have lo : ∀ j, j < 24 → mend (upd (upd (upd (upd z 41 (-6)) 40 (nI ((pl + 1) % 4))) 42 (z 42 + 1)) 43 0) 4 j = z j := fun j hj => by rw [mend_ne (Or.inl hj) 4 (Nat.le_refl 4)]; exact ea j (by omega) (by omega) (by omega) (by omega)
    refine ⟨RG_iff.mpr ⟨RP_c (fun k hk => lo k (by omega)) hp, RT_c (fun k hk => lo _ (by omega)) (by rw [hi 44 (by decide)]; exact ea _ (by decide) (by decide) (by decide) (by decide)) ht, hm, ⟨?_, hx.2⟩, ⟨?_, Nat.mod_lt _ (by decide)⟩, ⟨?_, Or.inl rfl⟩, ?_, ?_⟩, RS_c (fun k h1 h2 => hi k (by omega)) hs1⟩
    · rw [hi 39 (by decide), ea 39 (by decide) (by decide) (by decide) (by decide)]; exact hx.1
    · rw [hi 40 (by decide), upd_ne (by decide), upd_ne (by decide), upd_eq]
    · rw [hi 41 (by decide), upd_ne (by decide), upd_ne (by decide), upd_ne (by decide), upd_eq]
    · rw [hi 42 (by decide), upd_ne (by decide), upd_eq, htu]
    · rw [hi 43 (by decide), upd_eq]
theorem anyp_of {P : Nat → Bool} : ∀ n a k, a ≤ k → k < a + n → P k = true → anyp P a n = true
  | 0, a, k, h1, h2, _ => by omega
  | n + 1, a, k, h1, h2, hk => by
    rw [anyp]
    by_cases e : k = a
    · rw [← e, hk, Bool.true_or]
    · rw [anyp_of n (a + 1) k (by omega) (by omega) hk, Bool.or_true]
theorem free_M {z : IA} {k cn : Nat} (hv : ∀ k, k < 12 → okv (z k)) (hx : EX z) (hk : k < 12) (h1 : 1 ≤ cn) (h : mwn z k cn = 0) : ∃ t : Nat, t ≤ 35 ∧ tgtM z (k / 3) (z k) cn = nI t ∧ rvM z (k / 3) (rf (k / 3) (nI t)) ≤ 1 := by
  have hne := mwn_tgt h
  obtain ⟨t, ht, et, hnt⟩ := tgtM_ne (hv k hk) h1 hne
  refine ⟨t, ht, et, Decidable.byContradiction fun q => ?_⟩
  have hf : fst0 (z k) ≤ t := by
    rcases hv k hk with e | ⟨a, ha, e⟩
    · rw [e, fst_y]; exact Nat.zero_le t
    · rw [e, fst_n (by omega)]
      rw [e, tgtM, if_neg (nI_neg (by omega) (by decide)), nI_clamp (by omega)] at et
      have := tgI_gt et h1 ht
      omega
  have hb : mbQ z (k / 3) (z k) t = true := by
    rw [mbQ]
    exact anyp_of _ _ t hf (by omega) (by rw [mbP]; exact (bl_iff hx (by omega)).mpr (by omega))
  rw [mwn] at h
  split at h
  · cases h
  · split at h
    · cases h
    · first | (rw [et, nI_clamp (by omega), if_pos hb] at h; cases h) | (rw [if_neg hne, et, nI_clamp (by omega), if_pos hb] at h; cases h)
theorem mv_M {se pr sb br fe z : IA} {fl x th tu ca : Int32} {pl cn j : Nat} (h : RG (pr, sb, br, fe, fl, x, pl, th, tu, ca) z) (hs : RS se z) (hj : j < 3) (h1 : 1 ≤ cn) (hf : mwn z (3 * pl + j) cn = 0) :
    (RG (mvS se (pl * 3 + j) cn th pr sb br fe fl x pl tu ca) (goM (mv2 z pl cn j) pl) ∧ RS se (goM (mv2 z pl cn j) pl)) ∧ tgt br pl (pr (pl * 3 + j)) cn = goM (mv2 z pl cn j) pl (3 * pl + j) := by
  obtain ⟨hp, ht, hr, hx, h40, hth, htu, hca⟩ := RG_iff.mp h
  have hk : 3 * pl + j < 12 := by omega
  have hd : (3 * pl + j) / 3 = pl := by omega
  obtain ⟨t, ht35, eT, hrv⟩ := free_M hp.2.1 hp.2.2 hk h1 hf
  rw [hd] at eT hrv
  have eT2 : tgt br pl (pr (3 * pl + j)) cn = nI t := by rw [tgt_M hr.1 h40.2, hp.1 _ hk]; exact eT
  have hkk : pl * 3 + j = 3 * pl + j := by omega
  have hsend := send_M (pr := pr) (sb := sb) (f := rf pl (nI t)) hp ht (rf_okf _ h40.2) hrv
  obtain ⟨⟨hp1, ht1⟩, hi1, hn1⟩ := hsend
  have ht0 : okv (nI t) := Or.inr ⟨t, ht35, rfl⟩
  have hp2 : RP (upd (srb pr sb pl (rf pl (nI t)) 12).1 (3 * pl + j) (nI t)) (upd (sdM z pl (rf pl (nI t))) (3 * pl + j) (nI t)) := put_M hp1 hk ht0 (by rw [hd]; exact hn1)
  have hu : ∀ i, 12 ≤ i → upd (sdM z pl (rf pl (nI t))) (3 * pl + j) (nI t) i = sdM z pl (rf pl (nI t)) i := fun i hi => upd_ne (by omega)
  have ht2 : RT (srb pr sb pl (rf pl (nI t)) 12).2 (upd (sdM z pl (rf pl (nI t))) (3 * pl + j) (nI t)) := RT_c (fun k hk => hu _ (by omega)) (hu _ (by decide)) ht1
  have hh : ∀ i, 24 ≤ i → ¬ i = 44 → upd (sdM z pl (rf pl (nI t))) (3 * pl + j) (nI t) i = z i := fun i hi h4 => by rw [hu i (by omega)]; exact hi1 i hi h4
  have hr2 : RR br fe fl (upd (sdM z pl (rf pl (nI t))) (3 * pl + j) (nI t)) := RR_c (fun k hk => hh _ (by omega) (by omega)) (hh _ (by decide) (by decide)) hr
  have hl := look_M (tu := tu) hp2 hr2 (by rw [hh 42 (by decide) (by decide)]; exact htu) 4 (Nat.le_refl 4)
  have ey : mv2 z pl cn j = lk (upd (sdM z pl (rf pl (nI t))) (3 * pl + j) (nI t)) 4 := by rw [mv2, mvM, hd, eT, sdM]
  have hlo : ∀ i, i < 24 → mv2 z pl cn j i = upd (sdM z pl (rf pl (nI t))) (3 * pl + j) (nI t) i := fun i hi => by rw [ey]; exact lk_lo hi 4
  have hhi : ∀ i, 36 ≤ i → ¬ i = 44 → ¬ i = 45 → mv2 z pl cn j i = z i := fun i hi h4 h5 => by rw [ey, lk_hi hi h5 4 (Nat.le_refl 4)]; exact hh i (by omega) h4
  have em : mvS se (pl * 3 + j) cn th pr sb br fe fl x pl tu ca = (upd (srb pr sb pl (rf pl (nI t)) 12).1 (3 * pl + j) (nI t), (srb pr sb pl (rf pl (nI t)) 12).2,
      (et (upd (srb pr sb pl (rf pl (nI t)) 12).1 (3 * pl + j) (nI t)) (sf (upd (srb pr sb pl (rf pl (nI t)) 12).1 (3 * pl + j) (nI t)) tu br fe fl 4).1 (sf (upd (srb pr sb pl (rf pl (nI t)) 12).1 (3 * pl + j) (nI t)) tu br fe fl 4).2.1 se pl th tu ca).1,
      (sf (upd (srb pr sb pl (rf pl (nI t)) 12).1 (3 * pl + j) (nI t)) tu br fe fl 4).2.1, (sf (upd (srb pr sb pl (rf pl (nI t)) 12).1 (3 * pl + j) (nI t)) tu br fe fl 4).2.2, x,
      (et (upd (srb pr sb pl (rf pl (nI t)) 12).1 (3 * pl + j) (nI t)) (sf (upd (srb pr sb pl (rf pl (nI t)) 12).1 (3 * pl + j) (nI t)) tu br fe fl 4).1 (sf (upd (srb pr sb pl (rf pl (nI t)) 12).1 (3 * pl + j) (nI t)) tu br fe fl 4).2.1 se pl th tu ca).2.1, -6,
      (et (upd (srb pr sb pl (rf pl (nI t)) 12).1 (3 * pl + j) (nI t)) (sf (upd (srb pr sb pl (rf pl (nI t)) 12).1 (3 * pl + j) (nI t)) tu br fe fl 4).1 (sf (upd (srb pr sb pl (rf pl (nI t)) 12).1 (3 * pl + j) (nI t)) tu br fe fl 4).2.1 se pl th tu ca).2.2.1,
      (et (upd (srb pr sb pl (rf pl (nI t)) 12).1 (3 * pl + j) (nI t)) (sf (upd (srb pr sb pl (rf pl (nI t)) 12).1 (3 * pl + j) (nI t)) tu br fe fl 4).1 (sf (upd (srb pr sb pl (rf pl (nI t)) 12).1 (3 * pl + j) (nI t)) tu br fe fl 4).2.1 se pl th tu ca).2.2.2) := by
    rw [hkk, ← eT2]; rfl
  rw [em, hkk, eT2]
  refine ⟨et_M (RP_c (fun k hk => hlo k (by omega)) hp2) (RT_c (fun k hk => hlo _ (by omega)) ?_ ht2) (by rw [ey]; exact hl) ⟨?_, hx.2⟩ ⟨?_, h40.2⟩ ?_ ?_ ?_ (RS_c (fun k h1 h2 => hhi k (by omega) (by omega) (by omega)) hs), ?_⟩
  · rw [ey]; exact lk_hi (by decide) (by decide) 4 (Nat.le_refl 4)
  · rw [hhi 39 (by decide) (by decide) (by decide)]; exact hx.1
  · rw [hhi 40 (by decide) (by decide) (by decide)]; exact h40.1
  · rw [hhi 41 (by decide) (by decide) (by decide)]; exact hth.1
  · rw [hhi 42 (by decide) (by decide) (by decide)]; exact htu
  · rw [hhi 43 (by decide) (by decide) (by decide)]; exact hca
  · rw [goM_lo (by omega), hlo _ (by omega), upd_eq]
theorem ps_M {se pr sb br fe z : IA} {fl x th tu ca : Int32} {pl : Nat} (h : RG (pr, sb, br, fe, fl, x, pl, th, tu, ca) z) (hs : RS se z) : RG (psS se th pr sb br fe fl x pl tu ca) (goM z pl) ∧ RS se (goM z pl) := by
  obtain ⟨hp, ht, hr, hx, h40, hth, htu, hca⟩ := RG_iff.mp h
  exact et_M hp ht hr hx h40 hth.1 htu hca hs
theorem dc_M {se pr sb br fe z : IA} {fl x th tu ca : Int32} {pl cn : Nat} (h : RG (pr, sb, br, fe, fl, x, pl, th, tu, ca) z) (hs : RS se z) (h1 : 1 ≤ cn) (hc : cn ≤ 6) : RG (pr, sb, br, fe, fl, x, pl, nI cn, tu, ca + 1) (dcM z (nI cn)) ∧ RS se (dcM z (nI cn)) := by
  obtain ⟨hp, ht, hr, hx, h40, hth, htu, hca⟩ := RG_iff.mp h
  have ea : ∀ j, ¬ j = 41 → ¬ j = 43 → dcM z (nI cn) j = z j := fun j h1 h3 => by rw [dcM, upd_ne h3, upd_ne h1]
  refine ⟨RG_iff.mpr ⟨RP_c (fun k hk => ea k (by omega) (by omega)) hp, RT_c (fun k hk => ea _ (by omega) (by omega)) (ea _ (by decide) (by decide)) ht, RR_c (fun k hk => ea _ (by omega) (by omega)) (ea _ (by decide) (by decide)) hr, ⟨?_, hx.2⟩, ⟨?_, h40.2⟩, ⟨?_, Or.inr ⟨cn, h1, hc, rfl⟩⟩, ?_, ?_⟩, RS_c (fun k h1 h2 => ea k (by omega) (by omega)) hs⟩
  · rw [ea 39 (by decide) (by decide)]; exact hx.1
  · rw [ea 40 (by decide) (by decide)]; exact h40.1
  · rw [dcM, upd_ne (by decide), upd_eq]
  · rw [ea 42 (by decide) (by decide)]; exact htu
  · rw [dcM, upd_eq, hca]
theorem th_M {se pr sb br fe z : IA} {fl x th tu ca : Int32} {pl : Nat} (h : RG (pr, sb, br, fe, fl, x, pl, th, tu, ca) z) (hs : RS se z) : RG (pr, sb, br, fe, fl, nx x, pl, co (nx x), tu, ca + 1) (thM z) ∧ RS se (thM z) := by
  obtain ⟨hp, ht, hr, hx, h40, hth, htu, hca⟩ := RG_iff.mp h
  have ea : ∀ j, ¬ j = 39 → ¬ j = 41 → ¬ j = 43 → thM z j = z j := fun j h1 h2 h3 => thM_at h1 h2 h3
  obtain ⟨cn, hc1, hc, ec⟩ := co_ok (nx_nn hx.2)
  refine ⟨RG_iff.mpr ⟨RP_c (fun k hk => ea k (by omega) (by omega) (by omega)) hp, RT_c (fun k hk => ea _ (by omega) (by omega) (by omega)) (ea _ (by decide) (by decide) (by decide)) ht, RR_c (fun k hk => ea _ (by omega) (by omega) (by omega)) (ea _ (by decide) (by decide) (by decide)) hr, ⟨?_, nx_nn hx.2⟩, ⟨?_, h40.2⟩, ⟨?_, Or.inr ⟨cn, hc1, hc, ec⟩⟩, ?_, ?_⟩, RS_c (fun k h1 h2 => ea k (by omega) (by omega) (by omega)) hs⟩
  · rw [thM_39, hx.1]
  · rw [ea 40 (by decide) (by decide) (by decide)]; exact h40.1
  · rw [thM_41, hx.1]
  · rw [ea 42 (by decide) (by decide) (by decide)]; exact htu
  · rw [thM_43, hca]
theorem bp_free {z : IA} {pl cn j : Nat} (h : bpM z pl cn = nI j) (hj : j < 3) : mwn z (3 * pl + j) cn = 0 := by
  obtain ⟨j2, h2, e2, f2⟩ := bpM_ok (z := z) (pl := pl) (cn := cn) (by rw [h]; exact nI_pos (by omega))
  rw [h, nI_eq (by omega) (by omega)] at e2
  rw [e2]; exact f2
theorem one_M {se z : IA} {g : GS} (h : RG g z) (hs : RS se z) : RG (one se g) (oneM z) ∧ RS se (oneM z) := by
  obtain ⟨pr, sb, br, fe, fl, x, pl, th, tu, ca⟩ := g
  obtain ⟨h', hs'⟩ := th_M h hs
  obtain ⟨hp, ht, hr, hx, h40, hth, htu, hca⟩ := RG_iff.mp h
  obtain ⟨hp', _, hr', _, h40', _⟩ := RG_iff.mp h'
  obtain ⟨cn, hc1, hc, ec⟩ := co_ok (nx_nn hx.2)
  have ecz : co (nx (z 39)) = nI cn := by rw [← hx.1]; exact ec
  rw [one_eq, ec, nI_clamp (by omega)]
  rw [ec] at h'
  rcases bp_M (cn := cn) hp' hr'.1 hs'.1 h40.2 hc1 with ⟨e1, e2⟩ | ⟨j, hj, e1, e2⟩
  · rw [if_pos e1, ← oneM_y h40.2 h40.1 hc ecz (by rw [e2]; exact n6)]
    exact ps_M h' hs'
  · rw [e1, if_neg (nI_neg (by omega) (by decide)), nI_clamp (by omega), ← oneM_m h40.2 h40.1 hc ecz hj e2]
    exact (mv_M h' hs' hj hc1 (bp_free e2 hj)).1
theorem pg_M {se : IA} : ∀ (n : Nat) (g : GS) (z : IA), RG g z → RS se z → (RG (pg se n g).1 (pgM n z).1 ∧ RS se (pgM n z).1) ∧ (pg se n g).2 = (pgM n z).2
  | 0, g, z, h, hs => ⟨⟨h, hs⟩, rfl⟩
  | n + 1, g, z, h, hs => by
    have ew : wi g.1 = mwi z := by
      obtain ⟨pr, sb, br, fe, fl, x, pl, th, tu, ca⟩ := g
      exact wi_M (RG_iff.mp h).1.1
    rw [pg, pgM]
    by_cases q : mwi z < 0
    · rw [if_pos q, if_pos (by rw [ew]; exact mwi_lt.mp q)]
      obtain ⟨h1, h2⟩ := one_M h hs
      have ih := pg_M n (one se g) (oneM z) h1 h2
      exact ⟨ih.1, by show _ + 1 = _ + 1; rw [ih.2]⟩
    · rw [if_neg q, if_neg (fun w => q (mwi_lt.mpr (by rw [← ew]; exact w)))]
      exact ⟨⟨h, hs⟩, rfl⟩
-- reading
theorem mm_M {se tx z : IA} {g : GS} {t : Nat} (h : RG g z) (hs : RS se z) (hch : (∃ cv : Nat, 49 ≤ cv ∧ cv ≤ 54 ∧ tx (2 * t) = nI cv) ∧ (tx (2 * t + 1) = 45 ∨ ∃ jv : Nat, 97 ≤ jv ∧ jv ≤ 99 ∧ tx (2 * t + 1) = nI jv)) :
    ((wi g.1 = -6 ∧ (mmT se tx t g).1 = true) ↔ rdG tx z t = true) ∧ ((mmT se tx t g).1 = true → RG (mmT se tx t g).2 (rdZ tx z t) ∧ RS se (rdZ tx z t)) := by
  obtain ⟨pr, sb, br, fe, fl, x, pl, th, tu, ca⟩ := g
  obtain ⟨hp, ht, hr, hx, h40, hth, htu, hca⟩ := RG_iff.mp h
  obtain ⟨⟨cv, hv1, hv2, ev⟩, hl⟩ := hch
  have ew : wi pr = mwi z := wi_M hp.1
  have ecl : (tx (2 * t) - 48).toNatClampNeg = cv - 48 := by rw [show tx (2 * t) - 48 = nI (cv - 48) from rd_sub (b := 48) ev (by omega), nI_clamp (by omega)]
  obtain ⟨h', hs'⟩ := dc_M (cn := cv - 48) h hs (by omega) (by omega)
  have ew2 : ((wi pr = -6) ↔ mwi z < 0) := by rw [ew]; exact mwi_lt.symm
  rcases hl with h45 | ⟨jv, hj1, hj2, ej⟩
  · have emm : mmT se tx t (pr, sb, br, fe, fl, x, pl, th, tu, ca) = if cmQ pr br se pl (cv - 48) = true then (false, (pr, sb, br, fe, fl, x, pl, th, tu, ca)) else (true, psS se (nI (cv - 48)) pr sb br fe fl x pl tu (ca + 1)) := by
      rw [mmT, ecl, if_pos h45, mmS, if_pos rfl]
    rw [emm, cm_M hp hr.1 hs.1 h40.2 (by omega), rdG_p hv1 hv2 ev h40.1 h40.2 h45, rdZ_p hv1 hv2 ev h40.1 h40.2 h45]
    cases q : mcQ z pl (cv - 48) 3 with
    | true => rw [if_pos rfl]; exact ⟨⟨fun w => Bool.noConfusion (show false = true from w.2), fun w => by simp at w⟩, fun w => Bool.noConfusion (show false = true from w)⟩
    | false =>
      rw [if_neg (by decide)]
      exact ⟨⟨fun w => by simp; exact ew2.mp w.1, fun w => ⟨ew2.mpr (by simpa using w), rfl⟩⟩, fun _ => ps_M h' hs'⟩
  · have hne : ¬ tx (2 * t + 1) = 45 := by rw [ej]; exact fun q => absurd ((nI_eq (b := 45) (by omega) (by decide)).mp q) (by omega)
    have etp : tx (2 * t + 1) - 97 = nI (jv - 97) := rd_sub (b := 97) ej (by omega)
    have emm : mmT se tx t (pr, sb, br, fe, fl, x, pl, th, tu, ca) = if rs pr br se (pl * 3 + (jv - 97)) (cv - 48) = 0 then (true, mvS se (pl * 3 + (jv - 97)) (cv - 48) (nI (cv - 48)) pr sb br fe fl x pl tu (ca + 1)) else (false, (pr, sb, br, fe, fl, x, pl, th, tu, ca)) := by
      rw [mmT, ecl, if_neg hne, etp, mmS, if_neg (nI_neg (by omega) (by decide)), nI_clamp (by omega)]
    have er : rs pr br se (pl * 3 + (jv - 97)) (cv - 48) = mwn z (3 * pl + (jv - 97)) (cv - 48) := by rw [Nat.mul_comm pl 3]; exact rs_M hp.1 hp.2.1 hp.2.2 hr.1 hs.1 (by omega) (by omega)
    rw [emm, er, rdG_m hv1 hv2 ev h40.1 h40.2 hj1 hj2 ej, rdZ_m hv1 hv2 ev h40.1 h40.2 hj1 hj2 ej]
    by_cases q : mwn z (3 * pl + (jv - 97)) (cv - 48) = 0
    · rw [if_pos q]
      exact ⟨⟨fun w => by simp [q]; exact ew2.mp w.1, fun w => ⟨ew2.mpr (by simp [q] at w; exact w), rfl⟩⟩, fun _ => (mv_M h' hs' (by omega) (by omega) (by rw [mwn_dc (by omega)]; exact q)).1⟩
    · rw [if_neg q]
      exact ⟨⟨fun w => Bool.noConfusion (show false = true from w.2), fun w => by simp [q] at w⟩, fun w => Bool.noConfusion (show false = true from w)⟩
theorem rx_M {se tx z : IA} {g : GS} {ln : Nat} (h : RG g z) (hs : RS se z) (hl : ln ≤ 60) (hff : ffM tx ln < 0) : ∀ t, 2 * t ≤ ln → (RG (rxS se tx g t).1 (rdS tx z t).1 ∧ RS se (rdS tx z t).1) ∧ (rxS se tx g t).2 = (rdS tx z t).2
  | 0, _ => ⟨⟨h, hs⟩, rfl⟩
  | t + 1, ht => by
    obtain ⟨⟨i1, i2⟩, i3⟩ := rx_M h hs hl hff t (by omega)
    obtain ⟨m1, m2⟩ := mm_M (t := t) i1 i2 (rd_ch hl hff (by omega))
    rw [rxS, rdS, i3]
    by_cases q : ((rdS tx z t).2.2 = true ∧ wi (rxS se tx g t).1.1 = -6) ∧ (mmT se tx t (rxS se tx g t).1).1 = true
    · rw [if_pos q, if_pos ⟨q.1.1, m1.mp ⟨q.1.2, q.2⟩⟩]
      exact ⟨m2 q.2, rfl⟩
    · rw [if_neg q, if_neg (fun w => q ⟨⟨w.1, (m1.mpr w.2).1⟩, (m1.mpr w.2).2⟩)]
      exact ⟨⟨i1, i2⟩, rfl⟩
