-- ===== class and reference: what moves do =====
def fz (z : IA) (b : Nat) : Prop := (z (24 + b) = 0 ∨ z (24 + b) = 1) ∧ (z (24 + b) = 1 → ¬ z (28 + b) = 1)
def RP (pr z : IA) : Prop := (∀ k, k < 12 → pr k = z k) ∧ (∀ k, k < 12 → okv (z k)) ∧ EX z
def RT (sb z : IA) : Prop := (∀ k, k < 12 → sb k = z (12 + k)) ∧ z 44 = sumI sb 12
def RR (br fe : IA) (fl : Int32) (z : IA) : Prop := (∀ b, b < 4 → br b = brz z b) ∧ (∀ b, b < 4 → fz z b) ∧ (∀ b, b < 4 → fe b = z (32 + b)) ∧ fl = z 45
def RS (se z : IA) : Prop := se 0 = z 36 ∧ se 1 = z 37 ∧ se 2 = z 38 ∧ ¬ z 37 < 0
def RG : GS → IA → Prop
  | (pr, sb, br, fe, fl, x, pl, th, tu, ca), z => RP pr z ∧ RT sb z ∧ RR br fe fl z ∧ (x = z 39 ∧ ¬ x < 0) ∧ (z 40 = nI pl ∧ pl < 4) ∧ (th = z 41 ∧ okc th) ∧ tu = z 42 ∧ ca = z 43
theorem EX_c {y z : IA} (h : ∀ k, k < 12 → y k = z k) (hx : EX z) : EX y := fun j k hj hk hjk hf => by
  rw [h j hj] at hf ⊢
  rw [h k hk]
  exact hx j k hj hk hjk hf
theorem RP_c {pr y z : IA} (h : ∀ k, k < 12 → y k = z k) (hx : RP pr z) : RP pr y :=
  ⟨fun k hk => by rw [h k hk]; exact hx.1 k hk, fun k hk => by rw [h k hk]; exact hx.2.1 k hk, EX_c h hx.2.2⟩
theorem RT_c {sb y z : IA} (h : ∀ k, k < 12 → y (12 + k) = z (12 + k)) (h2 : y 44 = z 44) (hx : RT sb z) : RT sb y :=
  ⟨fun k hk => by rw [h k hk]; exact hx.1 k hk, by rw [h2]; exact hx.2⟩
theorem RR_c {br fe y z : IA} {fl : Int32} (h : ∀ k, k < 12 → y (24 + k) = z (24 + k)) (h2 : y 45 = z 45) (hx : RR br fe fl z) : RR br fe fl y := by
  refine ⟨fun b hb => ?_, fun b hb => ?_, fun b hb => ?_, ?_⟩
  · have e1 := h b (by omega)
    have e2 := h (4 + b) (by omega)
    rw [show 24 + (4 + b) = 28 + b by omega] at e2
    rw [hx.1 b hb, brz, brz, e1, e2]
  · have e1 := h b (by omega)
    have e2 := h (4 + b) (by omega)
    rw [show 24 + (4 + b) = 28 + b by omega] at e2
    have := hx.2.1 b hb
    rw [fz] at this ⊢
    rw [e1, e2]; exact this
  · have e2 := h (8 + b) (by omega)
    rw [show 24 + (8 + b) = 32 + b by omega] at e2
    rw [e2]; exact hx.2.2.1 b hb
  · rw [h2]; exact hx.2.2.2
theorem RS_c {se y z : IA} (h : ∀ k, 36 ≤ k → k < 39 → y k = z k) (hx : RS se z) : RS se y := by
  rw [RS, h 36 (by decide) (by decide), h 37 (by decide) (by decide), h 38 (by decide) (by decide)]; exact hx
-- who has won
theorem wi_M {pr z : IA} (h : ∀ k, k < 12 → pr k = z k) : wi pr = mwi z := by
  rw [wi, mwi]
  refine low_congr 4 0 fun p _ hp => ?_
  rw [wiP, mwP, ho, mho]
  have : cnt (hoP pr p) 3 = cnt (mhP z p) 3 := cnt_congr 3 fun j hj => by
    rw [hoP, mhP, h _ (by omega), Nat.mul_comm p 3]
  rw [this]
theorem mwi_lt {z : IA} : mwi z < 0 ↔ mwi z = -6 := by
  rcases low_ok (mwP z) 4 0 with e | ⟨b, _, hb, e, _⟩
  · exact ⟨fun _ => e, fun q => by rw [q]; decide⟩
  · constructor
    · intro q; rw [mwi, e] at q; exact absurd q (nI_pos (by omega))
    · intro q; rw [q]; decide
-- the best piece
theorem wo_int {d : Nat} {v : Int32} (hd : d ≤ 3) (hv : okv v) : (nI (100 * d) + v).toInt = 100 * (d : Int) + v.toInt := by
  rcases hv with rfl | ⟨a, ha, rfl⟩
  · rcases (show d = 0 ∨ d = 1 ∨ d = 2 ∨ d = 3 by omega) with rfl | rfl | rfl | rfl <;> decide
  · rw [nI_add, nI_toInt (by omega), nI_toInt (by omega)]; omega
def ph (v : Int32) : Int32 := if v = -6 then 0 else v + 1
theorem rk_int {d : Nat} {v : Int32} (hd : d ≤ 3) (hv : okv v) : (100 * nI d + ph v).toInt = 100 * (d : Int) + (if v.toInt = -6 then 0 else v.toInt + 1) := by
  rcases hv with rfl | ⟨a, ha, rfl⟩
  · rcases (show d = 0 ∨ d = 1 ∨ d = 2 ∨ d = 3 by omega) with rfl | rfl | rfl | rfl <;> decide
  · rw [ph, if_neg (nI_neg (by omega) (by decide)), show (100 : Int32) = nI 100 from rfl, pk_mul, nI_1, nI_add, nI_toInt (by omega), nI_toInt (by omega), if_neg (by omega)]; omega
theorem wr_le {d d' : Nat} {v v' : Int32} (hd : d ≤ 3) (hd' : d' ≤ 3) (hv : okv v) (hv' : okv v') : nI (100 * d) + v ≤ nI (100 * d') + v' ↔ 100 * nI d + ph v ≤ 100 * nI d' + ph v' := by
  have r : ∀ u, okv u → u.toInt = -6 ∨ (0 ≤ u.toInt ∧ u.toInt ≤ 35) := fun u hu => by
    rcases hu with rfl | ⟨a, ha, rfl⟩
    · exact Or.inl (by decide)
    · rw [nI_toInt (by omega)]; exact Or.inr (by omega)
  have a := r v hv
  have b := r v' hv'
  rw [Int32.le_iff_toInt_le, Int32.le_iff_toInt_le, wo_int hd hv, wo_int hd' hv', rk_int hd hv, rk_int hd' hv']
  by_cases h1 : v.toInt = -6 <;> by_cases h2 : v'.toInt = -6 <;> simp only [h1, h2, if_true, if_false] <;> omega
theorem mpc_6 {z : IA} {p : Nat} : mpc z p (-6) = 0 := cnt_zero 3 fun k _ => by rw [mpP]; exact decide_eq_false (fun w => w.1 n6)
theorem wo_kd {pr br z : IA} {pl j cn : Nat} (hp : RP pr z) (hb : ∀ b, b < 4 → br b = brz z b) (hpl : pl < 4) (hj : j < 3) (h1 : 1 ≤ cn) (hne : ¬ tgtM z pl (z (3 * pl + j)) cn = -6) :
    ∃ d : Nat, d ≤ 3 ∧ kdM z (3 * pl + j) cn = nI d ∧ wo pr br pl (3 * pl + j) cn = nI (100 * d) + z (3 * pl + j) := by
  obtain ⟨hz, hv, hx⟩ := hp
  obtain ⟨t, ht, et, hnt⟩ := tgtM_ne (hv (3 * pl + j) (by omega)) h1 hne
  rw [kdM, kdG, wo, hz _ (by omega), tgt_M hb hpl, show (3 * pl + j) / 3 = pl by omega, et, rv_v hz hpl]
  have h35 : nI t = 35 ↔ t = 35 := nI_eq (b := 35) (by omega) (by decide)
  by_cases q1 : t = 35
  · exact ⟨3, by decide, by rw [if_pos (h35.mpr q1)]; rfl, by rw [if_pos (h35.mpr q1)]; rfl⟩
  rw [if_neg (fun w => q1 (h35.mp w)), if_neg (fun w => q1 (h35.mp w))]
  by_cases q2 : rvM z pl (rf pl (nI t)) = 0
  · rw [if_neg (fun w => w ((ot_lt (rf_okf _ hpl)).mpr q2)), if_neg (show ¬ 0 < rvM z pl (rf pl (nI t)) by omega)]
    by_cases q3 : t < 32
    · have e3 : mt pr (3 * pl + j) (nI t) = mow z pl t := by
        have := mt_mow (t := t) hz (show 3 * pl + j < 12 by omega) (by omega) hnt
        rwa [show (3 * pl + j) / 3 = pl by omega] at this
      have e4 : onr (nI t) = true := by rw [onr]; exact decide_eq_true ⟨nI_pos (by omega), nI_ge (b := 32) q3 (by decide)⟩
      rw [mpc_mow hv hpl q3, e3]
      by_cases q4 : 0 < mow z pl t
      · exact ⟨1, by decide, by rw [if_pos q4]; rfl, by rw [if_pos ⟨e4, q4⟩]; rfl⟩
      · exact ⟨0, by decide, by rw [if_neg q4]; rfl, by rw [if_neg (fun w => q4 w.2)]; rfl⟩
    · have e4 : ¬ onr (nI t) = true := by rw [onr, decide_eq_true_eq]; exact fun w => w.2 (nI_le (a := 32) (by omega) (by omega))
      rw [rf_far (by omega) (by omega), mpc_6]
      exact ⟨0, by decide, by rw [if_neg (by decide)]; rfl, by rw [if_neg (fun w => e4 w.1)]; rfl⟩
  · exact ⟨2, by decide, by rw [if_pos (fun w => q2 ((ot_lt (rf_okf _ hpl)).mp w))]; rfl, by rw [if_pos (show 0 < rvM z pl (rf pl (nI t)) by omega)]; rfl⟩
theorem mwn_tgt {z : IA} {k cn : Nat} (h : mwn z k cn = 0) : ¬ tgtM z (k / 3) (z k) cn = -6 := by
  intro q
  rw [mwn] at h
  split at h
  · cases h
  · split at h
    · cases h
    · first | cases h | (rw [if_pos q] at h; cases h)
theorem bp_rel {pr br se z : IA} {pl cn : Nat} (hp : RP pr z) (hb : ∀ b, b < 4 → br b = brz z b) (hs : se 0 = z 36) (hpl : pl < 4) (h1 : 1 ≤ cn) : ∀ n, n ≤ 3 →
    ((bpS pr br se pl cn n).1 = -6 ∧ (bpT z pl cn n).1 = -6) ∨ ∃ j d : Nat, j < n ∧ d ≤ 3 ∧ (bpS pr br se pl cn n).1 = nI (pl * 3 + j) ∧ (bpT z pl cn n).1 = nI j ∧ (bpS pr br se pl cn n).2 = nI (100 * d) + z (3 * pl + j) ∧ (bpT z pl cn n).2 = 100 * nI d + ph (z (3 * pl + j))
  | 0, _ => Or.inl ⟨rfl, rfl⟩
  | n + 1, hn => by
    have ih := bp_rel hp hb hs hpl h1 n (by omega)
    have er : rs pr br se (pl * 3 + n) cn = mwn z (3 * pl + n) cn := by rw [Nat.mul_comm pl 3]; exact rs_M hp.1 hp.2.1 hp.2.2 hb hs (by omega) h1
    rw [bpS, bpT, er]
    by_cases q : mwn z (3 * pl + n) cn = 0
    · have hne := mwn_tgt q
      rw [show (3 * pl + n) / 3 = pl by omega] at hne
      obtain ⟨d, hd, ek, ew⟩ := wo_kd (pr := pr) (br := br) hp hb hpl (show n < 3 by omega) h1 hne
      have ek2 : rkM z (3 * pl + n) cn = 100 * nI d + ph (z (3 * pl + n)) := by rw [rkM, ek, ph]
      have ew2 : wo pr br pl (pl * 3 + n) cn = nI (100 * d) + z (3 * pl + n) := by rw [Nat.mul_comm pl 3]; exact ew
      rw [ew2, ek2]
      rcases ih with ⟨a1, a2⟩ | ⟨j, d', hj, hd', a1, a2, a3, a4⟩
      · rw [if_pos ⟨q, Or.inl a1⟩, if_pos ⟨q, Or.inl (by rw [a2]; exact n6)⟩]
        exact Or.inr ⟨n, d, by omega, hd, rfl, rfl, rfl, rfl⟩
      · have w := wr_le (v := z (3 * pl + n)) (v' := z (3 * pl + j)) hd hd' (hp.2.1 _ (by omega)) (hp.2.1 _ (by omega))
        rw [a3, a4]
        by_cases q2 : nI (100 * d) + z (3 * pl + n) ≤ nI (100 * d') + z (3 * pl + j)
        · rw [if_neg (fun z => z.2.elim (fun e => nI_neg (by omega) (by decide) (a1.symm.trans e)) (fun e => e q2)), if_neg (fun z => z.2.elim (fun e => by rw [a2] at e; exact nI_pos (by omega) e) (fun e => e (w.mp q2)))]
          exact Or.inr ⟨j, d', by omega, hd', a1, a2, a3, a4⟩
        · rw [if_pos ⟨q, Or.inr q2⟩, if_pos ⟨q, Or.inr (fun e => q2 (w.mpr e))⟩]
          exact Or.inr ⟨n, d, by omega, hd, rfl, rfl, rfl, rfl⟩
    · rw [if_neg (fun z => q z.1), if_neg (fun z => q z.1)]
      rcases ih with a | ⟨j, d', hj, a⟩
      · exact Or.inl a
      · exact Or.inr ⟨j, d', by omega, a⟩
theorem bp_M {pr br se z : IA} {pl cn : Nat} (hp : RP pr z) (hb : ∀ b, b < 4 → br b = brz z b) (hs : se 0 = z 36) (hpl : pl < 4) (h1 : 1 ≤ cn) : (bp pr br se pl cn = -6 ∧ bpM z pl cn = -6) ∨ ∃ j, j < 3 ∧ bp pr br se pl cn = nI (pl * 3 + j) ∧ bpM z pl cn = nI j := by
  rcases bp_rel hp hb hs hpl h1 3 (Nat.le_refl 3) with a | ⟨j, d, hj, _, a1, a2, _⟩
  · exact Or.inl a
  · exact Or.inr ⟨j, hj, a1, a2⟩
theorem cm_M {pr br se z : IA} {pl cn : Nat} (hp : RP pr z) (hb : ∀ b, b < 4 → br b = brz z b) (hs : se 0 = z 36) (hpl : pl < 4) (h1 : 1 ≤ cn) : cmQ pr br se pl cn = mcQ z pl cn 3 := by
  have e : ∀ n, n < 3 → rsP pr br se cn (pl * 3 + n) = mcP z pl cn n := fun n hn => by
    rw [rsP, mcP, Nat.mul_comm pl 3, rs_M hp.1 hp.2.1 hp.2.2 hb hs (by omega) h1]
  have e0 := e 0 (by decide)
  have e1 := e 1 (by decide)
  have e2 := e 2 (by decide)
  rw [Nat.add_zero] at e0
  simp only [cmQ, anyp, mcQ, e0, e1, show pl * 3 + 1 + 1 = pl * 3 + 2 from rfl, e2, Bool.or_false, Bool.false_or, Bool.or_assoc]
-- one that is sent back
theorem srb_at {pr sb : IA} {p : Nat} {f : Int32} : ∀ n j, (srb pr sb p f n).1 j = (if j < n ∧ rvP pr p f j = true then -6 else pr j) ∧ (srb pr sb p f n).2 j = (if j < n ∧ rvP pr p f j = true then sb j + 1 else sb j)
  | 0, j => ⟨by rw [if_neg (fun w => Nat.not_lt_zero j w.1)]; rfl, by rw [if_neg (fun w => Nat.not_lt_zero j w.1)]; rfl⟩
  | n + 1, j => by
    have ih := srb_at (pr := pr) (sb := sb) (p := p) (f := f) n
    have en := (ih n).1
    have en2 := (ih n).2
    rw [if_neg (fun w => Nat.lt_irrefl n w.1)] at en en2
    have er : rvP (srb pr sb p f n).1 p f n = rvP pr p f n := by rw [rvP, rvP, en]
    rw [srb, er]
    by_cases q : rvP pr p f n = true
    · rw [if_pos q]
      show upd _ n (-6) j = _ ∧ upd _ n _ j = _
      by_cases e : j = n
      · subst e
        rw [upd_eq, upd_eq, if_pos ⟨Nat.lt_succ_self j, q⟩, if_pos ⟨Nat.lt_succ_self j, q⟩, en2]
        exact ⟨rfl, rfl⟩
      · rw [upd_ne e, upd_ne e, (ih j).1, (ih j).2]
        by_cases q2 : j < n ∧ rvP pr p f j = true
        · rw [if_pos q2, if_pos q2, if_pos ⟨by omega, q2.2⟩, if_pos ⟨by omega, q2.2⟩]; exact ⟨rfl, rfl⟩
        · rw [if_neg q2, if_neg q2, if_neg (fun w => q2 ⟨by omega, w.2⟩), if_neg (fun w => q2 ⟨by omega, w.2⟩)]; exact ⟨rfl, rfl⟩
    · rw [if_neg q, (ih j).1, (ih j).2]
      by_cases q2 : j < n ∧ rvP pr p f j = true
      · rw [if_pos q2, if_pos q2, if_pos ⟨by omega, q2.2⟩, if_pos ⟨by omega, q2.2⟩]; exact ⟨rfl, rfl⟩
      · have q3 : ¬ (j < n + 1 ∧ rvP pr p f j = true) := fun w => by
          rcases Nat.lt_succ_iff_lt_or_eq.mp w.1 with e | e
          · exact q2 ⟨e, w.2⟩
          · rw [e] at w; exact q w.2
        rw [if_neg q2, if_neg q2, if_neg q3, if_neg q3]; exact ⟨rfl, rfl⟩
theorem sumI_c {f g : IA} : ∀ n, (∀ k, k < n → f k = g k) → sumI f n = sumI g n
  | 0, _ => rfl
  | n + 1, h => by rw [sumI, sumI, sumI_c n (fun k hk => h k (by omega)), h n (by omega)]
theorem sumI_up {f g : IA} {o : Nat} : ∀ n, o < n → (∀ k, k < n → g k = if k = o then f k + 1 else f k) → sumI g n = sumI f n + 1
  | 0, h, _ => absurd h (Nat.not_lt_zero o)
  | n + 1, h, hk => by
    rw [sumI, sumI]
    by_cases e : o = n
    · rw [hk n (by omega), if_pos e.symm, sumI_c n (fun k h2 => by rw [hk k (by omega), if_neg (by omega)]), Int32.add_assoc]
    · rw [hk n (by omega), if_neg (fun w => e w.symm), sumI_up n (by omega) (fun k h2 => hk k (by omega)), Int32.add_assoc, Int32.add_assoc, Int32.add_comm 1 (f n)]
def sdM (z : IA) (p : Nat) (f : Int32) : IA := if ot z p f < 0 then z else sbM z (ot z p f).toNatClampNeg
theorem sbM_at {z : IA} {o j : Nat} (ho : o < 12) (hj : j < 12) : sbM z o j = if j = o then -6 else z j := by
  rw [sbM, upd_ne (by omega), upd_ne (by omega)]; rfl
theorem sbM_12 {z : IA} {o j : Nat} (ho : o < 12) (hj : j < 12) : sbM z o (12 + j) = if j = o then z (12 + j) + 1 else z (12 + j) := by
  rw [sbM, upd_ne (by omega)]
  by_cases e : j = o
  · subst e; rw [upd_eq, upd_ne (by omega), if_pos rfl]
  · rw [upd_ne (by omega), upd_ne (by omega), if_neg e]
theorem sbM_44 {z : IA} {o : Nat} (ho : o < 12) : sbM z o 44 = z 44 + 1 := by
  rw [sbM, upd_eq, upd_ne (by omega), upd_ne (by omega)]
theorem send_M {pr sb z : IA} {p : Nat} {f : Int32} (hp : RP pr z) (ht : RT sb z) (hf : okf f) (h1 : rvM z p f ≤ 1) :
    (RP (srb pr sb p f 12).1 (sdM z p f) ∧ RT (srb pr sb p f 12).2 (sdM z p f)) ∧ (∀ j, 24 ≤ j → ¬ j = 44 → sdM z p f j = z j) ∧ (∀ j, j < 12 → ¬ j / 3 = p → ¬ f < 0 → ¬ rf (j / 3) (sdM z p f j) = f) := by
  obtain ⟨hz, hv, hx⟩ := hp
  have hc : cnt (rvP z p f) 12 = rvM z p f := rv_M (fun _ _ => rfl) hf
  have hpz : ∀ j, j < 12 → rvP pr p f j = rvP z p f j := fun j hj => by rw [rvP, rvP, hz j hj]
  by_cases q : ot z p f < 0
  · have h0 := cnt_0 12 (hc.trans ((ot_lt hf).mp q))
    have es : sdM z p f = z := by rw [sdM, if_pos q]
    rw [es]
    refine ⟨⟨⟨fun k hk => ?_, hv, hx⟩, fun k hk => ?_, ?_⟩, fun _ _ _ => rfl, fun j hj hjp hff e => ?_⟩
    · rw [(srb_at 12 k).1, if_neg (fun w => by have := w.2; rw [hpz k hk, h0 k hk] at this; cases this)]; exact hz k hk
    · rw [(srb_at 12 k).2, if_neg (fun w => by have := w.2; rw [hpz k hk, h0 k hk] at this; cases this)]; exact ht.1 k hk
    · rw [ht.2]; exact sumI_c 12 fun k hk => by
        rw [(srb_at 12 k).2, if_neg (fun w => by have := w.2; rw [hpz k hk, h0 k hk] at this; cases this)]
    · have := h0 j hj; rw [rvP] at this
      exact absurd (decide_eq_true (show ¬ f = -6 ∧ ¬ j / 3 = p ∧ rf (j / 3) (z j) = f from ⟨fun w => hff ((okf_lt hf).mpr w), hjp, e⟩)) (by rw [this]; decide)
  · obtain ⟨o, ho, eo, po⟩ := ot_ok q
    have es : sdM z p f = sbM z o := by rw [sdM, if_neg q, eo, nI_clamp (by omega)]
    rw [ot_rv hf] at po
    have hu : ∀ j, j < 12 → (rvP z p f j = true ↔ j = o) := fun j hj => ⟨fun w => cnt_1 12 (by rw [hc]; exact h1) j o hj ho w po, fun w => by rw [w]; exact po⟩
    have a1 : ∀ j, j < 12 → (srb pr sb p f 12).1 j = sbM z o j := fun j hj => by
      rw [(srb_at 12 j).1, sbM_at ho hj, hpz j hj]
      by_cases e : j = o
      · rw [if_pos ⟨hj, (hu j hj).mpr e⟩, if_pos e]
      · rw [if_neg (fun w => e ((hu j hj).mp w.2)), if_neg e]; exact hz j hj
    have a2 : ∀ j, j < 12 → (srb pr sb p f 12).2 j = if j = o then sb j + 1 else sb j := fun j hj => by
      rw [(srb_at 12 j).2, hpz j hj]
      by_cases e : j = o
      · rw [if_pos ⟨hj, (hu j hj).mpr e⟩, if_pos e]
      · rw [if_neg (fun w => e ((hu j hj).mp w.2)), if_neg e]
    rw [es]
    refine ⟨⟨⟨a1, fun k hk => ?_, fun j k hj hk hjk hff => ?_⟩, fun k hk => ?_, ?_⟩, fun j h24 h44 => sbM_hi ho h24 h44, fun j hj hjp hff e => ?_⟩
    · rw [sbM_at ho hk]; split
      · exact Or.inl rfl
      · exact hv k hk
    · rw [sbM_at ho hj] at hff ⊢
      by_cases e : j = o
      · rw [if_pos e, rf_y] at hff; exact absurd n6 hff
      · rw [if_neg e] at hff ⊢
        rw [sbM_at ho hk]
        by_cases e2 : k = o
        · rw [if_pos e2, rf_y]; intro w; rw [w] at hff; exact hff n6
        · rw [if_neg e2]; exact hx j k hj hk hjk hff
    · rw [a2 k hk, sbM_12 ho hk, ht.1 k hk]
    · rw [sbM_44 ho, ht.2, sumI_up 12 ho a2]
    · rw [sbM_at ho hj] at e
      by_cases e2 : j = o
      · rw [if_pos e2, rf_y] at e; exact hff (by rw [← e]; exact n6)
      · rw [if_neg e2] at e
        exact e2 ((hu j hj).mp (by rw [rvP]; exact decide_eq_true ⟨fun w => hff ((okf_lt hf).mpr w), hjp, e⟩))
/-- a piece is put where no rival stands -/
theorem put_M {pr z : IA} {k : Nat} {v : Int32} (hp : RP pr z) (hk : k < 12) (hv : okv v) (hn : ∀ j, j < 12 → ¬ j / 3 = k / 3 → ¬ rf (k / 3) v < 0 → ¬ rf (j / 3) (z j) = rf (k / 3) v) : RP (upd pr k v) (upd z k v) := by
  refine ⟨fun j hj => ?_, fun j hj => ?_, fun i j hi hj hij hff => ?_⟩
  · rw [upd, upd]; split
    · rfl
    · exact hp.1 j hj
  · rw [upd]; split
    · exact hv
    · exact hp.2.1 j hj
  · by_cases e : i = k
    · subst e
      rw [upd_eq] at hff ⊢
      rw [upd_ne (fun w => hij (by rw [w]))]
      exact fun w => hn j hj (fun w2 => hij w2.symm) hff w.symm
    · rw [upd_ne e] at hff ⊢
      by_cases e2 : j = k
      · subst e2
        rw [upd_eq]
        exact fun w => hn i hi hij (by rw [← w]; exact hff) w
      · rw [upd_ne e2]; exact hp.2.2 i j hi hj hij hff
-- bridges are looked at
theorem look1 {pr br fe y : IA} {fl tu : Int32} {i : Nat} (hi : i < 4) (hp : RP pr y) (hr : RR br fe fl y) (ht : tu = y 42) :
    RR (if br i = 1 ∧ 2 ≤ pcN pr i then (upd br i 2, fe, fl) else if br i = 2 ∧ pcN pr i = 0 then (upd br i 3, upd fe i tu, fl + 1) else (br, fe, fl)).1
      (if br i = 1 ∧ 2 ≤ pcN pr i then (upd br i 2, fe, fl) else if br i = 2 ∧ pcN pr i = 0 then (upd br i 3, upd fe i tu, fl + 1) else (br, fe, fl)).2.1
      (if br i = 1 ∧ 2 ≤ pcN pr i then (upd br i 2, fe, fl) else if br i = 2 ∧ pcN pr i = 0 then (upd br i 3, upd fe i tu, fl + 1) else (br, fe, fl)).2.2 (lk2 (lk1 y i) i) := by
  obtain ⟨hb, hfz, hfe, hfl⟩ := hr
  have hpc : pcN pr i = ao y (nI (8 * i + 4)) 4 := ao_pc hp.1 (nI_pos (by omega))
  have hpr : prO y (nI (8 * i + 4)) 4 = true ↔ 2 ≤ pcN pr i := by rw [hpc]; exact pr_iff hp.2.2
  have hbi := hb i hi
  have hf := hfz i hi
  by_cases q : y (24 + i) = 1
  · have e1 : lk1 y i = y := by rw [lk1, if_neg (fun w => by have := w.1; rw [q] at this; cases this)]
    have e2 : lk2 y i = y := by rw [lk2, if_neg (fun w => hf.2 q w.1)]
    have e3 : br i = 3 := by rw [hbi]; exact brz_3.mpr q
    rw [e1, e2, if_neg (fun w => by have := w.1; rw [e3] at this; cases this), if_neg (fun w => by have := w.1; rw [e3] at this; cases this)]
    exact ⟨hb, hfz, hfe, hfl⟩
  have q0 : y (24 + i) = 0 := hf.1.resolve_right q
  by_cases q2 : y (28 + i) = 1
  · have e1 : lk1 y i = y := by
      rw [lk1]; split
      · rw [← q2]; exact upd_self
      · rfl
    have e3 : br i = 2 := by rw [hbi]; exact brz_2.mpr ⟨q, q2⟩
    rw [e1, if_neg (fun w => by have := w.1; rw [e3] at this; cases this)]
    by_cases q3 : pcN pr i = 0
    · rw [if_pos ⟨e3, q3⟩, lk2, if_pos ⟨q2, by rw [← hpc]; exact q3⟩]
      refine ⟨fun b hb4 => ?_, fun b hb4 => ?_, fun b hb4 => ?_, ?_⟩
      · show upd br i 3 b = _
        by_cases e : b = i
        · subst e
          rw [upd_eq]; exact (brz_3.mpr (by rw [upd_ne (by omega), upd_ne (by omega), upd_eq])).symm
        · rw [upd_ne e, hb b hb4, brz, brz, upd_ne (by omega), upd_ne (by omega), upd_ne (by omega), upd_ne (by omega), upd_ne (by omega), upd_ne (by omega), upd_ne (by omega), upd_ne (by omega)]
      · rw [fz]
        by_cases e : b = i
        · subst e
          rw [upd_ne (by omega), upd_ne (by omega), upd_eq, upd_ne (by omega), upd_ne (by omega), upd_ne (by omega), upd_eq]
          exact ⟨Or.inr rfl, fun _ => by decide⟩
        · rw [upd_ne (by omega), upd_ne (by omega), upd_ne (by omega), upd_ne (by omega), upd_ne (by omega), upd_ne (by omega), upd_ne (by omega), upd_ne (by omega)]
          exact hfz b hb4
      · show upd fe i tu b = _
        by_cases e : b = i
        · subst e
          rw [upd_eq, upd_ne (by omega), upd_eq, upd_ne (by omega), upd_ne (by omega), ht]
        · rw [upd_ne e, upd_ne (by omega), upd_ne (by omega), upd_ne (by omega), upd_ne (by omega), hfe b hb4]
      · show fl + 1 = _
        rw [upd_eq, upd_ne (by omega), upd_ne (by omega), upd_ne (by omega), hfl]
    · rw [if_neg (fun w => q3 w.2), lk2, if_neg (fun w => q3 (by rw [hpc]; exact w.2))]
      exact ⟨hb, hfz, hfe, hfl⟩
  · have e3 : br i = 1 := by rw [hbi]; exact brz_1.mpr ⟨q, q2⟩
    by_cases q3 : 2 ≤ pcN pr i
    · have e1 : lk1 y i = upd y (28 + i) 1 := by rw [lk1, if_pos ⟨q0, hpr.mpr q3⟩]
      have e4 : ao (upd y (28 + i) 1) (nI (8 * i + 4)) 4 = pcN pr i := by
        rw [pcN]; exact (ao_pc (fun k hk => by rw [upd_ne (by omega)]; exact hp.1 k hk) (nI_pos (by omega))).symm
      rw [if_pos ⟨e3, q3⟩, e1, lk2, if_neg (fun w => by have := w.2; rw [e4] at this; omega)]
      refine ⟨fun b hb4 => ?_, fun b hb4 => ?_, fun b hb4 => ?_, ?_⟩
      · show upd br i 2 b = _
        by_cases e : b = i
        · subst e
          rw [upd_eq]; exact (brz_2.mpr ⟨by rw [upd_ne (by omega)]; exact q, by rw [upd_eq]⟩).symm
        · rw [upd_ne e, hb b hb4, brz, brz, upd_ne (by omega), upd_ne (by omega)]
      · rw [fz, upd_ne (by omega)]
        by_cases e : b = i
        · subst e; exact ⟨Or.inl q0, fun w => absurd w q⟩
        · rw [upd_ne (by omega)]; exact hfz b hb4
      · show fe b = _
        rw [upd_ne (by omega)]; exact hfe b hb4
      · show fl = _
        rw [upd_ne (by omega)]; exact hfl
    · have e1 : lk1 y i = y := by rw [lk1, if_neg (fun w => q3 (hpr.mp w.2))]
      have e2 : lk2 y i = y := by rw [lk2, if_neg (fun w => q2 w.1)]
      rw [e1, e2, if_neg (fun w => q3 w.2), if_neg (fun w => by have := w.1; rw [e3] at this; cases this)]
      exact ⟨hb, hfz, hfe, hfl⟩
theorem look_M {pr br fe z : IA} {fl tu : Int32} (hp : RP pr z) (hr : RR br fe fl z) (ht : tu = z 42) : ∀ i, i ≤ 4 → RR (sf pr tu br fe fl i).1 (sf pr tu br fe fl i).2.1 (sf pr tu br fe fl i).2.2 (lk z i)
  | 0, _ => hr
  | i + 1, hi => by
    have ih := look_M hp hr ht i (by omega)
    have := look1 (tu := tu) (i := i) (by omega) (RP_c (fun k hk => lk_lo (by omega) i) hp) ih (by rw [lk_hi (by decide) (by decide) i (by omega)]; exact ht)
    rw [sf, lk]
    exact this
-- bridges are mended
theorem md_M {br fe z : IA} {fl tu me : Int32} (hr : RR br fe fl z) (ht : tu = z 42) (hm : me = z 37) (h0 : ¬ z 37 < 0) : ∀ i, i ≤ 4 → RR (md fe tu me br i) fe fl (mend z i)
  | 0, _ => hr
  | i + 1, hi => by
    have ih := md_M hr ht hm h0 i (by omega)
    obtain ⟨hb, hfz, hfe, hfl⟩ := ih
    obtain ⟨n, hn, e37⟩ := nI_of h0
    have e0 : ¬ me = 0 ↔ ¬ mend z i 37 ≤ 0 := by
      rw [mend_ne (Or.inr (by omega)) i (by omega), hm, e37]
      exact not_congr ((nI_eq (b := 0) hn (by decide)).trans (by rw [show (0 : Int32) = nI 0 from rfl, nI_leI hn (by decide)]; omega))
    have ec : ((md fe tu me br i) i = 3 ∧ ¬ me = 0 ∧ ¬ tu - fe i < me) ↔ (mend z i (24 + i) = 1 ∧ ¬ mend z i 37 ≤ 0 ∧ ¬ mend z i 42 - mend z i (32 + i) < mend z i 37) := by
      rw [hb i (by omega), brz_3, e0, hfe i (by omega), mend_ne (j := 42) (Or.inr (by omega)) i (by omega), mend_ne (j := 37) (Or.inr (by omega)) i (by omega), ht, hm]
    rw [md, mend]
    by_cases q : (md fe tu me br i) i = 3 ∧ ¬ me = 0 ∧ ¬ tu - fe i < me
    · rw [if_pos q, if_pos (ec.mp q)]
      have q1 := (ec.mp q).1
      refine ⟨fun b hb4 => ?_, fun b hb4 => ?_, fun b hb4 => ?_, ?_⟩
      · by_cases e : b = i
        · subst e
          rw [upd_eq]; exact (brz_1.mpr ⟨by rw [upd_eq]; decide, by rw [upd_ne (by omega)]; exact (hfz b hb4).2 q1⟩).symm
        · rw [upd_ne e, hb b hb4, brz, brz, upd_ne (by omega), upd_ne (by omega)]
      · rw [fz]
        by_cases e : b = i
        · subst e; rw [upd_eq]; exact ⟨Or.inl rfl, fun w => absurd w (by decide)⟩
        · rw [upd_ne (by omega), upd_ne (by omega)]; exact hfz b hb4
      · rw [upd_ne (by omega)]; exact hfe b hb4
      · rw [upd_ne (by omega)]; exact hfl
    · rw [if_neg q, if_neg (fun w => q (ec.mpr w))]; exact ⟨hb, hfz, hfe, hfl⟩
