-- ===== class and reference: the questions =====
def RC : GC → IA → Prop
  | (pr, sb, br, fe, se, fl, x, pl, th, tu, ca), z => RG (pr, sb, br, fe, fl, x, pl, th, tu, ca) z ∧ RS se z
theorem RC_iff {pr sb br fe se z : IA} {fl x th tu ca : Int32} {pl : Nat} : RC (pr, sb, br, fe, se, fl, x, pl, th, tu, ca) z ↔ RG (pr, sb, br, fe, fl, x, pl, th, tu, ca) z ∧ RS se z := Iff.rfl
theorem lt_succ {v : Int32} {h : Nat} (hh : h + 1 < 2 ^ 31) : v < nI (h + 1) ↔ ¬ nI h < v := by
  rw [Int32.lt_iff_toInt_lt, Int32.lt_iff_toInt_lt, nI_toInt hh, nI_toInt (by omega)]; omega
theorem inQ_lt {v : Int32} {h : Nat} (hh : h + 1 < 2 ^ 31) : (v < 0 ∨ ¬ v < nI (h + 1)) ↔ ¬ inQ v 0 (nI h) = true := by
  rw [lt_succ hh, inQ, decide_eq_true_eq, Decidable.not_not]
  constructor
  · intro h w; exact h.elim w.1 w.2
  · intro h; by_cases q : v < 0
    · exact Or.inl q
    · exact Or.inr (Decidable.byContradiction fun w => h ⟨q, w⟩)
theorem inQ_le {v lo hi : Int32} : (v < lo ∨ ¬ v ≤ hi) ↔ ¬ inQ v lo hi = true := by
  rw [← Int32.not_lt, inQ, decide_eq_true_eq, Decidable.not_not]
  constructor
  · intro h w; exact h.elim w.1 w.2
  · intro h; by_cases q : v < lo
    · exact Or.inl q
    · exact Or.inr (Decidable.byContradiction fun w => h ⟨q, w⟩)
theorem in11 {k : Int32} : (k < 0 ∨ ¬ k < 12) ↔ ¬ inQ k 0 11 = true := inQ_lt (h := 11) (by decide)
theorem in31' {k : Int32} : (k < 0 ∨ ¬ k < 32) ↔ ¬ inQ k 0 31 = true := inQ_lt (h := 31) (by decide)
theorem in2' {k : Int32} : (k < 0 ∨ ¬ k < 3) ↔ ¬ inQ k 0 2 = true := inQ_lt (h := 2) (by decide)
theorem in1' {k : Int32} : (k < 0 ∨ ¬ k < 2) ↔ ¬ inQ k 0 1 = true := inQ_lt (h := 1) (by decide)
theorem cnt_more {P Q : Nat → Bool} {i : Nat} : ∀ n, i < n → P i = false → Q i = true → (∀ j, j < n → ¬ j = i → P j = Q j) → cnt Q n = cnt P n + 1
  | 0, h, _, _, _ => absurd h (Nat.not_lt_zero i)
  | n + 1, h, hP, hQ, hj => by
    rw [cnt, cnt]
    by_cases e : i = n
    · rw [← e, hP, hQ, cnt_congr i (fun k hk => (hj k (by omega) (by omega)).symm)]; rfl
    · rw [cnt_more n (by omega) hP hQ (fun j h1 h2 => hj j (by omega) h2), hj n (by omega) (fun w => e w.symm)]; omega
theorem mow_mt {pr z : IA} {k a : Nat} (hz : ∀ k, k < 12 → pr k = z k) (hk : k < 12) (ha : a < 35) (e : z k = nI a) : mow z (k / 3) a = mt pr k (nI a) + 1 := by
  refine cnt_more (i := k % 3) 3 (Nat.mod_lt _ (by decide)) ?_ ?_ fun j hj hne => ?_
  · rw [mtP]; exact decide_eq_false (fun w => w.1 (by omega))
  · rw [moP, show 3 * (k / 3) + k % 3 = k by omega]; exact decide_eq_true ⟨e, ha⟩
  · rw [mtP, moP, hz _ (by omega), show k - k % 3 + j = 3 * (k / 3) + j by omega]
    exact decide_eq_decide.mpr ⟨fun w => ⟨w.2, ha⟩, fun w => ⟨by omega, w.1⟩⟩
theorem pair_M {pr z : IA} {k : Nat} (hp : RP pr z) (hk : k < 12) : pairQ pr k = true ↔ 1 < mpc z (k / 3) (rf (k / 3) (z k)) := by
  rw [pairQ, decide_eq_true_eq, hp.1 k hk, onr, decide_eq_true_eq]
  rcases hp.2.1 k hk with e | ⟨a, ha, e⟩
  · rw [e, rf_y, mpc_6]; exact ⟨fun w => absurd n6 w.1.1, fun w => absurd w (by decide)⟩
  · rw [e]
    by_cases q : a < 32
    · rw [mpc_mow hp.2.1 (by omega) q, mow_mt hp.1 hk (by omega) e]
      exact ⟨fun w => by have := w.2; omega, fun w => ⟨⟨nI_pos (by omega), nI_ge (b := 32) q (by decide)⟩, by omega⟩⟩
    · rw [rf_far (by omega) (by omega), mpc_6]
      exact ⟨fun w => absurd (nI_le (a := 32) (b := a) (by omega) (by omega)) w.1.2, fun w => absurd w (by decide)⟩
theorem np_ok' {k : Int32} (h : inQ k 0 11 = true) : ∃ j : Nat, j < 12 ∧ k = nI j := by
  obtain ⟨j, _, hj, e⟩ := inQ_nI (lo := 0) (hi := 11) (by decide) (by decide) h
  exact ⟨j, by omega, e⟩
theorem q_piece {pr sb z : IA} (k w : Int32) (hp : RP pr z) (ht : RT sb z) : p_piece k w pr sb = m_piece k w z := by
  rw [p_piece, m_piece]
  by_cases q : inQ k 0 11 = true
  · rw [if_neg (fun w => in11.mp w q), if_neg (show ¬ ¬ inQ k 0 11 = true from fun w => w q)]
    obtain ⟨j, hj, rfl⟩ := np_ok' q
    rw [nI_clamp (by omega), hp.1 j hj, ht.1 j hj]
    by_cases q2 : pairQ pr j = true
    · rw [if_pos q2, if_pos ((pair_M hp hj).mp q2)]
    · rw [if_neg q2, if_neg (fun w => q2 ((pair_M hp hj).mpr w))]
  · rw [if_pos (in11.mpr q), if_pos q]
theorem fset_M {br fe z : IA} {fl : Int32} (hr : RR br fe fl z) : fset br 4 = fbM z 4 := by
  have s : ∀ n, n < 4 → fset br n = fbM z n → fset br (n + 1) = fbM z (n + 1) := fun n hn ih => by
    rw [fset, fbM, ih, hr.1 n hn]
    by_cases q : z (24 + n) = 1
    · rw [if_pos (brz_3.mpr q), q]
    · rw [if_neg (fun w => q (brz_3.mp w)), (hr.2.1 n hn).1.resolve_right q]
      have e0 : (0 : Int32) <<< (nI n &&& 31) = 0 := by
        rcases (show n = 0 ∨ n = 1 ∨ n = 2 ∨ n = 3 by omega) with rfl | rfl | rfl | rfl <;> decide
      rw [e0, Int32.or_zero]
  exact s 3 (by decide) (s 2 (by decide) (s 1 (by decide) (s 0 (by decide) rfl)))
theorem ho_M {pr z : IA} {p : Nat} (hz : ∀ k, k < 12 → pr k = z k) (hp : p < 4) : ho pr p = mho z p := cnt_congr 3 fun j hj => by
  rw [hoP, mhP, hz _ (by omega), Nat.mul_comm p 3]
theorem tum_M {br fe se z : IA} {fl tu : Int32} {a : Nat} (hr : RR br fe fl z) (hs : RS se z) (ht : tu = z 42) (ha : a < 32) : tum br fe se tu (nI a) = mdM z a := by
  have h1 : ¬ nI a < 0 := nI_pos (by omega)
  have h2 : ¬ (32 : Int32) ≤ nI a := nI_ge (b := 32) ha (by decide)
  rw [tum, mdM]
  by_cases q : a % 8 = 4
  · have e : bo (nI a) = nI (a / 8) := by
      rw [bo, if_neg h1, if_neg h2, if_pos (show jr (nI a) 8 = 4 from (jr8 (b := 4) (by omega) (by decide)).mpr q)]
      exact pk_div (a := a) (d := 8) (by omega) (by decide) (by decide)
    rw [e, if_neg (nI_neg (by omega) (by decide)), nI_clamp (by omega), hr.1 _ (by omega), hr.2.2.1 _ (by omega), hs.2.1, ht]
    have em : mfa z (nI a) = true ↔ z (24 + a / 8) = 1 := by
      rw [mfa, decide_eq_true_eq, nI_clamp (by omega)]
      exact ⟨fun w => w.2.2, fun w => ⟨h1, (jr8 (b := 4) (by omega) (by decide)).mpr q, w⟩⟩
    by_cases q2 : z (24 + a / 8) = 1
    · rw [if_neg (fun w => w (brz_3.mpr q2))]
      by_cases q3 : z 37 = 0
      · rw [if_pos q3, if_pos (Or.inr q3)]
      · have hm : ¬ (¬ mfa z (nI a) = true ∨ z 37 = 0) := fun w => w.elim (fun v => v (em.mpr q2)) q3
        rw [if_neg q3, if_neg hm, mdE]
        by_cases q4 : (1 : Int32) < z 37 - (z 42 - z (32 + a / 8))
        · rw [if_pos q4, if_pos (Int32.le_of_lt q4)]
        · rw [if_neg q4]
          by_cases q5 : (1 : Int32) ≤ z 37 - (z 42 - z (32 + a / 8))
          · rw [if_pos q5]
            exact Int32.le_antisymm q5 (Int32.not_lt.mp q4)
          · rw [if_neg q5]
    · rw [if_pos (fun w => q2 (brz_3.mp w)), if_pos (Or.inl fun w => q2 (em.mp w))]
  · have e : bo (nI a) = -6 := by rw [bo, if_neg h1, if_neg h2, if_neg (show ¬ jr (nI a) 8 = 4 from fun z => q ((jr8 (b := 4) (by omega) (by decide)).mp z))]
    rw [e, if_pos rfl, if_pos (Or.inl fun w => by rw [mfa, decide_eq_true_eq] at w; exact q ((jr8 (b := 4) (by omega) (by decide)).mp w.2.1))]
theorem q_field {pr br fe se z : IA} {fl tu : Int32} (f w : Int32) (hp : RP pr z) (hr : RR br fe fl z) (hs : RS se z) (ht : tu = z 42) : p_field f w pr br fe se tu = m_field f w z := by
  rw [p_field, m_field]
  by_cases q : inQ f 0 31 = true
  · rw [if_neg (fun w => in31'.mp w q), if_neg (show ¬ ¬ inQ f 0 31 = true from fun w => w q)]
    obtain ⟨a, _, ha, rfl⟩ := inQ_nI (lo := 0) (hi := 31) (by decide) (by decide) q
    have h1 : ¬ nI a < 0 := nI_pos (by omega)
    have e2 : low (pcP pr (nI a)) 0 12 = low (pcP z (nI a)) 0 12 := low_congr 12 0 fun k _ hk => by rw [pcP, pcP, hp.1 k (by omega)]
    have e3 : isf (nI a) = true ↔ jr (nI a) 8 = 0 := by rw [isf, decide_eq_true_eq]; exact ⟨fun w => w.2, fun w => ⟨h1, w⟩⟩
    have e4 : bs br (nI a) = bsM z a := by
      rw [bs_nI (by omega), bsM]
      by_cases q : a % 8 = 4
      · rw [if_pos q, if_neg (fun w => w ((jr8 (b := 4) (by omega) (by decide)).mpr q)), hr.1 _ (by omega), brz]
      · rw [if_neg q, if_pos (show ¬ jr (nI a) 8 = 4 from fun w => q ((jr8 (b := 4) (by omega) (by decide)).mp w))]
    rw [nI_clamp (by omega), ao_pc hp.1 h1, e2, e4, tum_M hr hs ht (by omega)]
    by_cases q3 : jr (nI a) 8 = 0
    · rw [if_pos (e3.mpr q3), if_pos q3]
    · rw [if_neg (fun w => q3 (e3.mp w)), if_neg q3]
  · rw [if_pos (in31'.mpr q), if_pos q]
theorem q_why {pr br se z : IA} (k c : Int32) (hp : RP pr z) (hb : ∀ b, b < 4 → br b = brz z b) (hs : se 0 = z 36) : p_why k c pr br se = m_why k c z := by
  rw [p_why, m_why]
  by_cases q : inQ k 0 11 = true
  · rw [if_neg (fun w => in11.mp w q), if_neg (show ¬ ¬ inQ k 0 11 = true from fun w => w q)]
    by_cases q2 : inQ c 1 6 = true
    · rw [if_neg (fun w => inQ_le.mp w q2), if_pos q2]
      obtain ⟨j, hj, rfl⟩ := np_ok' q
      obtain ⟨cn, hc1, hc, rfl⟩ := inQ_nI (lo := 1) (hi := 6) (by decide) (by decide) q2
      rw [nI_clamp (by omega), nI_clamp (by omega)]
      exact rs_M hp.1 hp.2.1 hp.2.2 hb hs hj hc1
    · rw [if_pos (inQ_le.mpr q2), if_neg q2]
  · rw [if_pos (in11.mpr q), if_pos q]
theorem q_best {pr br se z : IA} {pl : Nat} {th : Int32} (hp : RP pr z) (hb : ∀ b, b < 4 → br b = brz z b) (hs : se 0 = z 36) (h40 : z 40 = nI pl ∧ pl < 4) (hth : th = z 41 ∧ okc th) : p_best pr br se pl th = m_best z := by
  rw [p_best, m_best, ← hth.1, h40.1, nI_clamp (by omega)]
  by_cases q : th = -6
  · rw [if_pos q, if_pos q]
  · rw [if_neg q, if_neg q]
    obtain ⟨cn, hc1, hc, rfl⟩ := okc_ne hth.2 q
    rw [nI_clamp (by omega)]
    rcases bp_M (cn := cn) hp hb hs h40.2 hc1 with ⟨e1, e2⟩ | ⟨j, hj, e1, e2⟩
    · rw [if_pos e1, e2]
    · rw [e1, if_neg (nI_neg (by omega) (by decide)), e2, show (3 : Int32) = nI 3 from rfl, jr_nI (by omega) (by decide) (by decide), show (pl * 3 + j) % 3 = j by omega]
theorem q_next {x : Int32} {z : IA} (n : Int32) (hx : x = z 39) : p_nextCast n x = m_nextCast n z := by
  rw [p_nextCast, m_nextCast, hx]
  by_cases q : inQ n 0 99 = true
  · rw [if_neg (fun w => inQ_le.mp w q), if_pos q]
  · rw [if_pos (inQ_le.mpr q), if_neg q]
theorem q_until {th : Int32} {se z : IA} {g : GS} (h : RG g z) (hs : RS se z) (hth : th = z 41) : p_until th se g = m_untilOver z := by
  rw [p_until, m_untilOver, ← hth]
  obtain ⟨⟨h1, h2⟩, h3⟩ := pg_M 400 g z h hs
  have ew : wi (pg se 400 g).1.1 = mwi (pgM 400 z).1 := by
    generalize (pg se 400 g).1 = g' at h1
    obtain ⟨pr, sb, br, fe, fl, x, pl, th, tu, ca⟩ := g'
    exact wi_M (RG_iff.mp h1).1.1
  by_cases q : ¬ th = -6
  · rw [if_pos q, if_pos q]
  · rw [if_neg q, if_neg q, h3, ew]
    by_cases q2 : mwi (pgM 400 z).1 < 0
    · rw [if_neg (fun w => w (mwi_lt.mp q2)), if_neg (fun w => w q2)]
    · rw [if_pos (fun w => q2 (mwi_lt.mpr w)), if_pos q2]
theorem q_count {pr sb br fe se be sl sv pd z : IA} {fl x th tu ca : Int32} {pl ln sz : Nat} (w : Int32) (h : RC (pr, sb, br, fe, se, fl, x, pl, th, tu, ca) z) : p_count w pr sb br se fl x pl th tu ca ln sz = m_count w (z, be, sz, sl, sv, pd, ln) := by
  obtain ⟨hg, hs⟩ := RC_iff.mp h
  obtain ⟨hp, ht, hr, hx, h40, hth, htu, hca⟩ := RG_iff.mp hg
  rcases sw_cases2 0 17 w with ho | ⟨j, _, hj, rfl⟩
  · rw [p_count, m_count]
    have hn : ∀ q, q ≤ 17 → ¬ w = nI q := fun q hq => sw_ne (lo := 0) (hi := 17) ho ⟨⟨by omega, hq⟩, by omega⟩
    have i1 : ¬ inQ w 0 7 = true := fun q => by obtain ⟨j, _, hj, e⟩ := inQ_nI (lo := 0) (hi := 7) (by decide) (by decide) q; exact hn j (by omega) e
    have i2 : ¬ inQ w 9 12 = true := fun q => by obtain ⟨j, _, hj, e⟩ := inQ_nI (lo := 9) (hi := 12) (by decide) (by decide) q; exact hn j (by omega) e
    rw [if_neg (show ¬ w = 0 from hn 0 (by decide)), if_neg (show ¬ w = 1 from hn 1 (by decide)), if_neg (show ¬ w = 2 from hn 2 (by decide)), if_neg (show ¬ w = 3 from hn 3 (by decide)), if_neg (show ¬ w = 4 from hn 4 (by decide)), if_neg (show ¬ w = 5 from hn 5 (by decide)), if_neg (show ¬ w = 6 from hn 6 (by decide)), if_neg (show ¬ w = 7 from hn 7 (by decide)), if_neg (show ¬ w = 8 from hn 8 (by decide)), if_neg (show ¬ w = 9 from hn 9 (by decide)), if_neg (show ¬ w = 10 from hn 10 (by decide)), if_neg (show ¬ w = 11 from hn 11 (by decide)), if_neg (show ¬ w = 12 from hn 12 (by decide)), if_neg (show ¬ w = 13 from hn 13 (by decide)), if_neg (show ¬ w = 14 from hn 14 (by decide)), if_neg (show ¬ w = 15 from hn 15 (by decide)), if_neg (show ¬ w = 16 from hn 16 (by decide)), if_neg (show ¬ w = 17 from hn 17 (by decide)), if_neg i1, if_neg i2, if_neg (show ¬ w = 8 from hn 8 (by decide)), if_neg (show ¬ w = 13 from hn 13 (by decide)), if_neg (show ¬ w = 14 from hn 14 (by decide)), if_neg (show ¬ w = 15 from hn 15 (by decide))]
  · rcases (show j = 0 ∨ j = 1 ∨ j = 2 ∨ j = 3 ∨ j = 4 ∨ j = 5 ∨ j = 6 ∨ j = 7 ∨ j = 8 ∨ j = 9 ∨ j = 10 ∨ j = 11 ∨ j = 12 ∨ j = 13 ∨ j = 14 ∨ j = 15 ∨ j = 16 ∨ j = 17 by omega) with rfl | rfl | rfl | rfl | rfl | rfl | rfl | rfl | rfl | rfl | rfl | rfl | rfl | rfl | rfl | rfl | rfl | rfl
    · rw [p_count, m_count, if_pos (show nI 0 = 0 from rfl), if_pos (show inQ (nI 0) 0 7 = true by decide), show (nI 0).toNatClampNeg = 0 from nI_clamp (by decide)]; exact hs.1
    · rw [p_count, m_count, if_neg (show ¬ nI 1 = 0 by decide), if_pos (show nI 1 = 1 from rfl), if_pos (show inQ (nI 1) 0 7 = true by decide), show (nI 1).toNatClampNeg = 1 from nI_clamp (by decide)]; exact hs.2.1
    · rw [p_count, m_count, if_neg (show ¬ nI 2 = 0 by decide), if_neg (show ¬ nI 2 = 1 by decide), if_pos (show nI 2 = 2 from rfl), if_pos (show inQ (nI 2) 0 7 = true by decide), show (nI 2).toNatClampNeg = 2 from nI_clamp (by decide)]; exact hs.2.2.1
    · rw [p_count, m_count, if_neg (show ¬ nI 3 = 0 by decide), if_neg (show ¬ nI 3 = 1 by decide), if_neg (show ¬ nI 3 = 2 by decide), if_pos (show nI 3 = 3 from rfl), if_pos (show inQ (nI 3) 0 7 = true by decide), show (nI 3).toNatClampNeg = 3 from nI_clamp (by decide)]; exact hx.1
    · rw [p_count, m_count, if_neg (show ¬ nI 4 = 0 by decide), if_neg (show ¬ nI 4 = 1 by decide), if_neg (show ¬ nI 4 = 2 by decide), if_neg (show ¬ nI 4 = 3 by decide), if_pos (show nI 4 = 4 from rfl), if_pos (show inQ (nI 4) 0 7 = true by decide), show (nI 4).toNatClampNeg = 4 from nI_clamp (by decide)]; exact h40.1.symm
    · rw [p_count, m_count, if_neg (show ¬ nI 5 = 0 by decide), if_neg (show ¬ nI 5 = 1 by decide), if_neg (show ¬ nI 5 = 2 by decide), if_neg (show ¬ nI 5 = 3 by decide), if_neg (show ¬ nI 5 = 4 by decide), if_pos (show nI 5 = 5 from rfl), if_pos (show inQ (nI 5) 0 7 = true by decide), show (nI 5).toNatClampNeg = 5 from nI_clamp (by decide)]; exact hth.1
    · rw [p_count, m_count, if_neg (show ¬ nI 6 = 0 by decide), if_neg (show ¬ nI 6 = 1 by decide), if_neg (show ¬ nI 6 = 2 by decide), if_neg (show ¬ nI 6 = 3 by decide), if_neg (show ¬ nI 6 = 4 by decide), if_neg (show ¬ nI 6 = 5 by decide), if_pos (show nI 6 = 6 from rfl), if_pos (show inQ (nI 6) 0 7 = true by decide), show (nI 6).toNatClampNeg = 6 from nI_clamp (by decide)]; exact htu
    · rw [p_count, m_count, if_neg (show ¬ nI 7 = 0 by decide), if_neg (show ¬ nI 7 = 1 by decide), if_neg (show ¬ nI 7 = 2 by decide), if_neg (show ¬ nI 7 = 3 by decide), if_neg (show ¬ nI 7 = 4 by decide), if_neg (show ¬ nI 7 = 5 by decide), if_neg (show ¬ nI 7 = 6 by decide), if_pos (show nI 7 = 7 from rfl), if_pos (show inQ (nI 7) 0 7 = true by decide), show (nI 7).toNatClampNeg = 7 from nI_clamp (by decide)]; exact hca
    · rw [p_count, m_count, if_neg (show ¬ nI 8 = 0 by decide), if_neg (show ¬ nI 8 = 1 by decide), if_neg (show ¬ nI 8 = 2 by decide), if_neg (show ¬ nI 8 = 3 by decide), if_neg (show ¬ nI 8 = 4 by decide), if_neg (show ¬ nI 8 = 5 by decide), if_neg (show ¬ nI 8 = 6 by decide), if_neg (show ¬ nI 8 = 7 by decide), if_pos (show nI 8 = 8 from rfl), if_neg (show ¬ inQ (nI 8) 0 7 = true by decide), if_neg (show ¬ inQ (nI 8) 9 12 = true by decide), if_pos (show nI 8 = 8 from rfl)]; exact wi_M hp.1
    · rw [p_count, m_count, if_neg (show ¬ nI 9 = 0 by decide), if_neg (show ¬ nI 9 = 1 by decide), if_neg (show ¬ nI 9 = 2 by decide), if_neg (show ¬ nI 9 = 3 by decide), if_neg (show ¬ nI 9 = 4 by decide), if_neg (show ¬ nI 9 = 5 by decide), if_neg (show ¬ nI 9 = 6 by decide), if_neg (show ¬ nI 9 = 7 by decide), if_neg (show ¬ nI 9 = 8 by decide), if_pos (show nI 9 = 9 from rfl), if_neg (show ¬ inQ (nI 9) 0 7 = true by decide), if_pos (show inQ (nI 9) 9 12 = true by decide), show (nI 9).toNatClampNeg = 9 from nI_clamp (by decide)]; exact congrArg nI (ho_M hp.1 (by decide))
    · rw [p_count, m_count, if_neg (show ¬ nI 10 = 0 by decide), if_neg (show ¬ nI 10 = 1 by decide), if_neg (show ¬ nI 10 = 2 by decide), if_neg (show ¬ nI 10 = 3 by decide), if_neg (show ¬ nI 10 = 4 by decide), if_neg (show ¬ nI 10 = 5 by decide), if_neg (show ¬ nI 10 = 6 by decide), if_neg (show ¬ nI 10 = 7 by decide), if_neg (show ¬ nI 10 = 8 by decide), if_neg (show ¬ nI 10 = 9 by decide), if_pos (show nI 10 = 10 from rfl), if_neg (show ¬ inQ (nI 10) 0 7 = true by decide), if_pos (show inQ (nI 10) 9 12 = true by decide), show (nI 10).toNatClampNeg = 10 from nI_clamp (by decide)]; exact congrArg nI (ho_M hp.1 (by decide))
    · rw [p_count, m_count, if_neg (show ¬ nI 11 = 0 by decide), if_neg (show ¬ nI 11 = 1 by decide), if_neg (show ¬ nI 11 = 2 by decide), if_neg (show ¬ nI 11 = 3 by decide), if_neg (show ¬ nI 11 = 4 by decide), if_neg (show ¬ nI 11 = 5 by decide), if_neg (show ¬ nI 11 = 6 by decide), if_neg (show ¬ nI 11 = 7 by decide), if_neg (show ¬ nI 11 = 8 by decide), if_neg (show ¬ nI 11 = 9 by decide), if_neg (show ¬ nI 11 = 10 by decide), if_pos (show nI 11 = 11 from rfl), if_neg (show ¬ inQ (nI 11) 0 7 = true by decide), if_pos (show inQ (nI 11) 9 12 = true by decide), show (nI 11).toNatClampNeg = 11 from nI_clamp (by decide)]; exact congrArg nI (ho_M hp.1 (by decide))
    · rw [p_count, m_count, if_neg (show ¬ nI 12 = 0 by decide), if_neg (show ¬ nI 12 = 1 by decide), if_neg (show ¬ nI 12 = 2 by decide), if_neg (show ¬ nI 12 = 3 by decide), if_neg (show ¬ nI 12 = 4 by decide), if_neg (show ¬ nI 12 = 5 by decide), if_neg (show ¬ nI 12 = 6 by decide), if_neg (show ¬ nI 12 = 7 by decide), if_neg (show ¬ nI 12 = 8 by decide), if_neg (show ¬ nI 12 = 9 by decide), if_neg (show ¬ nI 12 = 10 by decide), if_neg (show ¬ nI 12 = 11 by decide), if_pos (show nI 12 = 12 from rfl), if_neg (show ¬ inQ (nI 12) 0 7 = true by decide), if_pos (show inQ (nI 12) 9 12 = true by decide), show (nI 12).toNatClampNeg = 12 from nI_clamp (by decide)]; exact congrArg nI (ho_M hp.1 (by decide))
    · rw [p_count, m_count, if_neg (show ¬ nI 13 = 0 by decide), if_neg (show ¬ nI 13 = 1 by decide), if_neg (show ¬ nI 13 = 2 by decide), if_neg (show ¬ nI 13 = 3 by decide), if_neg (show ¬ nI 13 = 4 by decide), if_neg (show ¬ nI 13 = 5 by decide), if_neg (show ¬ nI 13 = 6 by decide), if_neg (show ¬ nI 13 = 7 by decide), if_neg (show ¬ nI 13 = 8 by decide), if_neg (show ¬ nI 13 = 9 by decide), if_neg (show ¬ nI 13 = 10 by decide), if_neg (show ¬ nI 13 = 11 by decide), if_neg (show ¬ nI 13 = 12 by decide), if_pos (show nI 13 = 13 from rfl), if_neg (show ¬ inQ (nI 13) 0 7 = true by decide), if_neg (show ¬ inQ (nI 13) 9 12 = true by decide), if_neg (show ¬ nI 13 = 8 by decide), if_pos (show nI 13 = 13 from rfl)]; exact ht.2.symm
    · rw [p_count, m_count, if_neg (show ¬ nI 14 = 0 by decide), if_neg (show ¬ nI 14 = 1 by decide), if_neg (show ¬ nI 14 = 2 by decide), if_neg (show ¬ nI 14 = 3 by decide), if_neg (show ¬ nI 14 = 4 by decide), if_neg (show ¬ nI 14 = 5 by decide), if_neg (show ¬ nI 14 = 6 by decide), if_neg (show ¬ nI 14 = 7 by decide), if_neg (show ¬ nI 14 = 8 by decide), if_neg (show ¬ nI 14 = 9 by decide), if_neg (show ¬ nI 14 = 10 by decide), if_neg (show ¬ nI 14 = 11 by decide), if_neg (show ¬ nI 14 = 12 by decide), if_neg (show ¬ nI 14 = 13 by decide), if_pos (show nI 14 = 14 from rfl), if_neg (show ¬ inQ (nI 14) 0 7 = true by decide), if_neg (show ¬ inQ (nI 14) 9 12 = true by decide), if_neg (show ¬ nI 14 = 8 by decide), if_neg (show ¬ nI 14 = 13 by decide), if_pos (show nI 14 = 14 from rfl)]; exact fset_M hr
    · rw [p_count, m_count, if_neg (show ¬ nI 15 = 0 by decide), if_neg (show ¬ nI 15 = 1 by decide), if_neg (show ¬ nI 15 = 2 by decide), if_neg (show ¬ nI 15 = 3 by decide), if_neg (show ¬ nI 15 = 4 by decide), if_neg (show ¬ nI 15 = 5 by decide), if_neg (show ¬ nI 15 = 6 by decide), if_neg (show ¬ nI 15 = 7 by decide), if_neg (show ¬ nI 15 = 8 by decide), if_neg (show ¬ nI 15 = 9 by decide), if_neg (show ¬ nI 15 = 10 by decide), if_neg (show ¬ nI 15 = 11 by decide), if_neg (show ¬ nI 15 = 12 by decide), if_neg (show ¬ nI 15 = 13 by decide), if_neg (show ¬ nI 15 = 14 by decide), if_pos (show nI 15 = 15 from rfl), if_neg (show ¬ inQ (nI 15) 0 7 = true by decide), if_neg (show ¬ inQ (nI 15) 9 12 = true by decide), if_neg (show ¬ nI 15 = 8 by decide), if_neg (show ¬ nI 15 = 13 by decide), if_neg (show ¬ nI 15 = 14 by decide), if_pos (show nI 15 = 15 from rfl)]; exact hr.2.2.2
    · rw [p_count, m_count, if_neg (show ¬ nI 16 = 0 by decide), if_neg (show ¬ nI 16 = 1 by decide), if_neg (show ¬ nI 16 = 2 by decide), if_neg (show ¬ nI 16 = 3 by decide), if_neg (show ¬ nI 16 = 4 by decide), if_neg (show ¬ nI 16 = 5 by decide), if_neg (show ¬ nI 16 = 6 by decide), if_neg (show ¬ nI 16 = 7 by decide), if_neg (show ¬ nI 16 = 8 by decide), if_neg (show ¬ nI 16 = 9 by decide), if_neg (show ¬ nI 16 = 10 by decide), if_neg (show ¬ nI 16 = 11 by decide), if_neg (show ¬ nI 16 = 12 by decide), if_neg (show ¬ nI 16 = 13 by decide), if_neg (show ¬ nI 16 = 14 by decide), if_neg (show ¬ nI 16 = 15 by decide), if_pos (show nI 16 = 16 from rfl), if_neg (show ¬ inQ (nI 16) 0 7 = true by decide), if_neg (show ¬ inQ (nI 16) 9 12 = true by decide), if_neg (show ¬ nI 16 = 8 by decide), if_neg (show ¬ nI 16 = 13 by decide), if_neg (show ¬ nI 16 = 14 by decide), if_neg (show ¬ nI 16 = 15 by decide)]
    · rw [p_count, m_count, if_neg (show ¬ nI 17 = 0 by decide), if_neg (show ¬ nI 17 = 1 by decide), if_neg (show ¬ nI 17 = 2 by decide), if_neg (show ¬ nI 17 = 3 by decide), if_neg (show ¬ nI 17 = 4 by decide), if_neg (show ¬ nI 17 = 5 by decide), if_neg (show ¬ nI 17 = 6 by decide), if_neg (show ¬ nI 17 = 7 by decide), if_neg (show ¬ nI 17 = 8 by decide), if_neg (show ¬ nI 17 = 9 by decide), if_neg (show ¬ nI 17 = 10 by decide), if_neg (show ¬ nI 17 = 11 by decide), if_neg (show ¬ nI 17 = 12 by decide), if_neg (show ¬ nI 17 = 13 by decide), if_neg (show ¬ nI 17 = 14 by decide), if_neg (show ¬ nI 17 = 15 by decide), if_neg (show ¬ nI 17 = 16 by decide), if_pos (show nI 17 = 17 from rfl), if_neg (show ¬ inQ (nI 17) 0 7 = true by decide), if_neg (show ¬ inQ (nI 17) 9 12 = true by decide), if_neg (show ¬ nI 17 = 8 by decide), if_neg (show ¬ nI 17 = 13 by decide), if_neg (show ¬ nI 17 = 14 by decide), if_neg (show ¬ nI 17 = 15 by decide)]
