-- ===== reading the pad: the reference =====
theorem cnt_congr {P Q : Nat → Bool} : ∀ n, (∀ k, k < n → P k = Q k) → cnt P n = cnt Q n
  | 0, _ => rfl
  | n + 1, h => by rw [cnt, cnt, cnt_congr n (fun k hk => h k (by omega)), h n (by omega)]
theorem mpc_c {z z' : IA} {p : Nat} {f : Int32} (h : ∀ j, j < 41 → z' j = z j) (hp : p < 4) : mpc z' p f = mpc z p f :=
  cnt_congr 3 fun k hk => by rw [mpP, mpP, h _ (by omega)]
theorem mow_c {z z' : IA} {p t : Nat} (h : ∀ j, j < 41 → z' j = z j) (hp : p < 4) : mow z' p t = mow z p t :=
  cnt_congr 3 fun k hk => by rw [moP, moP, h _ (by omega)]
theorem ao_c {z z' : IA} {f : Int32} (h : ∀ j, j < 41 → z' j = z j) : ∀ n, n ≤ 4 → ao z' f n = ao z f n
  | 0, _ => rfl
  | n + 1, hn => by rw [ao, ao, ao_c h n (by omega), mpc_c h (by omega)]
theorem blO_c {z z' : IA} {p : Nat} {f : Int32} (h : ∀ j, j < 41 → z' j = z j) : ∀ n, n ≤ 4 → blO z' p f n = blO z p f n
  | 0, _ => rfl
  | n + 1, hn => by rw [blO, blO, blO_c h n (by omega), mpc_c h (by omega)]
theorem mfa_c {z z' : IA} {f : Int32} (h : ∀ j, j < 41 → z' j = z j) (hf : okf f) : mfa z' f = mfa z f := by
  rcases hf with rfl | ⟨a, ha, rfl⟩
  · rfl
  · rw [mfa, mfa, nI_clamp (by omega), h _ (by omega)]
theorem mfN_c {z z' : IA} {p : Nat} (h : ∀ j, j < 41 → z' j = z j) (hp : p < 4) : mfN z' p = mfN z p :=
  funext fun a => mfa_c h (rf_okf _ hp)
theorem mbP_c {z z' : IA} {p : Nat} (h : ∀ j, j < 41 → z' j = z j) : mbP z' p = mbP z p :=
  funext fun a => blO_c h 4 (Nat.le_refl 4)
theorem tgtM_c {z z' : IA} {p c : Nat} {v : Int32} (h : ∀ j, j < 41 → z' j = z j) (hp : p < 4) : tgtM z' p v c = tgtM z p v c := by
  rw [tgtM, tgtM, mfN_c h hp]
theorem mwn_c {z z' : IA} {k cn : Nat} (h : ∀ j, j < 41 → z' j = z j) (hk : k < 12) : mwn z' k cn = mwn z k cn := by
  rw [mwn, mwn, h k (by omega), h 36 (by decide), tgtM_c h (show k / 3 < 4 by omega), mow_c h (show k / 3 < 4 by omega), ao_c h 4 (Nat.le_refl 4), mbQ, mbQ, mbP_c h]
theorem dcM_lo {z : IA} {v : Int32} {j : Nat} (h : j < 41) : dcM z v j = z j := by rw [dcM, upd_ne (by omega), upd_ne (by omega)]
theorem mwn_dc {z : IA} {v : Int32} {k cn : Nat} (hk : k < 12) : mwn (dcM z v) k cn = mwn z k cn := mwn_c (fun _ h => dcM_lo h) hk
def rdG (pd zc : IA) (t : Nat) : Bool := decide (mwi zc < 0) && (if pd (2 * t + 1) = 45 then !mcQ zc (zc 40).toNatClampNeg (pd (2 * t) - 48).toNatClampNeg 3 else decide (mwn zc (3 * (zc 40).toNatClampNeg + (pd (2 * t + 1) - 97).toNatClampNeg) (pd (2 * t) - 48).toNatClampNeg = 0))
def rdZ (pd zc : IA) (t : Nat) : IA := if pd (2 * t + 1) = 45 then goM (dcM zc (pd (2 * t) - 48)) (zc 40).toNatClampNeg else goM (mv2 (dcM zc (pd (2 * t) - 48)) (zc 40).toNatClampNeg (pd (2 * t) - 48).toNatClampNeg (pd (2 * t + 1) - 97).toNatClampNeg) (zc 40).toNatClampNeg
def rdS (pd z : IA) : Nat → IA × Nat × Bool
  | 0 => (z, 0, true)
  | t + 1 => if (rdS pd z t).2.2 = true ∧ rdG pd (rdS pd z t).1 t = true then (rdZ pd (rdS pd z t).1 t, (rdS pd z t).2.1 + 1, true) else ((rdS pd z t).1, (rdS pd z t).2.1, false)
def m_read (ks : KS) : Int32 × KS :=
  if ¬ ffM ks.2.2.2.2.2.1 ks.2.2.2.2.2.2 < 0 then (-3, ks) else if ¬ ks.1 41 = -6 then (-5, ks)
  else (nI (rdS ks.2.2.2.2.2.1 ks.1 (ks.2.2.2.2.2.2 / 2)).2.1, ((rdS ks.2.2.2.2.2.1 ks.1 (ks.2.2.2.2.2.2 / 2)).1, rcB ks.2.1 ks.1 ks.2.2.1, rcN ks.2.2.1, ks.2.2.2.1, ks.2.2.2.2.1, ks.2.2.2.2.2.1, 0))
theorem rdS_stop {pd z : IA} {t : Nat} (h : (rdS pd z t).2.2 = false) : ∀ d, rdS pd z (t + d) = rdS pd z t
  | 0 => rfl
  | d + 1 => by
    have ih := rdS_stop h d
    rw [show t + (d + 1) = (t + d) + 1 from rfl, rdS, ih, if_neg (fun q => by rw [h] at q; exact absurd q.1 (by decide)), ← h]
theorem fxs_ok {P : Nat → Bool} {e : Int32} : ∀ n a, a + n < 2 ^ 31 → fxs P e a n < 0 → e < 0 ∧ ∀ k, a ≤ k → k < a + n → P k = false
  | 0, a, _, h => ⟨h, fun k h1 h2 => by omega⟩
  | n + 1, a, ha, h => by
    rw [fxs] at h
    by_cases q : P a = true
    · rw [if_pos q] at h; exact absurd h (nI_pos (by omega))
    · rw [if_neg q] at h
      have ih := fxs_ok n (a + 1) (by omega) h
      refine ⟨ih.1, fun k h1 h2 => ?_⟩
      rcases Nat.eq_or_lt_of_le h1 with e1 | e1
      · rw [← e1]; exact bool_n q
      · exact ih.2 k e1 (by omega)
theorem ffM_ok {pd : IA} {ln : Nat} (hl : ln ≤ 60) (h : ffM pd ln < 0) : ln % 2 = 0 ∧ 0 < ln ∧ ∀ k, k < ln → badM pd k = false := by
  have := fxs_ok ln 0 (by omega) h
  have h1 := this.1
  rw [ffE] at h1
  by_cases q : ln % 2 = 0 ∧ 0 < ln
  · exact ⟨q.1, q.2, fun k hk => this.2 k (by omega) (by omega)⟩
  · rw [if_neg q] at h1; exact absurd h1 (nI_pos (by omega))
theorem rd_ch {pd : IA} {ln t : Nat} (hl : ln ≤ 60) (h : ffM pd ln < 0) (ht : 2 * t < ln) : (∃ cv : Nat, 49 ≤ cv ∧ cv ≤ 54 ∧ pd (2 * t) = nI cv) ∧ (pd (2 * t + 1) = 45 ∨ ∃ jv : Nat, 97 ≤ jv ∧ jv ≤ 99 ∧ pd (2 * t + 1) = nI jv) := by
  obtain ⟨h1, h2, h3⟩ := ffM_ok hl h
  have a := h3 (2 * t) ht
  have b := h3 (2 * t + 1) (by omega)
  simp only [badM, decide_eq_false_iff_not] at a b
  constructor
  · by_cases q : inQ (pd (2 * t)) 49 54 = true
    · exact inQ_nI (lo := 49) (hi := 54) (by decide) (by decide) q
    · exact absurd ⟨fun x => q x.2, fun x => x.1 (by omega)⟩ a
  · by_cases q : pd (2 * t + 1) = 45
    · exact Or.inl q
    · by_cases q2 : inQ (pd (2 * t + 1)) 97 99 = true
      · exact Or.inr (inQ_nI (lo := 97) (hi := 99) (by decide) (by decide) q2)
      · exact absurd ⟨fun x => absurd x.1 (by omega), fun x => x.2.elim q2 q⟩ b
theorem rd_sub {v : Int32} {a b : Nat} (h : v = nI a) (hb : b ≤ a) : v - nI b = nI (a - b) := by rw [h, pk_sub hb]
theorem rdZ_p {pd zc : IA} {t cv pl : Nat} (h1 : 49 ≤ cv) (h2 : cv ≤ 54) (e : pd (2 * t) = nI cv) (h40 : zc 40 = nI pl) (hpl : pl < 4) (h : pd (2 * t + 1) = 45) : rdZ pd zc t = goM (dcM zc (nI (cv - 48))) pl := by
  rw [rdZ, if_pos h, h40, nI_clamp (by omega), show pd (2 * t) - 48 = nI (cv - 48) from rd_sub (b := 48) e (by omega)]
theorem rdZ_m {pd zc : IA} {t cv pl jv : Nat} (h1 : 49 ≤ cv) (h2 : cv ≤ 54) (e : pd (2 * t) = nI cv) (h40 : zc 40 = nI pl) (hpl : pl < 4) (h3 : 97 ≤ jv) (h4 : jv ≤ 99) (h : pd (2 * t + 1) = nI jv) : rdZ pd zc t = goM (mv2 (dcM zc (nI (cv - 48))) pl (cv - 48) (jv - 97)) pl := by
  have hne : ¬ pd (2 * t + 1) = 45 := by rw [h]; exact fun q => absurd ((nI_eq (b := 45) (by omega) (by decide)).mp q) (by omega)
  rw [rdZ, if_neg hne, h40, nI_clamp (by omega), show pd (2 * t) - 48 = nI (cv - 48) from rd_sub (b := 48) e (by omega), show pd (2 * t + 1) - 97 = nI (jv - 97) from rd_sub (b := 97) h (by omega), nI_clamp (by omega), nI_clamp (by omega)]
theorem rdG_p {pd zc : IA} {t cv pl : Nat} (h1 : 49 ≤ cv) (h2 : cv ≤ 54) (e : pd (2 * t) = nI cv) (h40 : zc 40 = nI pl) (hpl : pl < 4) (h : pd (2 * t + 1) = 45) : rdG pd zc t = (decide (mwi zc < 0) && !mcQ zc pl (cv - 48) 3) := by
  rw [rdG, if_pos h, h40, nI_clamp (by omega), show pd (2 * t) - 48 = nI (cv - 48) from rd_sub (b := 48) e (by omega), nI_clamp (by omega)]
theorem rdG_m {pd zc : IA} {t cv pl jv : Nat} (h1 : 49 ≤ cv) (h2 : cv ≤ 54) (e : pd (2 * t) = nI cv) (h40 : zc 40 = nI pl) (hpl : pl < 4) (h3 : 97 ≤ jv) (h4 : jv ≤ 99) (h : pd (2 * t + 1) = nI jv) : rdG pd zc t = (decide (mwi zc < 0) && decide (mwn zc (3 * pl + (jv - 97)) (cv - 48) = 0)) := by
  have hne : ¬ pd (2 * t + 1) = 45 := by rw [h]; exact fun q => absurd ((nI_eq (b := 45) (by omega) (by decide)).mp q) (by omega)
  rw [rdG, if_neg hne, h40, nI_clamp (by omega), show pd (2 * t) - 48 = nI (cv - 48) from rd_sub (b := 48) e (by omega), show pd (2 * t + 1) - 97 = nI (jv - 97) from rd_sub (b := 97) h (by omega), nI_clamp (by omega), nI_clamp (by omega)]
theorem dcM_okm {z : IA} {v : Int32} (h : okm z) : okm (dcM z v) := ⟨fun k hk => by rw [dcM_lo (by omega)]; exact h.1 k hk, by rw [dcM_lo (by decide)]; exact h.2.1, by rw [dcM_lo (by decide)]; exact h.2.2⟩
theorem goM_okm {z : IA} {pl : Nat} (hp : pl < 4) (h40 : z 40 = nI pl) (h : okm z) : okm (goM z pl) := goM_ok hp h40 h.1 h.2.1
theorem mv2_okm {z : IA} {pl cn j : Nat} (hj : 3 * pl + j < 12) (h : okm z) : okm (mv2 z pl cn j) :=
  ⟨mv2_ok h.1, by rw [mv2, mvM_hi hj (by decide) (by decide) (by decide)]; exact h.2.1, by rw [mv2, mvM_hi hj (by decide) (by decide) (by decide)]; exact h.2.2⟩
theorem rdS_go {pd z zc : IA} {t dn : Nat} (h : (zc, dn, true) = rdS pd z t) (hg : rdG pd zc t = true) {f : IA} (hf : f = rdZ pd zc t) : (f, dn + 1, true) = rdS pd z (t + 1) := by
  rw [rdS, ← h, if_pos ⟨rfl, hg⟩, hf]
theorem rdS_no {pd z zc : IA} {t dn : Nat} (h : (zc, dn, true) = rdS pd z t) (hg : ¬ rdG pd zc t = true) : (zc, dn, false) = rdS pd z (t + 1) := by
  rw [rdS, ← h, if_neg (fun q => hg q.2)]
