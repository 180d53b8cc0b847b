-- ===== what the reference's public methods answer: over the core of its state =====
theorem sw_cases2 (lo n : Nat) (x : Int32) : (x.toInt < (lo : Int) ∨ (n : Int) < x.toInt) ∨ ∃ j : Nat, lo ≤ j ∧ j ≤ n ∧ x = nI j := by
  by_cases h : x.toInt < (lo : Int) ∨ (n : Int) < x.toInt
  · exact Or.inl h
  · refine Or.inr ⟨x.toInt.toNat, by omega, by omega, Int32.toInt_inj.mp ?_⟩
    have h1 : x.toInt < 2 ^ 31 := x.toInt_lt
    rw [nI_toInt (by omega)]
    omega
theorem inQ_nI {v : Int32} {lo hi : Nat} (hl : lo < 2 ^ 31) (hh : hi < 2 ^ 31) (h : inQ v (nI lo) (nI hi) = true) : ∃ j : Nat, lo ≤ j ∧ j ≤ hi ∧ v = nI j := by
  simp only [inQ, decide_eq_true_eq] at h
  have h1 : (lo : Int) ≤ v.toInt := by
    have := Int32.not_lt.mp h.1
    rw [Int32.le_iff_toInt_le, nI_toInt hl] at this; exact this
  have h2 : v.toInt ≤ (hi : Int) := by
    have := Int32.not_lt.mp h.2
    rw [Int32.le_iff_toInt_le, nI_toInt hh] at this; exact this
  refine ⟨v.toInt.toNat, by omega, by omega, Int32.toInt_inj.mp ?_⟩
  rw [nI_toInt (by omega)]; omega
/-- the core: row, history, states, slots, saved, pad, its length -/
abbrev KS : Type := IA × IA × Nat × IA × IA × IA × Nat
/-- the whole: the core, and the scratch rows: aside, goal, needed -/
abbrev MS : Type := IA × IA × Nat × IA × IA × IA × Nat × IA × Int32 × IA
def cor (u : MS) : KS := (u.1, u.2.1, u.2.2.1, u.2.2.2.1, u.2.2.2.2.1, u.2.2.2.2.2.1, u.2.2.2.2.2.2.1)
/-- the least place from a on, of n, where P holds; e if none -/
def fxs (P : Nat → Bool) (e : Int32) : Nat → Nat → Int32
  | _, 0 => e
  | a, n + 1 => if P a then nI a else fxs P e (a + 1) n
def badM (pd : IA) (k : Nat) : Bool := decide (¬ (k % 2 = 0 ∧ inQ (pd k) 49 54 = true) ∧ ¬ (¬ k % 2 = 0 ∧ (inQ (pd k) 97 99 = true ∨ pd k = 45)))
def ffE (ln : Nat) : Int32 := if ln % 2 = 0 ∧ 0 < ln then -6 else nI ln
def ffM (pd : IA) (ln : Nat) : Int32 := fxs (badM pd) (ffE ln) 0 ln
def bsM (z : IA) (a : Nat) : Int32 := if ¬ jr (nI a) 8 = 4 then 0 else if z (24 + a / 8) = 1 then 3 else if z (28 + a / 8) = 1 then 2 else 1
def mdE (z : IA) (a : Nat) : Int32 := z 37 - (z 42 - z (32 + a / 8))
def mdM (z : IA) (a : Nat) : Int32 := if ¬ mfa z (nI a) = true ∨ z 37 = 0 then -6 else if 1 ≤ mdE z a then mdE z a else 1
def fbM (z : IA) : Nat → Int32
  | 0 => 0
  | b + 1 => fbM z b ||| (z (24 + b) <<< (nI b &&& 31))
/-- throws needed, place by place from home on -/
def tvM (nd : IA) (F : Nat → Bool) (a : Nat) : Nat → Int32
  | 0 => 400
  | c + 1 => if ¬ tgI (tg F a (c + 1)) < 0 ∧ ¬ tvM nd F a c ≤ nd (tgI (tg F a (c + 1))).toNatClampNeg + 1 then nd (tgI (tg F a (c + 1))).toNatClampNeg + 1 else tvM nd F a c
def tnM (nd : IA) (F : Nat → Bool) : Nat → IA
  | 0 => upd nd 35 0
  | d + 1 => upd (tnM nd F d) (34 - d) (tvM (tnM nd F d) F (34 - d) 6)
def tnR (nd z : IA) (k : Nat) : Int32 := if z k = -6 then tnM nd (mfN z (k / 3)) 35 0 + 1 else tnM nd (mfN z (k / 3)) 35 (z k).toNatClampNeg
/-- the throws to come -/
def xN (x : Int32) : Nat → Int32
  | 0 => x
  | n + 1 => nx (xN x n)
def rcK (ks : KS) (z' : IA) : KS := (z', rcB ks.2.1 ks.1 ks.2.2.1, rcN ks.2.2.1, ks.2.2.2)
def m_set (k v : Int32) (ks : KS) : Int32 × KS :=
  if inQ k 0 2 = true ∧ inQ v (if k = 0 then 1 else 0) (if k = 0 then 6 else if k = 1 then 40 else 3) = true then (ks.1 (36 + k.toNatClampNeg), rcK ks (upd ks.1 (36 + k.toNatClampNeg) v)) else (-2, ks)
def m_seed (n : Int32) (ks : KS) : Int32 × KS := if 0 ≤ n then (ks.1 39, rcK ks (upd ks.1 39 n)) else (-2, ks)
def m_cast (ks : KS) : Int32 × KS := if ¬ mwi ks.1 < 0 ∨ ¬ ks.1 41 = -6 then (-5, ks) else (co (nx (ks.1 39)), rcK ks (thM ks.1))
def moM (z : IA) (pl cn j : Nat) : IA := goM (mv2 z pl cn j) pl
def m_move (k : Int32) (ks : KS) : Int32 × KS :=
  if ¬ inQ k 0 2 = true then (-1, ks) else if ks.1 41 = -6 ∨ ¬ mwn ks.1 (3 * (ks.1 40).toNatClampNeg + k.toNatClampNeg) (ks.1 41).toNatClampNeg ≤ 0 then (-5, ks)
  else (moM ks.1 (ks.1 40).toNatClampNeg (ks.1 41).toNatClampNeg k.toNatClampNeg (3 * (ks.1 40).toNatClampNeg + k.toNatClampNeg), rcK ks (moM ks.1 (ks.1 40).toNatClampNeg (ks.1 41).toNatClampNeg k.toNatClampNeg))
def m_skip (ks : KS) : Int32 × KS :=
  if ks.1 41 = -6 ∨ mcQ ks.1 (ks.1 40).toNatClampNeg (ks.1 41).toNatClampNeg 3 = true then (-5, ks) else (goM ks.1 (ks.1 40).toNatClampNeg 40, rcK ks (goM ks.1 (ks.1 40).toNatClampNeg))
def m_play (n : Int32) (ks : KS) : Int32 × KS :=
  if ¬ inQ n 1 100 = true then (-2, ks) else if ¬ mwi ks.1 < 0 ∨ ¬ ks.1 41 = -6 then (-5, ks) else (nI (pgM n.toNatClampNeg ks.1).2, rcK ks (pgM n.toNatClampNeg ks.1).1)
def laP (z : IA) (v : Int32) (k i : Nat) : Bool := decide (¬ 3 * (k / 3) + i = k ∧ z (3 * (k / 3) + i) = v ∧ inQ v 0 34 = true)
def laO (z : IA) (v : Int32) (k : Nat) : Nat := cnt (laP z v k) 3
def m_lay (k v : Int32) (ks : KS) : Int32 × KS :=
  if ¬ inQ k 0 11 = true then (-1, ks) else if ¬ v = -6 ∧ ¬ inQ v 0 35 = true then (-2, ks)
  else if 0 ≤ ot ks.1 (k.toNatClampNeg / 3) (rf (k.toNatClampNeg / 3) v) ∨ 1 < laO ks.1 v k.toNatClampNeg ∨ mfa ks.1 (rf (k.toNatClampNeg / 3) v) = true then (-5, ks)
  else (ks.1 k.toNatClampNeg, rcK ks (lk (upd ks.1 k.toNatClampNeg v) 4))
def m_piece (k w : Int32) (z : IA) : Int32 :=
  if ¬ inQ k 0 11 = true then -1 else if w = 0 then z k.toNatClampNeg else if w = 1 then rf (k.toNatClampNeg / 3) (z k.toNatClampNeg)
  else if w = 2 then (if 1 < mpc z (k.toNatClampNeg / 3) (rf (k.toNatClampNeg / 3) (z k.toNatClampNeg)) then 1 else 0) else if w = 3 then z (12 + k.toNatClampNeg) else -2
def m_field (f w : Int32) (z : IA) : Int32 :=
  if ¬ inQ f 0 31 = true then -1 else if w = 0 then nI (ao z f 4) else if w = 1 then low (pcP z f) 0 12 else if w = 2 then (if jr f 8 = 0 then 1 else 0) else if w = 3 then bsM z f.toNatClampNeg else if w = 4 then mdM z f.toNatClampNeg else -2
def m_why (k c : Int32) (z : IA) : Int32 := if ¬ inQ k 0 11 = true then -1 else if inQ c 1 6 = true then mwn z k.toNatClampNeg c.toNatClampNeg else -2
def m_count (w : Int32) (ks : KS) : Int32 :=
  if inQ w 0 7 = true then ks.1 (36 + w.toNatClampNeg) else if inQ w 9 12 = true then nI (mho ks.1 (w.toNatClampNeg - 9)) else if w = 8 then mwi ks.1 else if w = 13 then ks.1 44 else if w = 14 then fbM ks.1 4
  else if w = 15 then ks.1 45 else if w = 16 then nI ks.2.2.2.2.2.2 else if w = 17 then nI ks.2.2.1 else -2
def m_best (z : IA) : Int32 := if z 41 = -6 then -5 else bpM z (z 40).toNatClampNeg (z 41).toNatClampNeg
def m_nextCast (n : Int32) (z : IA) : Int32 := if inQ n 0 99 = true then co (xN (z 39) (n.toNatClampNeg + 1)) else -2
def m_untilOver (z : IA) : Int32 := if ¬ z 41 = -6 then -5 else if ¬ mwi (pgM 400 z).1 < 0 then nI (pgM 400 z).2 else -6
def m_wipe (ks : KS) : Int32 × KS := (nI ks.2.2.2.2.2.2, (ks.1, ks.2.1, ks.2.2.1, ks.2.2.2.1, ks.2.2.2.2.1, ks.2.2.2.2.2.1, 0))
def m_undo (ks : KS) : Int32 × KS := if ks.2.2.1 = 0 then (-5, ks) else (nI (ks.2.2.1 - 1), (cpz ks.1 ks.2.1 0 (46 * (ks.2.2.1 - 1)) 46, ks.2.1, ks.2.2.1 - 1, ks.2.2.2))
def m_save (s : Int32) (ks : KS) : Int32 × KS := if inQ s 0 1 = true then (ks.1 42, (ks.1, ks.2.1, ks.2.2.1, cpz ks.2.2.2.1 ks.1 (46 * s.toNatClampNeg) 0 46, upd ks.2.2.2.2.1 s.toNatClampNeg (vp_nar .boolean 1), ks.2.2.2.2.2)) else (-2, ks)
def m_restore (s : Int32) (ks : KS) : Int32 × KS :=
  if ¬ inQ s 0 1 = true then (-2, ks) else if ks.2.2.2.2.1 s.toNatClampNeg = 0 then (-5, ks) else (cpz ks.1 ks.2.2.2.1 0 (46 * s.toNatClampNeg) 46 42, rcK ks (cpz ks.1 ks.2.2.2.1 0 (46 * s.toNatClampNeg) 46))
theorem mwn_nn {z : IA} {k cn : Nat} (h : mwn z k cn ≤ 0) : mwn z k cn = 0 := by
  revert h
  rw [mwn]
  repeat' split
  all_goals (intro h; first | rfl | exact absurd h (by decide))
theorem okc_ne {v : Int32} (h : okc v) (h0 : ¬ v = -6) : ∃ k : Nat, 1 ≤ k ∧ k ≤ 6 ∧ v = nI k := h.resolve_left h0
theorem cor_eq {z be sl sv pd as nd z' be' sl' sv' pd' : IA} {sts ln sts' ln' : Nat} {go : Int32} (h1 : z = z') (h2 : be = be') (h3 : sts = sts') (h4 : sl = sl') (h5 : sv = sv') (h6 : pd = pd') (h7 : ln = ln') : cor (z, be, sts, sl, sv, pd, ln, as, go, nd) = (z', be', sts', sl', sv', pd', ln') := by
  subst h1; subst h2; subst h3; subst h4; subst h5; subst h6; subst h7; rfl
theorem sw_ne {x : Int32} {lo hi q : Nat} (h : x.toInt < (lo : Int) ∨ (hi : Int) < x.toInt) (hq : (lo ≤ q ∧ q ≤ hi) ∧ q < 2 ^ 31) : ¬ x = nI q := fun e => by
  rw [e, nI_toInt hq.2] at h; omega
theorem upd_self {f : IA} {k : Nat} : upd f k (f k) = f := by
  funext j; simp only [upd]; split
  · rename_i h; rw [h]
  · rfl
theorem cpz_out {f g : IA} {o q j : Nat} : ∀ n, (j < o ∨ o + n ≤ j) → cpz f g o q n j = f j
  | 0, _ => rfl
  | n + 1, h => by rw [cpz, upd_ne (by omega), cpz_out n (by omega)]
theorem cpz_at {f g : IA} {o q j : Nat} : ∀ n, j < n → cpz f g o q n (o + j) = g (q + j)
  | 0, h => absurd h (Nat.not_lt_zero j)
  | n + 1, h => by
    rw [cpz]
    by_cases e : j = n
    · rw [e, upd_eq]
    · rw [upd_ne (by omega), cpz_at n (by omega)]
theorem cpz_in {f g : IA} {j n : Nat} (h : j < n) : cpz f g 0 0 n j = g j := by
  have := cpz_at (f := f) (g := g) (o := 0) (q := 0) n h
  rwa [Nat.zero_add] at this
