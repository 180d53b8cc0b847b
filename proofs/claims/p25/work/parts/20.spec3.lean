-- ===== what the reference's methods answer, over its row z =====
def inQ (v lo hi : Int32) : Bool := decide (¬ v < lo ∧ ¬ hi < v)
theorem in31 {v : Int32} : inQ v 0 31 = true ↔ ¬ v < 0 ∧ ¬ 32 ≤ v := by
  have h1 := (toInt_c (x := v) (c := 32) 32 (by decide)).2
  have h2 : (31 : Int32) < v ↔ (31 : Int) < v.toInt := by rw [Int32.lt_iff_toInt_lt]; rfl
  simp only [inQ, decide_eq_true_eq, h1, h2]
  constructor <;> intro h <;> exact ⟨h.1, by omega⟩
theorem rf_in {p : Nat} {v : Int32} (h : inQ v 0 31 = true) : jr (nI (8 * p) + v) 32 = rf p v := by
  have := in31.mp h
  rw [rf, if_neg this.1, if_neg this.2]
theorem rf_out {p : Nat} {v : Int32} (h : ¬ inQ v 0 31 = true) : (-6 : Int32) = rf p v := by
  rw [in31] at h
  rw [rf]; split
  · rfl
  · rename_i g
    rw [if_pos (Decidable.byContradiction fun q => h ⟨g, q⟩)]
def okf (f : Int32) : Prop := f = -6 ∨ ∃ a : Nat, a < 32 ∧ f = nI a
theorem rf_nI {p b : Nat} (hp : p < 4) (hb : b < 32) : rf p (nI b) = nI ((8 * p + b) % 32) := by
  rw [rf, if_neg (nI_pos (by omega)), if_neg (show ¬ (32 : Int32) ≤ nI b from nI_ge (b := 32) hb (by decide)), nI_add, jr, show (32 : Int32) = nI 32 from rfl, pk_rem (by omega) (by decide) (by decide)]
theorem rf_okf {p : Nat} (v : Int32) (hp : p < 4) : okf (rf p v) := by
  by_cases h1 : v < 0
  · exact Or.inl (by rw [rf, if_pos h1])
  · by_cases h2 : (32 : Int32) ≤ v
    · exact Or.inl (by rw [rf, if_neg h1, if_pos h2])
    · rw [(toInt_c (x := v) (c := 0) 0 (by decide)).1] at h1
      rw [(toInt_c (x := v) (c := 32) 32 (by decide)).2] at h2
      obtain ⟨j, hj, rfl⟩ : ∃ j : Nat, j < 32 ∧ v = nI j := ⟨v.toInt.toNat, by omega, Int32.toInt_inj.mp (by rw [nI_toInt (by omega)]; omega)⟩
      exact Or.inr ⟨(8 * p + j) % 32, by omega, rf_nI hp hj⟩
def mfa (z : IA) (f : Int32) : Bool := decide (¬ f < 0 ∧ jr f 8 = 4 ∧ z (24 + f.toNatClampNeg / 8) = 1)
def mpP (z : IA) (p : Nat) (f : Int32) (k : Nat) : Bool := decide (¬ f < 0 ∧ rf ((3 * p + k) / 3) (z (3 * p + k)) = f)
def mpc (z : IA) (p : Nat) (f : Int32) : Nat := cnt (mpP z p f) 3
theorem mpc_le {z : IA} {p : Nat} {f : Int32} : mpc z p f ≤ 3 := cnt_le _ 3
def ao (z : IA) (f : Int32) : Nat → Nat
  | 0 => 0
  | p + 1 => ao z f p + mpc z p f
theorem ao_le {z : IA} {f : Int32} : ∀ n, ao z f n ≤ 3 * n
  | 0 => Nat.le_refl 0
  | n + 1 => by have := ao_le (z := z) (f := f) n; have := mpc_le (z := z) (p := n) (f := f); rw [ao]; omega
def prO (z : IA) (f : Int32) : Nat → Bool
  | 0 => false
  | p + 1 => prO z f p || decide (1 < mpc z p f)
def blO (z : IA) (pn : Nat) (f : Int32) : Nat → Bool
  | 0 => false
  | p + 1 => blO z pn f p || decide (¬ p = pn ∧ 1 < mpc z p f)
def mhP (z : IA) (p k : Nat) : Bool := decide (z (3 * p + k) = 35)
def mho (z : IA) (p : Nat) : Nat := cnt (mhP z p) 3
def mwP (z : IA) (p : Nat) : Bool := decide (mho z p = 3)
def mwi (z : IA) : Int32 := low (mwP z) 0 4
theorem low_ok (P : Nat → Bool) : ∀ n a, low P a n = -6 ∨ ∃ b, a ≤ b ∧ b < a + n ∧ low P a n = nI b ∧ P b = true
  | 0, a => Or.inl rfl
  | n + 1, a => by
    rw [low]; split
    · rename_i h; exact Or.inr ⟨a, by omega, by omega, rfl, h⟩
    · rcases low_ok P n (a + 1) with h | ⟨b, h1, h2, h3⟩
      · exact Or.inl h
      · exact Or.inr ⟨b, by omega, by omega, h3⟩
theorem nI_dec (b : Nat) : nI (b + 1) + Int32.ofInt (-1) = nI b := by
  show nI (b + 1) + (-1) = nI b
  exact pk_m1 b
/-- bridges are looked at -/
def lk1 (z : IA) (b : Nat) : IA := if z (24 + b) = 0 ∧ prO z (nI (8 * b + 4)) 4 = true then upd z (28 + b) 1 else z
def lk2 (z : IA) (b : Nat) : IA :=
  if z (28 + b) = 1 ∧ ao z (nI (8 * b + 4)) 4 = 0 then
    upd (upd (upd (upd z (28 + b) 0) (24 + b) 1) (32 + b) (upd (upd z (28 + b) 0) (24 + b) 1 42)) 45 (upd (upd (upd z (28 + b) 0) (24 + b) 1) (32 + b) (upd (upd z (28 + b) 0) (24 + b) 1 42) 45 + 1)
  else z
def lk (z : IA) : Nat → IA
  | 0 => z
  | b + 1 => lk2 (lk1 (lk z b) b) b
/-- rows copied place by place: from g at q on, to f at o on -/
def cpz (f g : IA) (o q : Nat) : Nat → IA
  | 0 => f
  | k + 1 => upd (cpz f g o q k) (o + k) (g (q + k))
def shf (be : IA) : Nat → IA
  | 0 => be
  | k + 1 => upd (shf be k) k (shf be k (46 + k))
def rcB (be z : IA) (sts : Nat) : IA := if sts = 6 then cpz (shf be 230) z 230 0 46 else cpz be z (46 * sts) 0 46
def rcN (sts : Nat) : Nat := if sts = 6 then 6 else sts + 1
def mfN (z : IA) (p a : Nat) : Bool := mfa z (rf p (nI a))
def tgtM (z : IA) (p : Nat) (v : Int32) (c : Nat) : Int32 := if v = -6 then 0 else tgI (tg (mfN z p) v.toNatClampNeg c)
theorem tgtM_ok {z : IA} {p c : Nat} {v : Int32} : okv (tgtM z p v c) := by
  rw [tgtM]; split
  · exact Or.inr ⟨0, by omega, rfl⟩
  · exact tgI_ok _
theorem okv_neg {v : Int32} (h : okv v) (h0 : ¬ 0 ≤ v) : v = -6 := by
  rcases h with h | ⟨a, ha, rfl⟩
  · exact h
  · exact absurd (nI_pos' (by omega)) h0
theorem okv_nn {v : Int32} (h : okv v) (h0 : 0 ≤ v) : ∃ a : Nat, a ≤ 35 ∧ v = nI a := by
  rcases h with rfl | h
  · exact absurd h0 (by decide)
  · exact h
/-- a step's state: b reached, x left, e whether it may end here -/
def stH (F : Nat → Bool) (r : Int32) (b : Nat) (x : Int32) (e : Bool) : Prop := (∃ l : Nat, l ≤ 6 ∧ x = nI l ∧ r = tgI (tg F b l) ∧ (l = 0 → e = !F b)) ∨ (x = -1 ∧ r = -6)
theorem stH_0 {F : Nat → Bool} {a c : Nat} {e : Bool} (h1 : 1 ≤ c) (h6 : c ≤ 6) : stH F (tgI (tg F a c)) a (nI c) e := Or.inl ⟨c, h6, rfl, rfl, fun h => absurd h (by omega)⟩
theorem stH_f {F : Nat → Bool} {r : Int32} {b l : Nat} (h0 : 0 < l) (hl : l ≤ 6) (hr : r = tgI (tg F b l)) (hF : F (b + 1) = true) : stH F r (b + 1) (nI l - 2) false := by
  obtain ⟨k, rfl⟩ : ∃ k, l = k + 1 := ⟨l - 1, by omega⟩
  cases k with
  | zero => refine Or.inr ⟨by decide, ?_⟩; rw [hr, tg, if_pos hF]; rfl
  | succ k => exact Or.inl ⟨k, by omega, pk_sub (a := k + 1 + 1) (b := 2) (by omega), by rw [hr, tg, if_pos hF], fun _ => by rw [hF]; rfl⟩
theorem stH_s {F : Nat → Bool} {r : Int32} {b l : Nat} (h0 : 0 < l) (hl : l ≤ 6) (hr : r = tgI (tg F b l)) (hF : ¬ F (b + 1) = true) : stH F r (b + 1) (nI l - 1) true := by
  obtain ⟨k, rfl⟩ : ∃ k, l = k + 1 := ⟨l - 1, by omega⟩
  refine Or.inl ⟨k, by omega, nI_pred k, ?_, fun _ => by simp [hF]⟩
  cases k with
  | zero => rw [hr]; simp [tg, hF]
  | succ k => rw [hr, tg, if_neg hF]
/-- the last places of a way that is blocked -/
def mbP (z : IA) (p a : Nat) : Bool := blO z p (rf p (nI a)) 4
def mbQ (z : IA) (p : Nat) (v : Int32) (t : Nat) : Bool := anyp (mbP z p) (fst0 v) (t + 1 - fst0 v)
def moP (z : IA) (p t j : Nat) : Bool := decide (z (3 * p + j) = nI t ∧ t < 35)
def mow (z : IA) (p t : Nat) : Nat := cnt (moP z p t) 3
def mwn (z : IA) (k cn : Nat) : Int32 :=
  if z k = 35 then 1 else if z k = -6 ∧ ¬ z 36 ≤ nI cn then 2 else if tgtM z (k / 3) (z k) cn = -6 then 3 else if mbQ z (k / 3) (z k) (tgtM z (k / 3) (z k) cn).toNatClampNeg = true then 4
  else if 1 < mow z (k / 3) (tgtM z (k / 3) (z k) cn).toNatClampNeg then 5
  else if ¬ rf (k / 3) (tgtM z (k / 3) (z k) cn) < 0 ∧ jr (rf (k / 3) (tgtM z (k / 3) (z k) cn)) 8 = 0 ∧ mow z (k / 3) (tgtM z (k / 3) (z k) cn).toNatClampNeg < ao z (rf (k / 3) (tgtM z (k / 3) (z k) cn)) 4 then 6 else 0
/-- the goal that is noted -/
def mgo (z : IA) (k cn : Nat) (go : Int32) : Int32 := if z k = 35 then go else if z k = -6 ∧ ¬ z 36 ≤ nI cn then go else tgtM z (k / 3) (z k) cn
theorem tgI_gt {F : Nat → Bool} {a c t : Nat} (e : tgI (tg F a c) = nI t) (hc : 1 ≤ c) (ht : t ≤ 35) : a < t := by
  cases h : tg F a c with
  | none => rw [h] at e; exact absurd e.symm (nI_neg (by omega) (by decide))
  | some b =>
    rw [h, tgI] at e
    by_cases q : b ≤ 35
    · rw [if_pos q, nI_eq (by omega) (by omega)] at e
      have := (tg_le c a b h).2.2.1 (by omega)
      omega
    · rw [if_neg q] at e; exact absurd e.symm (nI_neg (by omega) (by decide))
/-- the greatest place below n where P holds -/
def hip (P : Nat → Bool) : Nat → Int32
  | 0 => -6
  | n + 1 => if P n then nI n else hip P n
def otP (z : IA) (p : Nat) (f : Int32) (k : Nat) : Bool := decide (¬ k / 3 = p ∧ ¬ f < 0 ∧ rf (k / 3) (z k) = f)
def ot (z : IA) (p : Nat) (f : Int32) : Int32 := hip (otP z p f) 12
theorem hip_ok (P : Nat → Bool) : ∀ n, hip P n = -6 ∨ ∃ b, b < n ∧ hip P n = nI b ∧ P b = true
  | 0 => Or.inl rfl
  | n + 1 => by
    rw [hip]; split
    · rename_i h; exact Or.inr ⟨n, by omega, rfl, h⟩
    · rcases hip_ok P n with h | ⟨b, h1, h2⟩
      · exact Or.inl h
      · exact Or.inr ⟨b, by omega, h2⟩
/-- the row when the other piece o is sent back -/
def sbM (z : IA) (o : Nat) : IA := upd (upd (upd z o (-6)) (12 + o) (upd z o (-6) (12 + o) + 1)) 44 (upd (upd z o (-6)) (12 + o) (upd z o (-6) (12 + o) + 1) 44 + 1)
def mvM (z : IA) (k : Nat) (go : Int32) : IA :=
  lk (upd (if ot z (k / 3) (rf (k / 3) go) < 0 then z else sbM z (ot z (k / 3) (rf (k / 3) go)).toNatClampNeg) k go) 4
def mcP (z : IA) (pl cn k : Nat) : Bool := decide (mwn z (3 * pl + k) cn = 0)
def mcQ (z : IA) (pl cn : Nat) : Nat → Bool
  | 0 => false
  | k + 1 => mcQ z pl cn k || mcP z pl cn k
def mend (z : IA) : Nat → IA
  | 0 => z
  | b + 1 => if mend z b (24 + b) = 1 ∧ ¬ mend z b 37 ≤ 0 ∧ ¬ mend z b 42 - mend z b (32 + b) < mend z b 37 then upd (mend z b) (24 + b) 0 else mend z b
def goM (z : IA) (pl : Nat) : IA :=
  if ¬ mwi (upd z 41 (-6)) < 0 ∨ (z 41 = 6 ∧ ¬ z 38 < z 43) then upd z 41 (-6)
  else mend (upd (upd (upd (upd z 41 (-6)) 40 (nI ((pl + 1) % 4))) 42 (z 42 + 1)) 43 0) 4
def drM (z : IA) : IA := upd z 39 (nx (z 39))
def dcM (z : IA) (c : Int32) : IA := upd (upd z 41 c) 43 (z 43 + 1)
theorem st_b1 {b y : Nat} (h0 : 0 < y) (hy : y ≤ 6) (h : b + y ≤ 41) : ∀ l : Nat, nI y - 1 = nI l → l ≤ 6 → b + 1 + l ≤ 41 := fun l e hl => by
  rw [show (1 : Int32) = nI 1 from rfl, pk_sub h0, nI_eq (by omega) (by omega)] at e; omega
theorem st_b2 {b y : Nat} (h0 : 0 < y) (hy : y ≤ 6) (h : b + y ≤ 41) : ∀ l : Nat, nI y - 2 = nI l → l ≤ 6 → b + 1 + l ≤ 41 := fun l e hl => by
  by_cases q : 2 ≤ y
  · rw [show (2 : Int32) = nI 2 from rfl, pk_sub q, nI_eq (by omega) (by omega)] at e; omega
  · obtain rfl : y = 1 := by omega
    exact absurd e.symm (nI_neg (by omega) (by decide))
theorem st_e {F : Nat → Bool} {r : Int32} {b y : Nat} {e : Bool} (he : r = tgI (tg F b y)) (he3 : y = 0 → e = !F b) (h0 : y = 0) (ht : e = true) (hb : b ≤ 35) : nI b = r := by
  have h := he3 h0
  rw [ht] at h
  rw [he, h0, tg, if_neg (by intro q; rw [q] at h; cases h), tgI, if_pos hb]
theorem st_n1 {F : Nat → Bool} {r : Int32} {b y : Nat} {e : Bool} (he : r = tgI (tg F b y)) (he3 : y = 0 → e = !F b) (h0 : y = 0) (ht : ¬ e = true) : (-6 : Int32) = r := by
  have h := he3 h0
  rw [he, h0, tg, if_pos (by cases hF : F b with | true => rfl | false => rw [hF] at h; exact absurd h ht), tgI]
theorem st_n2 {F : Nat → Bool} {r : Int32} {b y : Nat} {e : Bool} (he : r = tgI (tg F b y)) (_ : y = 0 → e = !F b) (h0 : y = 0) (hb : 35 < b) : (-6 : Int32) = r := by
  rw [he, h0, tg]; split
  · rfl
  · rw [tgI, if_neg (by omega)]
theorem upd_ne {f : IA} {k j : Nat} {v : Int32} (h : j ≠ k) : upd f k v j = f j := by rw [upd, if_neg h]
theorem upd_eq {f : IA} {k : Nat} {v : Int32} : upd f k v k = v := by rw [upd, if_pos rfl]
theorem upd_upd {f : IA} {k : Nat} {v w : Int32} : upd (upd f k v) k w = upd f k w := by
  funext j; simp only [upd]; split <;> rfl
theorem lk1_lo {z : IA} {b j : Nat} (h : j < 24) : lk1 z b j = z j := by
  rw [lk1]; split
  · exact upd_ne (by omega)
  · rfl
theorem lk2_lo {z : IA} {b j : Nat} (h : j < 24) : lk2 z b j = z j := by
  rw [lk2]; split
  · rw [upd_ne (by omega), upd_ne (by omega), upd_ne (by omega), upd_ne (by omega)]
  · rfl
theorem lk_lo {z : IA} {j : Nat} (h : j < 24) : ∀ b, lk z b j = z j
  | 0 => rfl
  | b + 1 => by rw [lk, lk2_lo h, lk1_lo h, lk_lo h b]
theorem lk_hi {z : IA} {j : Nat} (h : 36 ≤ j) (h2 : j ≠ 45) : ∀ b, b ≤ 4 → lk z b j = z j
  | 0, _ => rfl
  | b + 1, hb => by
    have e1 : lk1 (lk z b) b j = lk z b j := by
      rw [lk1]; split
      · exact upd_ne (by omega)
      · rfl
    rw [lk, lk2]; split
    · rw [upd_ne h2, upd_ne (by omega), upd_ne (by omega), upd_ne (by omega), e1, lk_hi h h2 b (by omega)]
    · rw [e1, lk_hi h h2 b (by omega)]
theorem ot_ok {z : IA} {p : Nat} {f : Int32} (h : ¬ ot z p f < 0) : ∃ o, o < 12 ∧ ot z p f = nI o ∧ otP z p f o = true := by
  rcases hip_ok (otP z p f) 12 with e | h2
  · exact absurd (show hip (otP z p f) 12 < 0 by rw [e]; decide) h
  · exact h2
theorem sbM_hi {z : IA} {o j : Nat} (ho : o < 12) (h : 24 ≤ j) (h2 : j ≠ 44) : sbM z o j = z j := by rw [sbM, upd_ne h2, upd_ne (by omega), upd_ne (by omega)]
theorem mvM_hi {z : IA} {k j : Nat} {go : Int32} (hk : k < 12) (h : 36 ≤ j) (h4 : j ≠ 44) (h5 : j ≠ 45) : mvM z k go j = z j := by
  rw [mvM, lk_hi h h5 4 (by omega), upd_ne (by omega)]
  by_cases q : ot z (k / 3) (rf (k / 3) go) < 0
  · rw [if_pos q]
  · obtain ⟨o, ho, e, -⟩ := ot_ok q
    rw [if_neg q, e, nI_clamp (by omega), sbM_hi ho (by omega) h4]
theorem mvM_ok {z : IA} {k : Nat} {go : Int32} (hz : ∀ k, k < 12 → okv (z k)) (hg : okv go) : ∀ j, j < 12 → okv (mvM z k go j) := fun j hj => by
  rw [mvM, lk_lo (by omega), upd]; split
  · exact hg
  · by_cases q : ot z (k / 3) (rf (k / 3) go) < 0
    · rw [if_pos q]; exact hz j hj
    · rw [if_neg q, sbM, upd_ne (by omega), upd_ne (by omega), upd]; split
      · exact Or.inl rfl
      · exact hz j hj
theorem mend_ne {z : IA} {j : Nat} (h : j < 24 ∨ 28 ≤ j) : ∀ b, b ≤ 4 → mend z b j = z j
  | 0, _ => rfl
  | b + 1, hb => by
    rw [mend]; split
    · rw [upd_ne (by omega), mend_ne h b (by omega)]
    · exact mend_ne h b (by omega)
/-- what holds of a row at any time -/
def okm (z : IA) : Prop := (∀ k, k < 12 → okv (z k)) ∧ ¬ z 39 < 0 ∧ ∃ pl, pl < 4 ∧ z 40 = nI pl
theorem goM_ok {z : IA} {pl : Nat} (hp : pl < 4) (h40 : z 40 = nI pl) (hz : ∀ k, k < 12 → okv (z k)) (hx : ¬ z 39 < 0) : okm (goM z pl) := by
  rw [goM]; split
  · exact ⟨fun k hk => by rw [upd_ne (by omega)]; exact hz k hk, by rw [upd_ne (by decide)]; exact hx, pl, hp, by rw [upd_ne (by decide)]; exact h40⟩
  · refine ⟨fun k hk => ?_, ?_, (pl + 1) % 4, by omega, ?_⟩
    · rw [mend_ne (Or.inl (by omega)) 4 (by omega), upd_ne (by omega), upd_ne (by omega), upd_ne (by omega), upd_ne (by omega)]; exact hz k hk
    · rw [mend_ne (Or.inr (by omega)) 4 (by omega), upd_ne (by omega), upd_ne (by omega), upd_ne (by omega), upd_ne (by omega)]; exact hx
    · rw [mend_ne (Or.inr (by omega)) 4 (by omega), upd_ne (by omega), upd_ne (by omega), upd_eq]
theorem mgo_free {z : IA} {k cn : Nat} {go : Int32} (h : mwn z k cn = 0) : mgo z k cn go = tgtM z (k / 3) (z k) cn := by
  rw [mwn] at h; rw [mgo]
  split at h
  · cases h
  · rename_i h1
    rw [if_neg h1]
    split at h
    · cases h
    · rename_i h2; rw [if_neg h2]
def kdG (z : IA) (k : Nat) (t : Int32) : Int32 := if t = 35 then 3 else if ¬ ot z (k / 3) (rf (k / 3) t) < 0 then 2 else if 0 < mpc z (k / 3) (rf (k / 3) t) then 1 else 0
def kdM (z : IA) (k cn : Nat) : Int32 := kdG z k (tgtM z (k / 3) (z k) cn)
def rkM (z : IA) (k cn : Nat) : Int32 := 100 * kdM z k cn + (if z k = -6 then 0 else z k + 1)
def bpT (z : IA) (pl cn : Nat) : Nat → Int32 × Int32
  | 0 => (-6, 0)
  | k + 1 => if mwn z (3 * pl + k) cn = 0 ∧ ((bpT z pl cn k).1 < 0 ∨ ¬ rkM z (3 * pl + k) cn ≤ (bpT z pl cn k).2) then (nI k, rkM z (3 * pl + k) cn) else bpT z pl cn k
def bpM (z : IA) (pl cn : Nat) : Int32 := (bpT z pl cn 3).1
theorem bpT_ok {z : IA} {pl cn : Nat} : ∀ n, ¬ (bpT z pl cn n).1 < 0 → ∃ j, j < n ∧ (bpT z pl cn n).1 = nI j ∧ mwn z (3 * pl + j) cn = 0
  | 0, h => absurd (show (-6 : Int32) < 0 by decide) h
  | n + 1, h => by
    rw [bpT] at h ⊢
    by_cases q : mwn z (3 * pl + n) cn = 0 ∧ ((bpT z pl cn n).1 < 0 ∨ ¬ rkM z (3 * pl + n) cn ≤ (bpT z pl cn n).2)
    · rw [if_pos q]; exact ⟨n, Nat.lt_succ_self n, rfl, q.1⟩
    · rw [if_neg q] at h ⊢
      obtain ⟨j, h1, h2⟩ := bpT_ok n h
      exact ⟨j, by omega, h2⟩
theorem bpM_ok {z : IA} {pl cn : Nat} (h : ¬ bpM z pl cn < 0) : ∃ j, j < 3 ∧ bpM z pl cn = nI j ∧ mwn z (3 * pl + j) cn = 0 := bpT_ok 3 h
/-- the row behind a throw by x -/
def thM (z : IA) : IA := dcM (drM z) (co (nx (z 39)))
def mv2 (z : IA) (pl cn j : Nat) : IA := mvM z (3 * pl + j) (tgtM z ((3 * pl + j) / 3) (z (3 * pl + j)) cn)
def oneM (z : IA) : IA :=
  if bpM (thM z) (z 40).toNatClampNeg (co (nx (z 39))).toNatClampNeg < 0 then goM (thM z) (z 40).toNatClampNeg
  else goM (mv2 (thM z) (z 40).toNatClampNeg (co (nx (z 39))).toNatClampNeg (bpM (thM z) (z 40).toNatClampNeg (co (nx (z 39))).toNatClampNeg).toNatClampNeg) (z 40).toNatClampNeg
def pgM : Nat → IA → IA × Nat
  | 0, z => (z, 0)
  | n + 1, z => if mwi z < 0 then ((pgM n (oneM z)).1, (pgM n (oneM z)).2 + 1) else (z, 0)
theorem thM_at {z : IA} {j : Nat} (h : j ≠ 39) (h1 : j ≠ 41) (h2 : j ≠ 43) : thM z j = z j := by rw [thM, dcM, upd_ne h2, upd_ne h1, drM, upd_ne h]
theorem thM_39 {z : IA} : thM z 39 = nx (z 39) := by rw [thM, dcM, upd_ne (by decide), upd_ne (by decide), drM, upd_eq]
theorem thM_41 {z : IA} : thM z 41 = co (nx (z 39)) := by rw [thM, dcM, upd_ne (by decide), upd_eq]
theorem thM_43 {z : IA} : thM z 43 = z 43 + 1 := by rw [thM, dcM, upd_eq, drM, upd_ne (by decide)]
theorem oneM_y {z : IA} {pl cn : Nat} (hp : pl < 4) (h40 : z 40 = nI pl) (hc : cn ≤ 6) (ec : co (nx (z 39)) = nI cn) (h : bpM (thM z) pl cn < 0) : goM (thM z) pl = oneM z := by
  rw [oneM, h40, nI_clamp (by omega), ec, nI_clamp (by omega), if_pos h]
theorem oneM_m {z : IA} {pl cn j : Nat} (hp : pl < 4) (h40 : z 40 = nI pl) (hc : cn ≤ 6) (ec : co (nx (z 39)) = nI cn) (hj : j < 3) (h : bpM (thM z) pl cn = nI j) : goM (mv2 (thM z) pl cn j) pl = oneM z := by
  rw [oneM, h40, nI_clamp (by omega), ec, nI_clamp (by omega), h, if_neg (nI_pos (by omega)), nI_clamp (by omega)]
theorem mv2_ok {z : IA} {pl cn j : Nat} (hz : ∀ k, k < 12 → okv (z k)) : ∀ k, k < 12 → okv (mv2 z pl cn j k) := mvM_ok hz tgtM_ok
theorem oneM_ok {z : IA} (h : okm z) : okm (oneM z) := by
  obtain ⟨h1, h2, pl, hp, h40⟩ := h
  obtain ⟨cn, hc1, hc, ec⟩ := co_ok (nx_nn h2)
  have t1 : ∀ k, k < 12 → okv (thM z k) := fun k hk => by rw [thM_at (by omega) (by omega) (by omega)]; exact h1 k hk
  have t2 : ¬ thM z 39 < 0 := by rw [thM_39]; exact nx_nn h2
  have t3 : thM z 40 = nI pl := by rw [thM_at (by omega) (by omega) (by omega)]; exact h40
  by_cases q : bpM (thM z) pl cn < 0
  · rw [← oneM_y hp h40 hc ec q]; exact goM_ok hp t3 t1 t2
  · obtain ⟨j, hj, e, -⟩ := bpM_ok q
    rw [← oneM_m hp h40 hc ec hj e]
    exact goM_ok hp (by rw [mv2, mvM_hi (by omega) (by omega) (by omega) (by omega)]; exact t3) (mv2_ok t1) (by rw [mv2, mvM_hi (by omega) (by omega) (by omega) (by omega)]; exact t2)
theorem pgM_ok : ∀ (n : Nat) (z : IA), okm z → okm (pgM n z).1
  | 0, _, h => h
  | n + 1, z, h => by
    rw [pgM]; split
    · exact pgM_ok n _ (oneM_ok h)
    · exact h
theorem pgM_step {mo i : Nat} {g g' g0 : IA} (hi : i < mo) (hw : mwi g < 0) (ho : g' = oneM g) (hf : pgM mo g0 = ((pgM (mo - i) g).1, (pgM (mo - i) g).2 + i)) : pgM mo g0 = ((pgM (mo - (i + 1)) g').1, (pgM (mo - (i + 1)) g').2 + (i + 1)) := by
  rw [hf, show mo - i = (mo - (i + 1)) + 1 by omega, pgM, if_pos hw, ho, Nat.add_assoc, Nat.add_comm 1 i]
theorem pgM_end {mo i : Nat} {g g0 : IA} (h : mo ≤ i ∨ ¬ mwi g < 0) (hi : i ≤ mo) (hf : pgM mo g0 = ((pgM (mo - i) g).1, (pgM (mo - i) g).2 + i)) : pgM mo g0 = (g, i) := by
  rw [hf]
  cases e : mo - i with
  | zero => simp [pgM]
  | succ n =>
    rcases h with h | h
    · omega
    · rw [pgM, if_neg h]; simp
