-- ===== what the reference's methods answer, over its row z =====
def inQ (v lo hi : Int32) : Bool := decide (¬ v < lo ∧ ¬ hi < v)
theorem in31 {v : Int32} : inQ v 0 31 = true ↔ ¬ v < 0 ∧ ¬ 32 ≤ v := by
  have h1 := (toInt_c (x := v) (c := 32) 32 (by decide)).2
  have h2 : (31 : Int32) < v ↔ (31 : Int) < v.toInt := by rw [Int32.lt_iff_toInt_lt]; rfl
  simp only [inQ, decide_eq_true_eq, h1, h2]
  constructor <;> intro h <;> exact ⟨h.1, by omega⟩
theorem rf_in {p : Nat} {v : Int32} (h : inQ v 0 31 = true) : jr (nI (8 * p) + v) 32 = rf p v := by
  have := in31.mp h
  rw [rf, if_neg this.1, if_neg this.2]
theorem rf_out {p : Nat} {v : Int32} (h : ¬ inQ v 0 31 = true) : (-6 : Int32) = rf p v := by
  rw [in31] at h
  rw [rf]; split
  · rfl
  · rename_i g
    rw [if_pos (Decidable.byContradiction fun q => h ⟨g, q⟩)]
def okf (f : Int32) : Prop := f = -6 ∨ ∃ a : Nat, a < 32 ∧ f = nI a
theorem rf_nI {p b : Nat} (hp : p < 4) (hb : b < 32) : rf p (nI b) = nI ((8 * p + b) % 32) := by
  rw [rf, if_neg (nI_pos (by omega)), if_neg (show ¬ (32 : Int32) ≤ nI b from nI_ge (b := 32) hb (by decide)), nI_add, jr, show (32 : Int32) = nI 32 from rfl, pk_rem (by omega) (by decide) (by decide)]
theorem rf_okf {p : Nat} (v : Int32) (hp : p < 4) : okf (rf p v) := by
  by_cases h1 : v < 0
  · exact Or.inl (by rw [rf, if_pos h1])
  · by_cases h2 : (32 : Int32) ≤ v
    · exact Or.inl (by rw [rf, if_neg h1, if_pos h2])
    · rw [(toInt_c (x := v) (c := 0) 0 (by decide)).1] at h1
      rw [(toInt_c (x := v) (c := 32) 32 (by decide)).2] at h2
      obtain ⟨j, hj, rfl⟩ : ∃ j : Nat, j < 32 ∧ v = nI j := ⟨v.toInt.toNat, by omega, Int32.toInt_inj.mp (by rw [nI_toInt (by omega)]; omega)⟩
      exact Or.inr ⟨(8 * p + j) % 32, by omega, rf_nI hp hj⟩
def mfa (z : IA) (f : Int32) : Bool := decide (¬ f < 0 ∧ jr f 8 = 4 ∧ z (24 + f.toNatClampNeg / 8) = 1)
def mpP (z : IA) (p : Nat) (f : Int32) (k : Nat) : Bool := decide (¬ f < 0 ∧ rf ((3 * p + k) / 3) (z (3 * p + k)) = f)
def mpc (z : IA) (p : Nat) (f : Int32) : Nat := cnt (mpP z p f) 3
theorem mpc_le {z : IA} {p : Nat} {f : Int32} : mpc z p f ≤ 3 := cnt_le _ 3
def ao (z : IA) (f : Int32) : Nat → Nat
  | 0 => 0
  | p + 1 => ao z f p + mpc z p f
theorem ao_le {z : IA} {f : Int32} : ∀ n, ao z f n ≤ 3 * n
  | 0 => Nat.le_refl 0
  | n + 1 => by have := ao_le (z := z) (f := f) n; have := mpc_le (z := z) (p := n) (f := f); rw [ao]; omega
def prO (z : IA) (f : Int32) : Nat → Bool
  | 0 => false
  | p + 1 => prO z f p || decide (1 < mpc z p f)
def blO (z : IA) (pn : Nat) (f : Int32) : Nat → Bool
  | 0 => false
  | p + 1 => blO z pn f p || decide (¬ p = pn ∧ 1 < mpc z p f)
def mhP (z : IA) (p k : Nat) : Bool := decide (z (3 * p + k) = 35)
def mho (z : IA) (p : Nat) : Nat := cnt (mhP z p) 3
def mwP (z : IA) (p : Nat) : Bool := decide (mho z p = 3)
def mwi (z : IA) : Int32 := low (mwP z) 0 4
theorem low_ok (P : Nat → Bool) : ∀ n a, low P a n = -6 ∨ ∃ b, a ≤ b ∧ b < a + n ∧ low P a n = nI b ∧ P b = true
  | 0, a => Or.inl rfl
  | n + 1, a => by
    rw [low]; split
    · rename_i h; exact Or.inr ⟨a, by omega, by omega, rfl, h⟩
    · rcases low_ok P n (a + 1) with h | ⟨b, h1, h2, h3⟩
      · exact Or.inl h
      · exact Or.inr ⟨b, by omega, by omega, h3⟩
theorem nI_dec (b : Nat) : nI (b + 1) + Int32.ofInt (-1) = nI b := by
  show nI (b + 1) + (-1) = nI b
  exact pk_m1 b
/-- bridges are looked at -/
def lk1 (z : IA) (b : Nat) : IA := if z (24 + b) = 0 ∧ prO z (nI (8 * b + 4)) 4 = true then upd z (28 + b) 1 else z
def lk2 (z : IA) (b : Nat) : IA :=
  if z (28 + b) = 1 ∧ ao z (nI (8 * b + 4)) 4 = 0 then
    upd (upd (upd (upd z (28 + b) 0) (24 + b) 1) (32 + b) (upd (upd z (28 + b) 0) (24 + b) 1 42)) 45 (upd (upd (upd z (28 + b) 0) (24 + b) 1) (32 + b) (upd (upd z (28 + b) 0) (24 + b) 1 42) 45 + 1)
  else z
def lk (z : IA) : Nat → IA
  | 0 => z
  | b + 1 => lk2 (lk1 (lk z b) b) b
/-- rows copied place by place: from g at q on, to f at o on -/
def cpz (f g : IA) (o q : Nat) : Nat → IA
  | 0 => f
  | k + 1 => upd (cpz f g o q k) (o + k) (g (q + k))
def shf (be : IA) : Nat → IA
  | 0 => be
  | k + 1 => upd (shf be k) k (shf be k (46 + k))
def rcB (be z : IA) (sts : Nat) : IA := if sts = 6 then cpz (shf be 230) z 230 0 46 else cpz be z (46 * sts) 0 46
def rcN (sts : Nat) : Nat := if sts = 6 then 6 else sts + 1
def mfN (z : IA) (p a : Nat) : Bool := mfa z (rf p (nI a))
def tgtM (z : IA) (p : Nat) (v : Int32) (c : Nat) : Int32 := if v = -6 then 0 else tgI (tg (mfN z p) v.toNatClampNeg c)
theorem tgtM_ok {z : IA} {p c : Nat} {v : Int32} : okv (tgtM z p v c) := by
  rw [tgtM]; split
  · exact Or.inr ⟨0, by omega, rfl⟩
  · exact tgI_ok _
theorem okv_neg {v : Int32} (h : okv v) (h0 : ¬ 0 ≤ v) : v = -6 := by
  rcases h with h | ⟨a, ha, rfl⟩
  · exact h
  · exact absurd (nI_pos' (by omega)) h0
theorem okv_nn {v : Int32} (h : okv v) (h0 : 0 ≤ v) : ∃ a : Nat, a ≤ 35 ∧ v = nI a := by
  rcases h with rfl | h
  · exact absurd h0 (by decide)
  · exact h
/-- a step's state: b reached, x left, e whether it may end here -/
def stH (F : Nat → Bool) (r : Int32) (b : Nat) (x : Int32) (e : Bool) : Prop := (∃ l : Nat, l ≤ 6 ∧ x = nI l ∧ r = tgI (tg F b l) ∧ (l = 0 → e = !F b)) ∨ (x = -1 ∧ r = -6)
theorem stH_0 {F : Nat → Bool} {a c : Nat} {e : Bool} (h1 : 1 ≤ c) (h6 : c ≤ 6) : stH F (tgI (tg F a c)) a (nI c) e := Or.inl ⟨c, h6, rfl, rfl, fun h => absurd h (by omega)⟩
theorem stH_f {F : Nat → Bool} {r : Int32} {b l : Nat} (h0 : 0 < l) (hl : l ≤ 6) (hr : r = tgI (tg F b l)) (hF : F (b + 1) = true) : stH F r (b + 1) (nI l - 2) false := by
  obtain ⟨k, rfl⟩ : ∃ k, l = k + 1 := ⟨l - 1, by omega⟩
  cases k with
  | zero => refine Or.inr ⟨by decide, ?_⟩; rw [hr, tg, if_pos hF]; rfl
  | succ k => exact Or.inl ⟨k, by omega, pk_sub (a := k + 1 + 1) (b := 2) (by omega), by rw [hr, tg, if_pos hF], fun _ => by rw [hF]; rfl⟩
theorem stH_s {F : Nat → Bool} {r : Int32} {b l : Nat} (h0 : 0 < l) (hl : l ≤ 6) (hr : r = tgI (tg F b l)) (hF : ¬ F (b + 1) = true) : stH F r (b + 1) (nI l - 1) true := by
  obtain ⟨k, rfl⟩ : ∃ k, l = k + 1 := ⟨l - 1, by omega⟩
  refine Or.inl ⟨k, by omega, nI_pred k, ?_, fun _ => by simp [hF]⟩
  cases k with
  | zero => rw [hr]; simp [tg, hF]
  | succ k => rw [hr, tg, if_neg hF]
/-- the last places of a way that is blocked -/
def mbP (z : IA) (p a : Nat) : Bool := blO z p (rf p (nI a)) 4
def mbQ (z : IA) (p : Nat) (v : Int32) (t : Nat) : Bool := anyp (mbP z p) (fst0 v) (t + 1 - fst0 v)
def moP (z : IA) (p t j : Nat) : Bool := decide (z (3 * p + j) = nI t ∧ t < 35)
def mow (z : IA) (p t : Nat) : Nat := cnt (moP z p t) 3
def mwn (z : IA) (k cn : Nat) : Int32 :=
  if z k = 35 then 1 else if z k = -6 ∧ ¬ z 36 ≤ nI cn then 2 else if tgtM z (k / 3) (z k) cn = -6 then 3 else if mbQ z (k / 3) (z k) (tgtM z (k / 3) (z k) cn).toNatClampNeg = true then 4
  else if 1 < mow z (k / 3) (tgtM z (k / 3) (z k) cn).toNatClampNeg then 5
  else if ¬ rf (k / 3) (tgtM z (k / 3) (z k) cn) < 0 ∧ jr (rf (k / 3) (tgtM z (k / 3) (z k) cn)) 8 = 0 ∧ mow z (k / 3) (tgtM z (k / 3) (z k) cn).toNatClampNeg < ao z (rf (k / 3) (tgtM z (k / 3) (z k) cn)) 4 then 6 else 0
/-- the goal that is noted -/
def mgo (z : IA) (k cn : Nat) (go : Int32) : Int32 := if z k = 35 then go else if z k = -6 ∧ ¬ z 36 ≤ nI cn then go else tgtM z (k / 3) (z k) cn
/-- the greatest place below n where P holds -/
def hip (P : Nat → Bool) : Nat → Int32
  | 0 => -6
  | n + 1 => if P n then nI n else hip P n
def otP (z : IA) (p : Nat) (f : Int32) (k : Nat) : Bool := decide (¬ k / 3 = p ∧ ¬ f < 0 ∧ rf (k / 3) (z k) = f)
def ot (z : IA) (p : Nat) (f : Int32) : Int32 := hip (otP z p f) 12
theorem hip_ok (P : Nat → Bool) : ∀ n, hip P n = -6 ∨ ∃ b, b < n ∧ hip P n = nI b ∧ P b = true
  | 0 => Or.inl rfl
  | n + 1 => by
    rw [hip]; split
    · rename_i h; exact Or.inr ⟨n, by omega, rfl, h⟩
    · rcases hip_ok P n with h | ⟨b, h1, h2⟩
      · exact Or.inl h
      · exact Or.inr ⟨b, by omega, h2⟩
def mvM (z : IA) (k : Nat) (go : Int32) : IA :=
  lk (upd (if ot z (k / 3) (rf (k / 3) go) = -6 then z else
    upd (upd (upd z (ot z (k / 3) (rf (k / 3) go)).toNatClampNeg (-6)) (12 + (ot z (k / 3) (rf (k / 3) go)).toNatClampNeg) (upd z (ot z (k / 3) (rf (k / 3) go)).toNatClampNeg (-6) (12 + (ot z (k / 3) (rf (k / 3) go)).toNatClampNeg) + 1)) 44
      (upd (upd z (ot z (k / 3) (rf (k / 3) go)).toNatClampNeg (-6)) (12 + (ot z (k / 3) (rf (k / 3) go)).toNatClampNeg) (upd z (ot z (k / 3) (rf (k / 3) go)).toNatClampNeg (-6) (12 + (ot z (k / 3) (rf (k / 3) go)).toNatClampNeg) + 1) 44 + 1)) k go) 4
def mcP (z : IA) (pl cn k : Nat) : Bool := decide (mwn z (3 * pl + k) cn = 0)
def mcQ (z : IA) (pl cn : Nat) : Nat → Bool
  | 0 => false
  | k + 1 => mcQ z pl cn k || mcP z pl cn k
def mend (z : IA) : Nat → IA
  | 0 => z
  | b + 1 => if mend z b (24 + b) = 1 ∧ ¬ mend z b 37 ≤ 0 ∧ ¬ mend z b 42 - mend z b (32 + b) < mend z b 37 then upd (mend z b) (24 + b) 0 else mend z b
def goM (z : IA) (pl : Nat) : IA :=
  if ¬ mwi (upd z 41 (-6)) < 0 ∨ (z 41 = 6 ∧ ¬ z 38 < z 43) then upd z 41 (-6)
  else mend (upd (upd (upd (upd z 41 (-6)) 40 (nI ((pl + 1) % 4))) 42 (z 42 + 1)) 43 0) 4
def drM (z : IA) : IA := upd z 39 (nx (z 39))
def dcM (z : IA) (c : Int32) : IA := upd (upd z 41 c) 43 (z 43 + 1)
theorem st_b1 {b y : Nat} (h0 : 0 < y) (hy : y ≤ 6) (h : b + y ≤ 41) : ∀ l : Nat, nI y - 1 = nI l → l ≤ 6 → b + 1 + l ≤ 41 := fun l e hl => by
  rw [show (1 : Int32) = nI 1 from rfl, pk_sub h0, nI_eq (by omega) (by omega)] at e; omega
theorem st_b2 {b y : Nat} (h0 : 0 < y) (hy : y ≤ 6) (h : b + y ≤ 41) : ∀ l : Nat, nI y - 2 = nI l → l ≤ 6 → b + 1 + l ≤ 41 := fun l e hl => by
  by_cases q : 2 ≤ y
  · rw [show (2 : Int32) = nI 2 from rfl, pk_sub q, nI_eq (by omega) (by omega)] at e; omega
  · obtain rfl : y = 1 := by omega
    exact absurd e.symm (nI_neg (by omega) (by decide))
theorem st_e {F : Nat → Bool} {r : Int32} {b y : Nat} {e : Bool} (he : r = tgI (tg F b y)) (he3 : y = 0 → e = !F b) (h0 : y = 0) (ht : e = true) (hb : b ≤ 35) : nI b = r := by
  have h := he3 h0
  rw [ht] at h
  rw [he, h0, tg, if_neg (by intro q; rw [q] at h; cases h), tgI, if_pos hb]
theorem st_n1 {F : Nat → Bool} {r : Int32} {b y : Nat} {e : Bool} (he : r = tgI (tg F b y)) (he3 : y = 0 → e = !F b) (h0 : y = 0) (ht : ¬ e = true) : (-6 : Int32) = r := by
  have h := he3 h0
  rw [he, h0, tg, if_pos (by cases hF : F b with | true => rfl | false => rw [hF] at h; exact absurd h ht), tgI]
theorem st_n2 {F : Nat → Bool} {r : Int32} {b y : Nat} {e : Bool} (he : r = tgI (tg F b y)) (_ : y = 0 → e = !F b) (h0 : y = 0) (hb : 35 < b) : (-6 : Int32) = r := by
  rw [he, h0, tg]; split
  · rfl
  · rw [tgI, if_neg (by omega)]
