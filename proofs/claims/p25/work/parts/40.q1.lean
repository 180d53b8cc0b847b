-- ===== p25: what the law's own small methods answer, over its rows vp (pieces), vs (sent back), vb (bridges), vg (game) =====
def lw (v : Int32) : Nat := v.toUInt32.toNat % 2 ^ 31
theorem lw_lt (v : Int32) : lw v < 2 ^ 31 := Nat.mod_lt _ (by decide)
theorem i32_inj {x y : Int32} (h : x.toUInt32.toNat = y.toUInt32.toNat) : x = y := congrArg UInt32.toInt32 (UInt32.toNat_inj.mp h)
theorem lw_eq (v : Int32) : v &&& 2147483647 = nI (lw v) := by
  apply i32_inj
  have h1 : (nI (lw v)).toUInt32.toNat = lw v := by
    show (BitVec.ofNat 32 (lw v)).toNat = _
    rw [BitVec.toNat_ofNat]; exact Nat.mod_eq_of_lt (Nat.lt_trans (lw_lt v) (by decide))
  rw [h1]
  show (v.toUInt32 &&& Int32.toUInt32 2147483647).toNat = _
  rw [UInt32.toNat_and]
  exact Nat.and_two_pow_sub_one_eq_mod _ 31
/-- a field of the ring, -1 off it -/
def lfd (q : Nat) (v : Int32) : Int32 := if v < 0 then -1 else if v ≤ 31 then jr (nI (q * 8) + v) 32 else -1
theorem le31 {v : Int32} : v ≤ 31 ↔ ¬ 32 ≤ v := by
  have h2 := (toInt_c (x := v) (c := 32) 32 (by decide)).2
  have h3 : v ≤ 31 ↔ v.toInt ≤ (31 : Int) := by rw [Int32.le_iff_toInt_le]; rfl
  rw [h2, h3]; omega
theorem lfd_rf {q : Nat} {v : Int32} (hq : q < 4) : (rf q v = -6 ∧ lfd q v = -1) ∨ ∃ a : Nat, a < 32 ∧ rf q v = nI a ∧ lfd q v = nI a := by
  by_cases h1 : v < 0
  · exact Or.inl ⟨by rw [rf, if_pos h1], by rw [lfd, if_pos h1]⟩
  · by_cases h2 : v ≤ 31
    · have e : lfd q v = rf q v := by rw [lfd, rf, if_neg h1, if_neg h1, if_pos h2, if_neg (le31.mp h2), Nat.mul_comm q 8]
      rcases rf_okf v hq with h | ⟨a, ha, h⟩
      · rw [rf, if_neg h1, if_neg (le31.mp h2)] at h
        rw [(toInt_c (x := v) (c := 0) 0 (by decide)).1] at h1
        have h3 : v.toInt ≤ (31 : Int) := by have := Int32.le_iff_toInt_le.mp h2; exact this
        obtain ⟨j, hj, rfl⟩ : ∃ j : Nat, j < 32 ∧ v = nI j := ⟨v.toInt.toNat, by omega, Int32.toInt_inj.mp (by rw [nI_toInt (by omega)]; omega)⟩
        have h4 := rf_nI hq hj
        rw [rf, if_neg (nI_pos (by omega)), if_neg (show ¬ (32 : Int32) ≤ nI j from nI_ge (b := 32) hj (by decide)), h] at h4
        exact absurd h4.symm (nI_neg (by omega) (by decide))
      · exact Or.inr ⟨a, ha, h, e.trans h⟩
    · have h3 : (32 : Int32) ≤ v := Decidable.byContradiction fun z => h2 (le31.mpr z)
      exact Or.inl ⟨by rw [rf, if_neg h1, if_pos h3], by rw [lfd, if_neg h1, if_neg h2]⟩
theorem lfd_eq {q : Nat} {v f : Int32} (hf : ¬ f < 0) (hq : q < 4) : lfd q v = f ↔ rf q v = f := by
  rcases lfd_rf (v := v) hq with ⟨h1, h2⟩ | ⟨a, ha, h1, h2⟩
  · rw [h1, h2]; exact ⟨fun z => absurd (by rw [← z]; decide) hf, fun z => absurd (by rw [← z]; decide) hf⟩
  · rw [h1, h2]
theorem lf_4 {q : Nat} {v : Int32} (hq : q < 4) (h : jr (lfd q v) 8 = 4) : ∃ a : Nat, a < 32 ∧ lfd q v = nI a := by
  rcases lfd_rf (v := v) hq with ⟨h1, h2⟩ | ⟨a, ha, h1, h2⟩
  · rw [h2] at h; exact absurd h (by decide)
  · exact ⟨a, ha, h2⟩
theorem lf_nn {q : Nat} {v : Int32} (hq : q < 4) (h : ¬ lfd q v < 0) : ∃ a : Nat, a < 32 ∧ lfd q v = nI a := by
  rcases lfd_rf (v := v) hq with ⟨h1, h2⟩ | ⟨a, ha, h1, h2⟩
  · rw [h2] at h; exact absurd (by decide) h
  · exact ⟨a, ha, h2⟩
/-- pieces on a field: the row's own words -/
theorem mp_t {vp : IA} {pn i : Nat} {f : Int32} (hp : pn < 4) (h0 : 3 * pn ≤ i) (h1 : i < 3 * pn + 3) (hf : ¬ f < 0) (h : lfd (i / 3) (vp i) = f) : mpP vp pn f (i - 3 * pn) = true := by
  rw [mpP, show 3 * pn + (i - 3 * pn) = i by omega]
  exact decide_eq_true ⟨hf, (lfd_eq hf (by omega)).mp h⟩
theorem mp_f {vp : IA} {pn i : Nat} {f : Int32} (hp : pn < 4) (h0 : 3 * pn ≤ i) (h1 : i < 3 * pn + 3) (hf : ¬ f < 0) (h : ¬ lfd (i / 3) (vp i) = f) : ¬ mpP vp pn f (i - 3 * pn) = true := by
  rw [mpP, show 3 * pn + (i - 3 * pn) = i by omega, decide_eq_true_eq]
  exact fun w => h ((lfd_eq hf (by omega)).mpr w.2)
theorem mp_0 {vp : IA} {pn j : Nat} {f : Int32} (hf : f < 0) : ¬ mpP vp pn f j = true := by
  rw [mpP, decide_eq_true_eq]; exact fun w => w.1 hf
theorem ao_sum {z : IA} {f : Int32} : nI (mpc z 0 f + mpc z 1 f + mpc z 2 f + mpc z 3 f) = nI (ao z f 4) := by simp only [ao, Nat.zero_add]
-- a throw
theorem dr_eq {x : Int32} (h : ¬ x < 0) : ((x.toInt64 * 1103515245 + 12345) &&& 2147483647).toInt32 = nx x := by
  obtain ⟨n, hn, rfl⟩ := nI_of h
  have e : (nI n).toInt64 = lN n := nI_l hn
  have e2 : (lN n * 1103515245 + 12345 : Int64) = lN (n * 1103515245 + 12345) := by
    rw [show (1103515245 : Int64) = lN 1103515245 from rfl, show (12345 : Int64) = lN 12345 from rfl, lN_mul, lN_add]
  have e3 : lN (n * 1103515245 + 12345) &&& 2147483647 = lN ((n * 1103515245 + 12345) % 2147483648) := by
    apply uN_inj
    rw [uN_lN (by omega)]
    show ((lN (n * 1103515245 + 12345)).toUInt64 &&& Int64.toUInt64 2147483647).toNat = _
    rw [UInt64.toNat_and]
    have := uN_lN (n := n * 1103515245 + 12345) (by omega)
    rw [show (lN (n * 1103515245 + 12345)).toUInt64.toNat = n * 1103515245 + 12345 from this]
    exact Nat.and_two_pow_sub_one_eq_mod _ 31
  rw [e, e2, e3, lN_i, nx_nI hn]
theorem sh_nI {n : Nat} (hn : n < 2 ^ 31) : nI n >>> (16 &&& 31 : Int32) = nI (n / 65536) := pk_shrN hn _ 16 (by decide)
theorem sh_eq {y : Int32} (h : ¬ y < 0) : jr (y >>> (16 &&& 31)) 6 + 1 = co y := by
  obtain ⟨n, hn, rfl⟩ := nI_of h
  rw [sh_nI hn, co, show (65536 : Int32) = nI 65536 from rfl, pk_div hn (by decide) (by decide), Int32.add_comm]
theorem nI_decp {y : Nat} (h : 0 < y) : nI y + Int32.ofInt (-1) = nI (y - 1) := by
  obtain ⟨k, rfl⟩ : ∃ k, y = k + 1 := ⟨y - 1, by omega⟩
  exact pk_m1 k
-- where a throw leads
def fbN (vb : IA) (q x : Nat) : Bool := decide (jr (lfd q (nI x)) 8 = 4 ∧ ¬ vb (3 * ((lfd q (nI x)).toNatClampNeg / 8)) = 0)
theorem fb_1 {vb : IA} {q x : Nat} (h : ¬ jr (lfd q (nI x)) 8 = 4) : ¬ fbN vb q x = true := by rw [fbN, decide_eq_true_eq]; exact fun w => h w.1
theorem fb_2 {vb : IA} {q x a : Nat} (e : lfd q (nI x) = nI a) (ha : a < 32) (h : vb (3 * (a / 8)) = 0) : ¬ fbN vb q x = true := by rw [fbN, decide_eq_true_eq, e, nI_clamp (by omega)]; exact fun w => w.2 h
theorem fb_3 {vb : IA} {q x a : Nat} (h4 : jr (lfd q (nI x)) 8 = 4) (e : lfd q (nI x) = nI a) (ha : a < 32) (h : ¬ vb (3 * (a / 8)) = 0) : fbN vb q x = true := by
  rw [fbN, decide_eq_true_eq, e, nI_clamp (by omega)]; rw [e] at h4; exact ⟨h4, h⟩
def ldG (F : Nat → Bool) : Nat → Nat → Int32
  | a, 0 => if a ≤ 35 then nI a else -1
  | a, 1 => if F (a + 1) then -1 else ldG F (a + 1) 0
  | a, 2 => if F (a + 1) then -1 else ldG F (a + 1) 1
  | a, l + 3 => if F (a + 1) then ldG F (a + 1) (l + 1) else ldG F (a + 1) (l + 2)
theorem ldG_0 {F : Nat → Bool} {a : Nat} : ldG F a 0 = if a ≤ 35 then nI a else -1 := rfl
theorem ldG_1 {F : Nat → Bool} {a : Nat} : ldG F a 1 = if F (a + 1) = true then -1 else ldG F (a + 1) 0 := rfl
theorem ldG_2 {F : Nat → Bool} {a : Nat} : ldG F a 2 = if F (a + 1) = true then -1 else ldG F (a + 1) 1 := rfl
theorem ldG_3 {F : Nat → Bool} {a l : Nat} : ldG F a (l + 3) = if F (a + 1) = true then ldG F (a + 1) (l + 1) else ldG F (a + 1) (l + 2) := rfl
theorem ld_n {F : Nat → Bool} {a y : Nat} (h0 : 0 < y) (h : ¬ F (a + 1) = true) : ldG F a y = ldG F (a + 1) (y - 1) := by
  match y, h0 with
  | 1, _ => rw [ldG_1, if_neg h]
  | 2, _ => rw [ldG_2, if_neg h]
  | l + 3, _ => rw [ldG_3, if_neg h]; rfl
theorem ld_x {F : Nat → Bool} {a y : Nat} (h0 : 0 < y) (h3 : y < 3) (h : F (a + 1) = true) : ldG F a y = -1 := by
  rcases (show y = 1 ∨ y = 2 by omega) with rfl | rfl
  · rw [ldG_1, if_pos h]
  · rw [ldG_2, if_pos h]
theorem ld_f {F : Nat → Bool} {a y : Nat} (h3 : 3 ≤ y) (h : F (a + 1) = true) : ldG F a y = ldG F (a + 1) (y - 1 - 1) := by
  obtain ⟨l, rfl⟩ : ∃ l, y = l + 3 := ⟨y - 3, by omega⟩
  rw [ldG_3, if_pos h]; rfl
theorem ld_tg {F : Nat → Bool} : ∀ (l a : Nat), (l = 0 → F a = false) → ldG F a l = if tgI (tg F a l) = -6 then -1 else tgI (tg F a l)
  | 0, a, h => by
    rw [tg, h rfl, if_neg (show ¬ false = true by decide), tgI, ldG_0]
    by_cases q : a ≤ 35
    · rw [if_pos q, if_pos q, if_neg (nI_neg (by omega) (by decide))]
    · rw [if_neg q, if_neg q, if_pos rfl]
  | 1, a, _ => by
    rw [ldG_1, tg]
    by_cases q : F (a + 1) = true
    · rw [if_pos q, if_pos q]; rfl
    · rw [if_neg q, if_neg q]; exact ld_tg 0 (a + 1) (fun _ => bool_n q)
  | 2, a, _ => by
    rw [ldG_2, tg]
    by_cases q : F (a + 1) = true
    · rw [if_pos q, if_pos q, tg, if_pos q]; rfl
    · rw [if_neg q, if_neg q]; exact ld_tg 1 (a + 1) (fun h => absurd h (by decide))
  | l + 3, a, _ => by
    rw [ldG_3, tg]
    by_cases q : F (a + 1) = true
    · rw [if_pos q, if_pos q]; exact ld_tg (l + 1) (a + 1) (fun h => absurd h (by omega))
    · rw [if_neg q, if_neg q]; exact ld_tg (l + 2) (a + 1) (fun h => absurd h (by omega))
theorem ld_ok {F : Nat → Bool} {a l : Nat} (hl : 1 ≤ l) (h : ¬ ldG F a l < 0) : ∃ t : Nat, t ≤ 35 ∧ ldG F a l = nI t ∧ tgI (tg F a l) = nI t := by
  have e := ld_tg (F := F) l a (fun h => absurd h (by omega))
  by_cases q : tgI (tg F a l) = -6
  · rw [if_pos q] at e; rw [e] at h; exact absurd (by decide) h
  · rw [if_neg q] at e
    obtain ⟨t, ht, et⟩ := (tgI_ok (tg F a l)).resolve_left q
    exact ⟨t, ht, e.trans et, et⟩
theorem ld_neg {F : Nat → Bool} {a l : Nat} (hl : 1 ≤ l) (h : ldG F a l < 0) : tgI (tg F a l) = -6 := by
  have e := ld_tg (F := F) l a (fun h => absurd h (by omega))
  apply Decidable.byContradiction
  intro q
  rw [if_neg q] at e
  obtain ⟨t, ht, et⟩ := (tgI_ok (tg F a l)).resolve_left q
  rw [e, et] at h
  exact nI_pos (by omega) h
-- why a piece cannot be moved
def lbP (vp : IA) (q c : Nat) : Bool := blO vp q (lfd q (nI c)) 4
def lbQ (vp : IA) (k : Nat) (v : Int32) : Bool := anyp (lbP vp (k / 3)) (fst0 (vp k)) (v.toNatClampNeg + 1 - fst0 (vp k))
def thP (vp : IA) (q : Nat) (v : Int32) (j : Nat) : Bool := decide (vp (3 * q + j) = v)
def lth (vp : IA) (q : Nat) (v : Int32) : Nat := cnt (thP vp q v) 3
def lto (vp vb : IA) (k cn : Nat) : Int32 := if vp k = -6 then 0 else ldG (fbN vb (k / 3)) (vp k).toNatClampNeg cn
def lw6 (vp : IA) (k : Nat) (v : Int32) : Bool := decide (¬ lfd (k / 3) v < 0 ∧ jr (lfd (k / 3) v) 8 = 0 ∧ mpc vp (k / 3) (lfd (k / 3) v) < ao vp (lfd (k / 3) v) 4)
def lwy (vp vb vg : IA) (k cn : Nat) : Int32 :=
  if vp k = 35 then 1 else if vp k = -6 ∧ ¬ vg 0 ≤ nI cn then 2 else if lto vp vb k cn < 0 then 3 else if lbQ vp k (lto vp vb k cn) = true then 4
  else if lth vp (k / 3) (lto vp vb k cn) = 2 ∧ lto vp vb k cn < 35 then 5 else if lw6 vp k (lto vp vb k cn) = true then 6 else 10 + lto vp vb k cn
theorem n6_le {b : Nat} (hb : b < 2 ^ 31) : ¬ nI b ≤ -6 := fun h => by
  rw [Int32.le_iff_toInt_le, nI_toInt hb] at h
  have : (-6 : Int32).toInt = -6 := rfl
  omega
theorem anyp_no {P : Nat → Bool} : ∀ n a, (∀ c, a ≤ c → c < a + n → P c = false) → anyp P a n = false
  | 0, _, _ => rfl
  | n + 1, a, h => by rw [anyp, h a (Nat.le_refl a) (by omega), Bool.false_or]; exact anyp_no n (a + 1) (fun c h1 h2 => h c (by omega) (by omega))
theorem any_of {P : Nat → Bool} : ∀ n a k, a ≤ k → k < a + n → P k = true → anyp P a n = true
  | 0, a, k, h1, h2, _ => by omega
  | n + 1, a, k, h1, h2, hk => by
    rw [anyp]
    by_cases e : k = a
    · rw [← e, hk, Bool.true_or]
    · rw [any_of n (a + 1) k (by omega) (by omega) hk, Bool.or_true]
theorem bl_up {vp : IA} {q : Nat} {f : Int32} {i : Nat} (h : blO vp q f i = true) : ∀ d, blO vp q f (i + d) = true
  | 0 => h
  | d + 1 => by rw [← Nat.add_assoc, blO, bl_up h d, Bool.true_or]
theorem bl_hit {vp : IA} {q : Nat} {f : Int32} {i : Nat} (hi : i < 4) (h1 : ¬ i = q) (h2 : 1 < mpc vp i f) : blO vp q f 4 = true := by
  have h : blO vp q f (i + 1) = true := by rw [blO, decide_eq_true (show ¬ i = q ∧ 1 < mpc vp i f from ⟨h1, h2⟩), Bool.or_true]
  have := bl_up h (3 - i)
  rwa [show i + 1 + (3 - i) = 4 by omega] at this
theorem bl_st {vp : IA} {q : Nat} {f : Int32} {i : Nat} (h : blO vp q f i = false) (h2 : ¬ (¬ i = q ∧ 1 < mpc vp i f)) : blO vp q f (i + 1) = false := by
  rw [blO, h, decide_eq_false h2]; rfl
-- bridges
def lb1 (vp : IA) (k : Nat) (vb : IA) : Nat → IA
  | 0 => vb
  | j + 1 => upd (lb1 vp k vb j) (3 * k + 1) (lb1 vp k vb j (3 * k + 1) ||| (if lb1 vp k vb j (3 * k) = 0 ∧ 1 < mpc vp j (nI (8 * k + 4)) then 1 else 0))
def lb2 (vp : IA) (k : Nat) (vb vg : IA) : IA × IA := if vb (3 * k + 1) = 0 ∨ 0 < ao vp (nI (8 * k + 4)) 4 then (vb, vg) else (upd (upd (upd vb (3 * k) 1) (3 * k + 1) 0) (3 * k + 2) (vg 6), upd vg 9 (vg 9 + 1))
def lbr (vp vb vg : IA) : Nat → IA × IA
  | 0 => (vb, vg)
  | k + 1 => lb2 vp k (lb1 vp k (lbr vp vb vg k).1 4) (lbr vp vb vg k).2
-- who has won
def lwP (vp : IA) (i : Nat) : Bool := decide (vp (3 * i) + vp (3 * i + 1) + vp (3 * i + 2) = 105)
def lwi (vp : IA) : Int32 := low (lwP vp) 0 4
-- a move
abbrev L3 : Type := IA × IA × IA
abbrev L4 : Type := IA × IA × IA × IA
def lg0 (q : Nat) (f : Int32) (vp vs vg : IA) : Nat → L3
  | 0 => (vp, vs, vg)
  | k + 1 => if ¬ f < 0 ∧ ¬ k / 3 = q ∧ lfd (k / 3) ((lg0 q f vp vs vg k).1 k) = f then (upd (lg0 q f vp vs vg k).1 k (-6), upd (lg0 q f vp vs vg k).2.1 k ((lg0 q f vp vs vg k).2.1 k + 1), upd (lg0 q f vp vs vg k).2.2 8 ((lg0 q f vp vs vg k).2.2 8 + 1)) else lg0 q f vp vs vg k
theorem lg0_no {q : Nat} {f : Int32} {vp vs vg : IA} (h : f < 0) : ∀ n, lg0 q f vp vs vg n = (vp, vs, vg)
  | 0 => rfl
  | n + 1 => by rw [lg0, lg0_no h n, if_neg (fun w => w.1 h)]
def lgS (vp vs vb vg : IA) (k : Nat) (v : Int32) : L4 :=
  (upd (lg0 (k / 3) (lfd (k / 3) v) vp vs vg 12).1 k v, (lg0 (k / 3) (lfd (k / 3) v) vp vs vg 12).2.1, lbr (upd (lg0 (k / 3) (lfd (k / 3) v) vp vs vg 12).1 k v) vb (lg0 (k / 3) (lfd (k / 3) v) vp vs vg 12).2.2 4)
-- a throw's end
def lmd (me tu : Int32) (vb : IA) : Nat → IA
  | 0 => vb
  | k + 1 => if lmd me tu vb k (3 * k) = 1 ∧ ¬ me ≤ 0 ∧ ¬ tu < lmd me tu vb k (3 * k + 2) + me then upd (lmd me tu vb k) (3 * k) 0 else lmd me tu vb k
def lnG (vg : IA) : IA := upd (upd (upd (upd vg 5 (-6)) 4 (if vg 4 = 3 then 0 else vg 4 + 1)) 6 (vg 6 + 1)) 7 0
def lnS (vp vb vg : IA) : IA × IA := if 0 ≤ lwi vp ∨ (vg 5 = 6 ∧ ¬ vg 2 < vg 7) then (vb, upd vg 5 (-6)) else (lmd (vg 1) (vg 6 + 1) vb 4, lnG vg)
-- the best piece
def lkd (vp : IA) (pl k : Nat) (v : Int32) : Int32 := if v = 35 then 3 else if ¬ lfd (k / 3) v < 0 ∧ mpc vp pl (lfd (k / 3) v) < ao vp (lfd (k / 3) v) 4 then 2 else if 0 < mpc vp pl (lfd (k / 3) v) then 1 else 0
def lph (v : Int32) : Int32 := if 0 ≤ v then v + 1 else 0
def lrk (vp vb vg : IA) (pl k cn : Nat) : Int32 := 64 * lkd vp pl k (lwy vp vb vg k cn - 10) + lph (vp k)
def lbs (vp vb vg : IA) (pl cn : Nat) : Nat → Int32 × Int32
  | 0 => (-6, -1)
  | j + 1 => if lwy vp vb vg (3 * pl + (2 - j)) cn - 10 < 0 ∨ lrk vp vb vg pl (3 * pl + (2 - j)) cn < (lbs vp vb vg pl cn j).2 then lbs vp vb vg pl cn j else (nI (2 - j), lrk vp vb vg pl (3 * pl + (2 - j)) cn)
def lbe (vp vb vg : IA) (pl cn : Nat) : Int32 := (lbs vp vb vg pl cn 3).1
theorem lbs_ok {vp vb vg : IA} {pl cn : Nat} : ∀ n, n ≤ 3 → ¬ (lbs vp vb vg pl cn n).1 < 0 → ∃ j, j < 3 ∧ (lbs vp vb vg pl cn n).1 = nI j ∧ ¬ lwy vp vb vg (3 * pl + j) cn - 10 < 0
  | 0, _, h => absurd (show (-6 : Int32) < 0 by decide) h
  | n + 1, hn, h => by
    rw [lbs] at h ⊢
    by_cases q : lwy vp vb vg (3 * pl + (2 - n)) cn - 10 < 0 ∨ lrk vp vb vg pl (3 * pl + (2 - n)) cn < (lbs vp vb vg pl cn n).2
    · rw [if_pos q] at h ⊢; exact lbs_ok n (by omega) h
    · rw [if_neg q]; exact ⟨2 - n, by omega, rfl, fun w => q (Or.inl w)⟩
theorem lbe_ok {vp vb vg : IA} {pl cn : Nat} (h : ¬ lbe vp vb vg pl cn < 0) : ∃ j, j < 3 ∧ lbe vp vb vg pl cn = nI j ∧ ¬ lwy vp vb vg (3 * pl + j) cn - 10 < 0 := lbs_ok 3 (Nat.le_refl 3) h
-- a throw, and what the best piece makes of it
def lpG (vg : IA) : IA := upd (upd (upd vg 3 (nx (vg 3))) 5 (co (nx (vg 3)))) 7 (vg 7 + 1)
def lmS (vp vs vb vg : IA) (k : Nat) (v : Int32) : L4 := ((lgS vp vs vb vg k v).1, (lgS vp vs vb vg k v).2.1, lnS (lgS vp vs vb vg k v).1 (lgS vp vs vb vg k v).2.2.1 (lgS vp vs vb vg k v).2.2.2)
def lpA (vp vs vb vg : IA) (pl cn : Nat) : L4 :=
  if lbe vp vb vg pl cn < 0 then (vp, vs, lnS vp vb vg) else lmS vp vs vb vg (3 * pl + (lbe vp vb vg pl cn).toNatClampNeg) (lwy vp vb vg (3 * pl + (lbe vp vb vg pl cn).toNatClampNeg) cn - 10)
def lpS (u : L4) : L4 := lpA u.1 u.2.1 u.2.2.1 (lpG u.2.2.2) (u.2.2.2 4).toNatClampNeg (co (nx (u.2.2.2 3))).toNatClampNeg
theorem lpS_eq {vp vs vb vg : IA} : lpS (vp, vs, vb, vg) = lpA vp vs vb (lpG vg) (vg 4).toNatClampNeg (co (nx (vg 3))).toNatClampNeg := rfl
def lpN : Nat → L4 → L4 × Nat
  | 0, u => (u, 0)
  | n + 1, u => if 0 ≤ lwi u.1 then (u, 0) else ((lpN n (lpS u)).1, (lpN n (lpS u)).2 + 1)
/-- what holds of the law's rows at any time -/
def okl (u : L4) : Prop := (∀ k, k < 12 → okv (u.1 k)) ∧ ¬ u.2.2.2 3 < 0 ∧ ∃ pl, pl < 4 ∧ u.2.2.2 4 = nI pl
