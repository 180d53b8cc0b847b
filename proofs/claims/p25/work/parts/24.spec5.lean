-- ===== long numbers as characters (uN: pasted from kit/laws) =====
def uN (x : Int64) : Nat := x.toUInt64.toNat
theorem uN_lt (x : Int64) : uN x < 18446744073709551616 := x.toUInt64.toNat_lt
theorem uN_inj {x y : Int64} (h : uN x = uN y) : x = y := congrArg UInt64.toInt64 (UInt64.toNat_inj.mp h)
theorem uN_shr (x : Int64) (s : UInt64) : uN (x.toUInt64 >>> s).toInt64 = uN x / 2 ^ (s.toNat % 64) := by
  show (x.toUInt64 >>> s).toNat = _
  rw [UInt64.toNat_shiftRight, Nat.shiftRight_eq_div_pow]
  rfl
theorem uN_0 (x : Int64) : x = 0 ↔ uN x = 0 := ⟨fun h => by rw [h]; rfl, fun h => uN_inj (h.trans rfl)⟩
theorem uN_8 (x : Int64) : uN (x.toUInt64 >>> ((8 : Int32).toInt64.toUInt64 &&& Int64.toUInt64 63)).toInt64 = uN x / 256 := by
  have h : ((8 : Int32).toInt64.toUInt64 &&& Int64.toUInt64 63).toNat % 64 = 8 := by decide
  rw [uN_shr, h]
theorem uN_lN {n : Nat} (h : n < 18446744073709551616) : uN (lN n) = n := by
  show (BitVec.ofNat 64 n).toNat = n
  rw [BitVec.toNat_ofNat]; exact Nat.mod_eq_of_lt h
theorem uN_255 (x : Int64) : x &&& 255 = lN (uN x % 256) := by
  apply uN_inj
  rw [uN_lN (by omega)]
  show (x.toUInt64 &&& Int64.toUInt64 255).toNat = _
  rw [UInt64.toNat_and]
  exact Nat.and_two_pow_sub_one_eq_mod _ 8
theorem by_k : ∀ k, k < 8 → ((nI (8 * k)).toInt64.toUInt64 &&& Int64.toUInt64 63).toNat % 64 = 8 * k ∧ (((nI (8 * k)).toInt64 &&& 63).toBitVec.smod 64).toNat = 8 * k := by decide
theorem p256 (k : Nat) : 2 ^ (8 * k) = 256 ^ k := by rw [Nat.pow_mul]
/-- the k-th character of a number, from the last on -/
def dg (n k : Nat) : Nat := n / 256 ^ k % 256
theorem dg_u (x : Int64) {k : Nat} (hk : k < 8) : ((x.toUInt64 >>> ((nI (8 * k)).toInt64.toUInt64 &&& Int64.toUInt64 63)).toInt64 &&& 255).toInt32 = nI (dg (uN x) k) := by
  rw [uN_255, uN_shr, (by_k k hk).1, p256, lN_i]; rfl
theorem dg_s (x : Int64) {k : Nat} (hk : k < 8) : ((x >>> ((nI (8 * k)).toInt64 &&& 63)) &&& 255).toInt32 = nI (dg (uN x) k) := by
  have e : (x >>> ((nI (8 * k)).toInt64 &&& 63)) &&& 255 = (x.toUInt64 >>> ((nI (8 * k)).toInt64.toUInt64 &&& Int64.toUInt64 63)).toInt64 &&& 255 := by
    apply uN_inj
    show ((x.toBitVec.sshiftRight (((nI (8 * k)).toInt64 &&& 63).toBitVec.smod 64).toNat) &&& (255 : Int64).toBitVec).toNat = ((x.toUInt64 >>> ((nI (8 * k)).toInt64.toUInt64 &&& Int64.toUInt64 63)).toBitVec &&& (255 : Int64).toBitVec).toNat
    rw [(by_k k hk).2, UInt64.toBitVec_shiftRight]
    congr 1
    apply BitVec.eq_of_getLsbD_eq
    intro i hi
    simp only [BitVec.getLsbD_and, BitVec.getLsbD_sshiftRight]
    by_cases h8 : i < 8
    · congr 1
      have e2 : ((((nI (8 * k)).toInt64.toUInt64 &&& Int64.toUInt64 63).toBitVec) % 64#64).toNat = 8 * k := by
        have := (by_k k hk).1
        rw [BitVec.toNat_umod]; exact this
      rw [BitVec.ushiftRight_eq', BitVec.getLsbD_ushiftRight]
      rw [show ((((nI (8 * k)).toInt64.toUInt64 &&& Int64.toUInt64 63).toBitVec % 64).toNat) = 8 * k from e2, if_pos (by omega), decide_eq_false (by omega), Bool.not_false, Bool.true_and]
      rfl
    · have : (255 : Int64).toBitVec.getLsbD i = false := by
        show (255#64).getLsbD i = false
        rw [BitVec.getLsbD_ofNat]
        have h2 : Nat.testBit 255 i = false := by
          apply Nat.testBit_lt_two_pow
          exact Nat.lt_of_lt_of_le (by decide : 255 < 2 ^ 8) (Nat.pow_le_pow_right (by decide) (by omega))
        rw [h2, Bool.and_false]
      rw [this, Bool.and_false, Bool.and_false]
  rw [e, dg_u x hk]
/-- how many characters a number has (m: at most), and whether all are good -/
def dln : Nat → Nat → Nat
  | 0, _ => 0
  | m + 1, n => if n = 0 then 0 else dln m (n / 256) + 1
def dok : Nat → Nat → Bool
  | 0, _ => true
  | m + 1, n => if n = 0 then true else decide (33 ≤ n % 256 ∧ n % 256 ≤ 126) && dok m (n / 256)
theorem dln_le : ∀ m n, dln m n ≤ m
  | 0, _ => Nat.le_refl 0
  | m + 1, n => by
    rw [dln]; split
    · omega
    · have := dln_le m (n / 256); omega
/-- the pad with the characters appended: j of them -/
def apd (pd : IA) (ln n mo : Nat) : Nat → IA
  | 0 => pd
  | j + 1 => upd (apd pd ln n mo j) (ln + j) (nI (dg n (mo - 1 - j)))
theorem inQ_dg (n : Nat) : inQ (nI (n % 256)) 33 126 = decide (33 ≤ n % 256 ∧ n % 256 ≤ 126) := by
  have h1 : (nI (n % 256) < 33) ↔ n % 256 < 33 := nI_ltI (b := 33) (by omega) (by decide)
  have h2 : ((126 : Int32) < nI (n % 256)) ↔ 126 < n % 256 := nI_ltI (a := 126) (by decide) (by omega)
  rw [inQ]
  congr 1
  rw [h1, h2]
  apply propext
  omega
theorem vc_nI {q : Nat} (hq : q < 256) : vp_nar .char ((nI q).toUInt32 % 65536).toInt32 = nI q := by
  have h1 := (pk_charN (q := q) (by omega)).1
  have h2 : ((nI q).toUInt32 % 65536).toInt32 = nI q := by
    rw [pk_char, pk_tn (by omega)]; congr 1; omega
  rw [h2, vp_nar, h1]
def m_put (ch : Int64) (ks : KS) : Int32 × KS :=
  if uN ch = 0 ∨ ¬ dok 8 (uN ch) = true then (-2, ks) else if 60 < ks.2.2.2.2.2.2 + dln 8 (uN ch) then (-4, ks)
  else (nI (ks.2.2.2.2.2.2 + dln 8 (uN ch)), (ks.1, ks.2.1, ks.2.2.1, ks.2.2.2.1, ks.2.2.2.2.1, apd ks.2.2.2.2.2.1 ks.2.2.2.2.2.2 (uN ch) (dln 8 (uN ch)) (dln 8 (uN ch)), ks.2.2.2.2.2.2 + dln 8 (uN ch)))
theorem put_st {i m : Nat} (hi : i ≤ 8) (hr : m < 256 ^ (8 - i)) (hne : ¬ m = 0) : i < 8 ∧ m / 256 < 256 ^ (8 - (i + 1)) := by
  have h : i < 8 := by
    rcases Nat.lt_or_ge i 8 with h | h
    · exact h
    · rw [show 8 - i = 0 by omega] at hr; omega
  refine ⟨h, ?_⟩
  rw [show 8 - i = (8 - (i + 1)) + 1 by omega, Nat.pow_succ] at hr
  exact Nat.div_lt_of_lt_mul (by rw [Nat.mul_comm]; exact hr)
theorem dln_s {i m d : Nat} (hi : i < 8) (hne : ¬ m = 0) (h : d = i + dln (8 - i) m) : d = i + 1 + dln (8 - (i + 1)) (m / 256) := by
  rw [h, show 8 - i = (8 - (i + 1)) + 1 by omega, dln, if_neg hne]; omega
theorem dln_e {i m d : Nat} (hm : m = 0) (h : d = i + dln (8 - i) m) : d = i := by
  rw [h, hm]; cases 8 - i <;> simp [dln]
theorem dok_s {i m : Nat} (hi : i < 8) (hne : ¬ m = 0) : dok (8 - i) m = (decide (33 ≤ m % 256 ∧ m % 256 ≤ 126) && dok (8 - (i + 1)) (m / 256)) := by
  rw [show 8 - i = (8 - (i + 1)) + 1 by omega, dok, if_neg hne]
theorem dok_e {i m : Nat} (hm : m = 0) : dok (8 - i) m = true := by
  rw [hm]; cases 8 - i <;> simp [dok]
theorem pow8 (x : Int64) : uN x < 256 ^ (8 - 0) := uN_lt x
theorem inQ_255 (r : Int64) : inQ (r &&& 255).toInt32 33 126 = decide (33 ≤ uN r % 256 ∧ uN r % 256 ≤ 126) := by rw [uN_255, lN_i, inQ_dg]
def padV (ch : Int64) : Bool := decide (¬ uN ch = 0) && dok 8 (uN ch)
theorem cmp0 {r : Int64} : lg_cmp r 0 = 0 ↔ uN r = 0 := (lg_cmp_eq r 0).trans (uN_0 r)
theorem padV_s1 {ch r : Int64} {i : Nat} (hi : i < 8) (hne : ¬ uN r = 0) (h : padV ch = (true && dok (8 - i) (uN r))) (hq : inQ (r &&& 255).toInt32 33 126 = true) : padV ch = (true && dok (8 - (i + 1)) (uN r / 256)) := by
  rw [h, dok_s hi hne, ← inQ_255, hq]; rfl
theorem padV_s0 {ch r : Int64} {i : Nat} (hi : i < 8) (hne : ¬ uN r = 0) (h : padV ch = (true && dok (8 - i) (uN r))) (hq : ¬ inQ (r &&& 255).toInt32 33 126 = true) (m : Nat) : padV ch = (false && dok (8 - (i + 1)) m) := by
  rw [h, dok_s hi hne, ← inQ_255, Bool.eq_false_iff.mpr hq]; rfl
theorem bool_n {b : Bool} (h : ¬ b = true) : b = false := Bool.eq_false_iff.mpr h
theorem padV_p {ch : Int64} (h : padV ch = true) : ¬ (uN ch = 0 ∨ ¬ dok 8 (uN ch) = true) := by
  simp only [padV, Bool.and_eq_true, decide_eq_true_eq] at h
  exact fun q => q.elim h.1 (fun z => z h.2)
theorem padV_n {ch : Int64} (h : ¬ padV ch = true) : uN ch = 0 ∨ ¬ dok 8 (uN ch) = true := by
  simp only [padV, Bool.and_eq_true, decide_eq_true_eq] at h
  by_cases q : uN ch = 0
  · exact Or.inl q
  · exact Or.inr (fun z => h ⟨q, z⟩)
theorem dec_sub (a : Nat) : nI a + Int32.ofInt (-1) = nI a - 1 := by
  show nI a + (-1) = nI a - 1
  rw [Int32.sub_eq_add_neg]
theorem apd_s {pd pc : IA} {ln n mo b : Nat} {v : Int32} (hb : b + 1 ≤ mo) (h : pc = apd pd ln n mo (mo - (b + 1))) (hv : v = nI (dg n b)) : upd pc (ln + (mo - (b + 1))) v = apd pd ln n mo (mo - b) := by
  rw [show mo - b = (mo - (b + 1)) + 1 by omega, apd, ← h, hv, show mo - 1 - (mo - (b + 1)) = b by omega]
theorem cmp255 (r : Int64) : lg_cmp (r &&& 255) 0 = 0 ↔ uN r % 256 = 0 := by
  rw [lg_cmp_eq, uN_255, show (0 : Int64) = lN 0 from rfl, pk_lEQ (by omega) (by decide)]
theorem cmp_lo {r : Int64} (h : lg_cmp (r &&& 255) 33 < 0) : ¬ (33 ≤ uN r % 256 ∧ uN r % 256 ≤ 126) := by
  rw [lg_cmp_lt, uN_255, show (33 : Int64) = lN 33 from rfl, pk_lLT (by omega) (by decide)] at h; omega
theorem cmp_hi {r : Int64} (h : ¬ lg_cmp (r &&& 255) 126 ≤ 0) : ¬ (33 ≤ uN r % 256 ∧ uN r % 256 ≤ 126) := by
  rw [lg_cmp_le, uN_255, show (126 : Int64) = lN 126 from rfl, pk_lLE (by omega) (by decide)] at h; omega
theorem cmp_in {r : Int64} (h : ¬ lg_cmp (r &&& 255) 33 < 0) (h2 : lg_cmp (r &&& 255) 126 ≤ 0) : 33 ≤ uN r % 256 ∧ uN r % 256 ≤ 126 := by
  rw [lg_cmp_lt, uN_255, show (33 : Int64) = lN 33 from rfl, pk_lLT (by omega) (by decide)] at h
  rw [lg_cmp_le, uN_255, show (126 : Int64) = lN 126 from rfl, pk_lLE (by omega) (by decide)] at h2; omega
def lenL (ch : Int64) : Nat := if dok 8 (uN ch) = true then dln 8 (uN ch) else 0
theorem lenL_le (ch : Int64) : lenL ch ≤ 8 := by
  rw [lenL]; split
  · exact dln_le 8 _
  · omega
theorem len_8 {i m : Nat} (h : 8 ≤ i) (hr : m < 256 ^ (8 - i)) : m = 0 := by
  rw [show 8 - i = 0 by omega] at hr; omega
theorem len_end {ch r : Int64} {i : Nat} (_ : i ≤ 8) (_ : uN r < 256 ^ (8 - i)) (hd : dln 8 (uN ch) = i + dln (8 - i) (uN r)) (hv : dok 8 (uN ch) = dok (8 - i) (uN r)) (h : uN r = 0) : nI i = nI (lenL ch) := by
  rw [lenL, hv, dok_e h, if_pos rfl, dln_e h hd]
theorem len_bad {ch r : Int64} {i : Nat} (hi : i ≤ 8) (hr : uN r < 256 ^ (8 - i)) (hv : dok 8 (uN ch) = dok (8 - i) (uN r)) (h : ¬ (33 ≤ uN r % 256 ∧ uN r % 256 ≤ 126)) (hne : ¬ uN r = 0) : (0 : Int32) = nI (lenL ch) := by
  rw [lenL, hv, dok_s (put_st hi hr hne).1 hne, decide_eq_false h]; rfl
theorem len_z {ch r : Int64} {i : Nat} (hi : i ≤ 8) (hr : uN r < 256 ^ (8 - i)) (hv : dok 8 (uN ch) = dok (8 - i) (uN r)) (h : uN r % 256 = 0) (hne : ¬ uN r = 0) : (0 : Int32) = nI (lenL ch) := len_bad hi hr hv (by omega) hne
