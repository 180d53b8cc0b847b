-- ===== long numbers as characters (uN: pasted from kit/laws) =====
def uN (x : Int64) : Nat := x.toUInt64.toNat
theorem uN_lt (x : Int64) : uN x < 18446744073709551616 := x.toUInt64.toNat_lt
theorem uN_inj {x y : Int64} (h : uN x = uN y) : x = y := congrArg UInt64.toInt64 (UInt64.toNat_inj.mp h)
theorem uN_shr (x : Int64) (s : UInt64) : uN (x.toUInt64 >>> s).toInt64 = uN x / 2 ^ (s.toNat % 64) := by
  show (x.toUInt64 >>> s).toNat = _
  rw [UInt64.toNat_shiftRight, Nat.shiftRight_eq_div_pow]
  rfl
theorem uN_0 (x : Int64) : x = 0 ↔ uN x = 0 := ⟨fun h => by rw [h]; rfl, fun h => uN_inj (h.trans rfl)⟩
theorem uN_8 (x : Int64) : uN (x.toUInt64 >>> ((8 : Int32).toInt64.toUInt64 &&& Int64.toUInt64 63)).toInt64 = uN x / 256 := by
  have h : ((8 : Int32).toInt64.toUInt64 &&& Int64.toUInt64 63).toNat % 64 = 8 := by decide
  rw [uN_shr, h]
theorem uN_lN {n : Nat} (h : n < 18446744073709551616) : uN (lN n) = n := by
  show (BitVec.ofNat 64 n).toNat = n
  rw [BitVec.toNat_ofNat]; exact Nat.mod_eq_of_lt h
theorem uN_255 (x : Int64) : x &&& 255 = lN (uN x % 256) := by
  apply uN_inj
  rw [uN_lN (by omega)]
  show (x.toUInt64 &&& Int64.toUInt64 255).toNat = _
  rw [UInt64.toNat_and]
  exact Nat.and_two_pow_sub_one_eq_mod _ 8
theorem by_k : ∀ k, k < 8 → ((nI (8 * k)).toInt64.toUInt64 &&& Int64.toUInt64 63).toNat % 64 = 8 * k ∧ (((nI (8 * k)).toInt64 &&& 63).toBitVec.smod 64).toNat = 8 * k := by decide
theorem p256 (k : Nat) : 2 ^ (8 * k) = 256 ^ k := by rw [Nat.pow_mul]
/-- the k-th character of a number, from the last on -/
def dg (n k : Nat) : Nat := n / 256 ^ k % 256
theorem dg_u (x : Int64) {k : Nat} (hk : k < 8) : ((x.toUInt64 >>> ((nI (8 * k)).toInt64.toUInt64 &&& Int64.toUInt64 63)).toInt64 &&& 255).toInt32 = nI (dg (uN x) k) := by
  rw [uN_255, uN_shr, (by_k k hk).1, p256, lN_i]; rfl
theorem dg_s (x : Int64) {k : Nat} (hk : k < 8) : ((x >>> ((nI (8 * k)).toInt64 &&& 63)) &&& 255).toInt32 = nI (dg (uN x) k) := by
  have e : (x >>> ((nI (8 * k)).toInt64 &&& 63)) &&& 255 = (x.toUInt64 >>> ((nI (8 * k)).toInt64.toUInt64 &&& Int64.toUInt64 63)).toInt64 &&& 255 := by
    apply uN_inj
    show ((x.toBitVec.sshiftRight (((nI (8 * k)).toInt64 &&& 63).toBitVec.smod 64).toNat) &&& (255 : Int64).toBitVec).toNat = ((x.toUInt64 >>> ((nI (8 * k)).toInt64.toUInt64 &&& Int64.toUInt64 63)).toBitVec &&& (255 : Int64).toBitVec).toNat
    rw [(by_k k hk).2, UInt64.toBitVec_shiftRight]
    congr 1
    apply BitVec.eq_of_getLsbD_eq
    intro i hi
    simp only [BitVec.getLsbD_and, BitVec.getLsbD_sshiftRight]
    by_cases h8 : i < 8
    · congr 1
      have e2 : ((((nI (8 * k)).toInt64.toUInt64 &&& Int64.toUInt64 63).toBitVec) % 64#64).toNat = 8 * k := by
        have := (by_k k hk).1
        rw [BitVec.toNat_umod]; exact this
      rw [BitVec.ushiftRight_eq', BitVec.getLsbD_ushiftRight]
      rw [show ((((nI (8 * k)).toInt64.toUInt64 &&& Int64.toUInt64 63).toBitVec % 64).toNat) = 8 * k from e2, if_pos (by omega), decide_eq_false (by omega), Bool.not_false, Bool.true_and]
      rfl
    · have : (255 : Int64).toBitVec.getLsbD i = false := by
        show (255#64).getLsbD i = false
        rw [BitVec.getLsbD_ofNat]
        have h2 : Nat.testBit 255 i = false := by
          apply Nat.testBit_lt_two_pow
          exact Nat.lt_of_lt_of_le (by decide : 255 < 2 ^ 8) (Nat.pow_le_pow_right (by decide) (by omega))
        rw [h2, Bool.and_false]
      rw [this, Bool.and_false, Bool.and_false]
  rw [e, dg_u x hk]
/-- how many characters a number has (m: at most), and whether all are good -/
def dln : Nat → Nat → Nat
  | 0, _ => 0
  | m + 1, n => if n = 0 then 0 else dln m (n / 256) + 1
def dok : Nat → Nat → Bool
  | 0, _ => true
  | m + 1, n => if n = 0 then true else decide (33 ≤ n % 256 ∧ n % 256 ≤ 126) && dok m (n / 256)
theorem dln_le : ∀ m n, dln m n ≤ m
  | 0, _ => Nat.le_refl 0
  | m + 1, n => by
    rw [dln]; split
    · omega
    · have := dln_le m (n / 256); omega
/-- the pad with the characters appended: j of them -/
def apd (pd : IA) (ln n mo : Nat) : Nat → IA
  | 0 => pd
  | j + 1 => upd (apd pd ln n mo j) (ln + j) (nI (dg n (mo - 1 - j)))
theorem inQ_dg (n : Nat) : inQ (nI (n % 256)) 33 126 = decide (33 ≤ n % 256 ∧ n % 256 ≤ 126) := by
  have h1 : (nI (n % 256) < 33) ↔ n % 256 < 33 := nI_ltI (b := 33) (by omega) (by decide)
  have h2 : ((126 : Int32) < nI (n % 256)) ↔ 126 < n % 256 := nI_ltI (a := 126) (by decide) (by omega)
  rw [inQ]
  congr 1
  rw [h1, h2]
  apply propext
  omega
theorem vc_nI {q : Nat} (hq : q < 256) : vp_nar .char ((nI q).toUInt32 % 65536).toInt32 = nI q := by
  have h1 := (pk_charN (q := q) (by omega)).1
  have h2 : ((nI q).toUInt32 % 65536).toInt32 = nI q := by
    rw [pk_char, pk_tn (by omega)]; congr 1; omega
  rw [h2, vp_nar, h1]
def m_put (ch : Int64) (ks : KS) : Int32 × KS :=
  if uN ch = 0 ∨ ¬ dok 8 (uN ch) = true then (-2, ks) else if 60 < ks.2.2.2.2.2.2 + dln 8 (uN ch) then (-4, ks)
  else (nI (ks.2.2.2.2.2.2 + dln 8 (uN ch)), (ks.1, ks.2.1, ks.2.2.1, ks.2.2.2.1, ks.2.2.2.2.1, apd ks.2.2.2.2.2.1 ks.2.2.2.2.2.2 (uN ch) (dln 8 (uN ch)) (dln 8 (uN ch)), ks.2.2.2.2.2.2 + dln 8 (uN ch)))
