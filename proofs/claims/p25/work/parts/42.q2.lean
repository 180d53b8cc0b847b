-- ===== p25: throws that are needed, by sets of places; copies; the script =====
def bt6 (x : Int64) (a : Nat) : Bool := x.toBitVec.getLsbD a
theorem sm_t : ∀ a, a < 36 → (((nI a).toInt64 &&& 63).toBitVec.smod 64).toNat = a := by decide
theorem sl_t : ∀ t, t < 36 → (1 : Int64) <<< ((nI t).toInt64 &&& 63) = lN (2 ^ t) := by decide
theorem bt_t {x : Int64} {y : Int32} {a : Nat} (hy : y = nI a) (ha : a < 36) : lg_cmp ((x >>> (y.toInt64 &&& 63)) &&& 1) 0 = 0 ↔ bt6 x a = false := by
  subst hy
  rw [lg_cmp_eq]
  have e : ((x >>> ((nI a).toInt64 &&& 63)) &&& 1).toBitVec = (x.toBitVec.sshiftRight a) &&& 1#64 := by
    show (x.toBitVec.sshiftRight (((nI a).toInt64 &&& 63).toBitVec.smod 64).toNat) &&& (1 : Int64).toBitVec = _
    rw [sm_t a ha]; rfl
  have h0 : (x.toBitVec.sshiftRight a).getLsbD 0 = x.toBitVec.getLsbD a := by
    rw [BitVec.getLsbD_sshiftRight]
    simp only [Nat.add_zero]
    rw [if_pos (by omega)]
    simp
  constructor
  · intro h
    have h2 : ((x >>> ((nI a).toInt64 &&& 63)) &&& 1).toBitVec.getLsbD 0 = false := by rw [h]; rfl
    rw [e, BitVec.getLsbD_and, h0] at h2
    have h3 : (1#64).getLsbD 0 = true := rfl
    rw [h3, Bool.and_true] at h2
    exact h2
  · intro h
    apply uN_inj
    show ((x >>> ((nI a).toInt64 &&& 63)) &&& 1).toBitVec.toNat = (0#64).toNat
    rw [e]
    congr 1
    apply BitVec.eq_of_getLsbD_eq
    intro i hi
    rw [BitVec.getLsbD_and]
    by_cases q : i = 0
    · subst q; rw [h0, show x.toBitVec.getLsbD a = false from h]; rfl
    · have h3 : (1#64).getLsbD i = false := by
        show (BitVec.ofNat 64 1).getLsbD i = false
        rw [BitVec.getLsbD_ofNat]
        have h4 : Nat.testBit 1 i = false := by
          rw [show (1 : Nat) = 2 ^ 0 from rfl, Nat.testBit_two_pow]; exact decide_eq_false (fun z => q z.symm)
        rw [h4, Bool.and_false]
      rw [h3, Bool.and_false]; simp
theorem bt_l {t a : Nat} (ha : a < 64) : bt6 (lN (2 ^ t)) a = decide (t = a) := by
  show (BitVec.ofNat 64 (2 ^ t)).getLsbD a = _
  rw [BitVec.getLsbD_ofNat, Nat.testBit_two_pow, decide_eq_true ha, Bool.true_and]
theorem bt_o {x : Int64} {t a : Nat} (ht : t < 36) (ha : a < 64) : bt6 (x ||| ((1 : Int64) <<< ((nI t).toInt64 &&& 63))) a = (bt6 x a || decide (t = a)) := by
  rw [sl_t t ht, ← bt_l (t := t) ha]
  show (x.toBitVec ||| (lN (2 ^ t)).toBitVec).getLsbD a = _
  rw [BitVec.getLsbD_or]; rfl
theorem bt_o0 {x : Int64} {a : Nat} : bt6 (x ||| 0) a = bt6 x a := by
  show (x.toBitVec ||| 0#64).getLsbD a = _
  rw [BitVec.getLsbD_or]
  have : (0#64).getLsbD a = false := by simp
  rw [this, Bool.or_false]; rfl
theorem bt_0 {a : Nat} : bt6 0 a = false := by
  show (0#64).getLsbD a = false
  simp
/-- the places that the throws lead to: from the places below a all, from a those below c -/
def nxs (F : Nat → Bool) (now : Int64) (a c t : Nat) : Prop := ∃ a' c', bt6 now a' = true ∧ 1 ≤ c' ∧ c' ≤ 6 ∧ a' < 35 ∧ (a' < a ∨ (a' = a ∧ c' < c)) ∧ ldG F a' c' = nI t
def NX (F : Nat → Bool) (now nx : Int64) (a c : Nat) : Prop := ∀ t, t ≤ 35 → (bt6 nx t = true ↔ nxs F now a c t)
theorem NX_0 {F : Nat → Bool} {now : Int64} : NX F now 0 0 1 := fun t _ => by
  rw [bt_0]
  exact ⟨fun h => Bool.noConfusion h, fun ⟨a', c', _, h1, _, _, h, _⟩ => by omega⟩
theorem NX_sk {F : Nat → Bool} {now nx : Int64} {a : Nat} (h : NX F now nx a 1) (hb : bt6 now a = false) : NX F now nx (a + 1) 1 := fun t ht => (h t ht).trans
  ⟨fun ⟨a', c', h1, h2, h3, h4, h5, h6⟩ => ⟨a', c', h1, h2, h3, h4, by omega, h6⟩, fun ⟨a', c', h1, h2, h3, h4, h5, h6⟩ => ⟨a', c', h1, h2, h3, h4, by
    by_cases e : a' = a
    · rw [e, hb] at h1; cases h1
    · omega, h6⟩⟩
theorem NX_up {F : Nat → Bool} {now nx : Int64} {a c : Nat} (h : NX F now nx a c) (hc : 7 ≤ c) : NX F now nx (a + 1) 1 := fun t ht => (h t ht).trans
  ⟨fun ⟨a', c', h1, h2, h3, h4, h5, h6⟩ => ⟨a', c', h1, h2, h3, h4, by omega, h6⟩, fun ⟨a', c', h1, h2, h3, h4, h5, h6⟩ => ⟨a', c', h1, h2, h3, h4, by omega, h6⟩⟩
theorem NX_n {F : Nat → Bool} {now nx : Int64} {a c : Nat} (h : NX F now nx a c) (hn : ldG F a c < 0) : NX F now (nx ||| 0) a (c + 1) := fun t ht => by
  rw [bt_o0]
  exact (h t ht).trans ⟨fun ⟨a', c', h1, h2, h3, h4, h5, h6⟩ => ⟨a', c', h1, h2, h3, h4, by omega, h6⟩, fun ⟨a', c', h1, h2, h3, h4, h5, h6⟩ => ⟨a', c', h1, h2, h3, h4, by
    by_cases e : a' = a ∧ c' = c
    · rw [e.1, e.2] at h6; rw [h6] at hn; exact absurd hn (nI_pos (by omega))
    · omega, h6⟩⟩
theorem NX_t {F : Nat → Bool} {now nx : Int64} {a c u : Nat} (h : NX F now nx a c) (hb : bt6 now a = true) (ha : a < 35) (hc1 : 1 ≤ c) (hc : c ≤ 6) (hu : u ≤ 35) (e : ldG F a c = nI u) : NX F now (nx ||| ((1 : Int64) <<< ((nI u).toInt64 &&& 63))) a (c + 1) := fun t ht => by
  rw [bt_o (by omega) (by omega), Bool.or_eq_true, decide_eq_true_eq, h t ht]
  constructor
  · rintro (⟨a', c', h1, h2, h3, h4, h5, h6⟩ | rfl)
    · exact ⟨a', c', h1, h2, h3, h4, by omega, h6⟩
    · exact ⟨a, c, hb, hc1, hc, ha, Or.inr ⟨rfl, by omega⟩, e⟩
  · rintro ⟨a', c', h1, h2, h3, h4, h5, h6⟩
    by_cases q : a' = a ∧ c' = c
    · rw [q.1, q.2, e, nI_eq (by omega) (by omega)] at h6; exact Or.inr h6
    · exact Or.inl ⟨a', c', h1, h2, h3, h4, by omega, h6⟩
/-- after n throws: the nearest place reached is as near to home as the rest of D says -/
def LJ (F : Nat → Bool) (D : Nat) (now : Int64) (n : Nat) : Prop := (∃ a, a ≤ 35 ∧ bt6 now a = true ∧ dD F a + n = D) ∧ ∀ a, a ≤ 35 → bt6 now a = true → D ≤ dD F a + n
theorem LJ_le {F : Nat → Bool} {D : Nat} {now : Int64} {n : Nat} (h : LJ F D now n) : n ≤ D := by
  obtain ⟨⟨a, _, _, h⟩, _⟩ := h; omega
theorem LJ_0 {F : Nat → Bool} {a n : Nat} (ha : a ≤ 35) : LJ F (dD F a + n) (lN (2 ^ a)) n :=
  ⟨⟨a, ha, by rw [bt_l (by omega)]; exact decide_eq_true rfl, rfl⟩, fun a' ha' h => by rw [bt_l (by omega), decide_eq_true_eq] at h; rw [h]; exact Nat.le_refl _⟩
theorem LJ_end {F : Nat → Bool} {D : Nat} {now : Int64} {n : Nat} (h : LJ F D now n) (hb : ¬ bt6 now 35 = false) : n = D := by
  have h1 := LJ_le h
  have h2 := h.2 35 (by decide) (by cases e : bt6 now 35 with | true => rfl | false => exact absurd e hb)
  rw [dD_35] at h2; omega
theorem LJ_st {F : Nat → Bool} (hF : hF8 F) {D : Nat} {now nx : Int64} {n : Nat} (h : LJ F D now n) (hb : bt6 now 35 = false) (hN : NX F now nx 35 1) : LJ F D nx (n + 1) := by
  obtain ⟨⟨a, ha, ba, ea⟩, hall⟩ := h
  have ld : ∀ a c t, 1 ≤ c → t ≤ 35 → (ldG F a c = nI t ↔ tgI (tg F a c) = nI t) := fun a c t hc ht => by
    rw [ld_tg c a (fun z => absurd z (by omega))]
    by_cases q : tgI (tg F a c) = -6
    · rw [if_pos q, q]; exact ⟨fun z => absurd z.symm (nI_neg (by omega) (by decide)), fun z => absurd z.symm (nI_neg (by omega) (by decide))⟩
    · rw [if_neg q]
  constructor
  · have ha35 : a < 35 := by
      rcases Nat.lt_or_eq_of_le ha with q | q
      · exact q
      · rw [q, hb] at ba; cases ba
    obtain ⟨c, t, h1, h2, h3, e, eD⟩ := dD_ex hF ha35
    exact ⟨t, h3, (hN t h3).mpr ⟨a, c, ba, h1, h2, ha35, Or.inl ha35, (ld a c t h1 h3).mpr e⟩, by omega⟩
  · intro t ht bt
    obtain ⟨a', c', h1, h2, h3, h4, _, h6⟩ := (hN t ht).mp bt
    have := hall a' (by omega) h1
    have := dD_le h4 h2 h3 ht ((ld a' c' t h2 ht).mp h6)
    omega
theorem hF_l {vb : IA} {q : Nat} (hq : q < 4) : hF8 (fbN vb q) := fun x hx h => by
  rw [fbN, decide_eq_true_eq] at h
  obtain ⟨h4, _⟩ := h
  by_cases g : x < 32
  · rcases lfd_rf (v := nI x) hq with ⟨h1, h2⟩ | ⟨a, ha, h1, h2⟩
    · rw [rf_nI hq g] at h1; exact absurd h1 (nI_neg (by omega) (by decide))
    · rw [rf_nI hq g, nI_eq (by omega) (by omega)] at h1
      rw [h2] at h4
      have := (jr8 (b := 4) (by omega) (by decide)).mp h4
      exact ⟨by omega, g⟩
  · have h1 : rf q (nI x) = -6 := rf_far (by omega) (by omega)
    rcases lfd_rf (v := nI x) hq with ⟨_, h2⟩ | ⟨a, ha, h3, h2⟩
    · rw [h2] at h4; exact absurd h4 (by decide)
    · rw [h1] at h3; exact absurd h3.symm (nI_neg (by omega) (by decide))
def lnd (vp vb : IA) (k : Nat) : Nat := if vp k = -6 then dD (fbN vb (k / 3)) 0 + 1 else dD (fbN vb (k / 3)) (vp k).toNatClampNeg
theorem lnd_le {vp vb : IA} {k : Nat} (hk : k < 12) (h : okv (vp k)) : lnd vp vb k ≤ 36 := by
  have hF := hF_l (vb := vb) (show k / 3 < 4 by omega)
  rw [lnd]
  rcases h with e | ⟨a, ha, e⟩
  · rw [if_pos e]; have := dD_b hF 35 0 (by decide); omega
  · rw [if_neg (by rw [e]; exact nI_neg (by omega) (by decide)), e, nI_clamp (by omega)]; have := dD_b hF (35 - a) a (by omega); omega
theorem cpz_s {f g h : IA} {i : Nat} (e : h = cpz f g 0 0 i) : upd h i (g i) = cpz f g 0 0 (i + 1) := by rw [cpz, ← e, Nat.zero_add]
-- the script
def lce (L : Nat) (xs : Nat → Int32) (k : Nat) : Int32 := if k < L then xs k else 659060556 * (nI k + 1)
