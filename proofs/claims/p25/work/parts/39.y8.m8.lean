-- ===== the law: what it begins with, and what its calls ask =====
theorem IN_R {g : GC} {tx : IA} {ln : Nat} {ob : OB} {nx sz : Nat} {z be sl sv pd : IA} {sts len : Nat} (h : IN g tx ln ob nx sz (z, be, sts, sl, sv, pd, len)) : RC g z := (IN_iff.mp h).1
theorem IN_n {g : GC} {tx : IA} {ln : Nat} {ob : OB} {nx sz : Nat} {z be sl sv pd : IA} {sts len : Nat} (h : IN g tx ln ob nx sz (z, be, sts, sl, sv, pd, len)) : sz = sts ∧ ln = len ∧ tx = pd := ⟨(IN_iff.mp h).2.1.2.2.1, (IN_iff.mp h).2.2.2.2.1, (IN_iff.mp h).2.2.2.1⟩
theorem IN_c {g : GC} {tx : IA} {ln : Nat} {ob : OB} {nx sz : Nat} {y z be sl sv pd : IA} {sts len : Nat} (e : ∀ k, k < 46 → y k = z k) (h : IN g tx ln ob nx sz (z, be, sts, sl, sv, pd, len)) : IN g tx ln ob nx sz (y, be, sts, sl, sv, pd, len) := IN_iff.mpr ⟨RC_c e (IN_iff.mp h).1, (IN_iff.mp h).2⟩
theorem IN_X5 {pr sb br fe se : IA} {fl x th tu ca : Int32} {pl : Nat} {tx : IA} {ln : Nat} {ob : OB} {nx sz : Nat} {ks : KS} (h : IN (pr, sb, br, fe, se, fl, x, pl, th, tu, ca) tx ln ob nx sz ks) : (∀ k, k < 12 → okv (pr k)) ∧ ¬ x < 0 ∧ pl < 4 ∧ okc th ∧ nx < 6 ∧ sz ≤ 6 ∧ ln ≤ 60 := by
  obtain ⟨z, be, sts, sl, sv, pd, len⟩ := ks
  obtain ⟨hR, hH, _, hP⟩ := IN_iff.mp h
  obtain ⟨hp, ht, hr, hx, h40, hth, htu, hca⟩ := RG_iff.mp (RC_iff.mp hR).1
  exact ⟨fun k hk => by rw [hp.1 k hk]; exact hp.2.1 k hk, hx.2, h40.2, hth.2, hH.1, hH.2.1, hP.2.2⟩
theorem IN_X6 {pr sb br fe se : IA} {fl x th tu ca : Int32} {pl : Nat} {tx : IA} {ln : Nat} {ob : OB} {nx sz : Nat} {z be sl sv pd : IA} {sts len : Nat} (h : IN (pr, sb, br, fe, se, fl, x, pl, th, tu, ca) tx ln ob nx sz (z, be, sts, sl, sv, pd, len)) : (∀ k, k < 12 → okv (z k)) ∧ ¬ z 39 < 0 ∧ pl < 4 ∧ z 40 = nI pl ∧ okc (z 41) ∧ sts ≤ 6 ∧ len ≤ 60 := by
  obtain ⟨hR, hH, _, hP⟩ := IN_iff.mp h
  obtain ⟨hp, ht, hr, hx, h40, hth, htu, hca⟩ := RG_iff.mp (RC_iff.mp hR).1
  exact ⟨hp.2.1, by rw [← hx.1]; exact hx.2, h40.2, h40.1, by rw [← hth.1]; exact hth.2, by rw [← hH.2.2.1]; exact hH.2.1, by rw [← hP.2.1]; exact hP.2.2⟩
theorem law_lt {L i : Nat} (hL : L ≤ 1536) (hi : i ≤ L) (h : ¬ Int32.ofNat L - 3 < nI i) : i + 3 ≤ L := by
  have h1 : (nI L - nI 3).toInt = (L : Int) - 3 := pk_sub_toInt (by omega) (by decide)
  have h2 : ¬ (nI L - nI 3 < nI i) := h
  rw [Int32.lt_iff_toInt_lt, h1, nI_toInt (by omega)] at h2
  omega
theorem law_ge {L i : Nat} (hL : L ≤ 1536) (hi : i ≤ L + 3) (hi2 : i + 3 ≤ L) : i + 3 ≤ L := hi2
theorem sx_of {args : Array Value} {s : State} {n : String} {f : IA} {A : Nat → Prop} (hl : (Cond.laysStatic "BridgedPachisi" n "[I").before args s = true) (hini : (Cond.initialized "BridgedPachisi").before args s = true) (harr : (Cond.arrayOf (.static "BridgedPachisi" n "[I") .int).before args s = true) (hlen : (Cond.eq (.length (.static "BridgedPachisi" n "[I")) (.int 3)).before args s = true)
    (h0 : (Cond.eq (.elem (.static "BridgedPachisi" n "[I") (.int 0)) (.int (f 0))).before args s = true) (h1 : (Cond.eq (.elem (.static "BridgedPachisi" n "[I") (.int 1)) (.int (f 1))).before args s = true) (h2 : (Cond.eq (.elem (.static "BridgedPachisi" n "[I") (.int 2)) (.int (f 2))).before args s = true) (hA : ∀ a : Nat, a < s.heap.size → ¬ A a) : sx1 n f A s s.heap := by
  obtain ⟨t, ht, cell, hc, hof, hkn, hsz1, hsz2, hel, hnA⟩ := va_Tof (N := 3) (f := fun j => .int (f j)) (A := A) (by decide) harr (va_eqt hlen) (fun j hj => by
    rcases (show j = 0 ∨ j = 1 ∨ j = 2 by omega) with rfl | rfl | rfl
    · exact va_eqt h0
    · exact va_eqt h1
    · exact va_eqt h2) hA
  have hn := va_eqt hlen
  have hlt : cell.slots.size < 2147483648 := by
    simp only [Term.eval, Option.bind_eq_bind] at hn
    have ht2 := ht
    simp only [Term.eval, Option.bind_eq_bind] at ht2
    simp only [ht2, Option.bind_some] at hn
    obtain ⟨cell2, hcell2, h3⟩ := Option.bind_eq_some_iff.mp hn
    have : cell2 = cell := Option.some.inj ((State.arrayAt?_spec hcell2).1.symm.trans hc)
    subst this
    by_cases q : cell2.slots.size < 2147483648
    · exact q
    · rw [if_neg q] at h3; cases h3
  have hsz : cell.slots.size = 3 := by
    have e : (Int32.ofNat cell.slots.size).toNatClampNeg = (Int32.ofNat 3).toNatClampNeg := congrArg _ hsz2
    rw [Int32.toNatClampNeg_ofNat_of_lt hlt, Int32.toNatClampNeg_ofNat_of_lt (by decide)] at e
    exact e
  exact ⟨t, va_Zof hl hini ht hA, ⟨cell, hc, hof, hkn, hsz, hel⟩, (Array.getElem?_eq_some_iff.mp hc).1, hnA⟩
theorem arr_K {t : FieldType} {args : Array Value} {s : State} (h : (Cond.arrayClass t).before args s = true) : ∃ c k comp, s.vm.findClass ("[" ++ t.toString) = some c ∧ s.vm.classes[c]? = some k ∧ k.kind = .array comp t := Cond.arrayClass_spec h
theorem arr_T {t : FieldType} {s : State} {c : ClassId} {k : Class} {comp : ClassId} (h1 : s.vm.classes[c]? = some k) (h2 : k.kind = .array comp t) : ArrOfT s c t := fun N z => ⟨(fun k h => by cases h), k, h1, comp, h2⟩
