-- ===== the class's public methods: what they answer =====
theorem np_ok {k : Int32} (h : ¬ (k < 0 ∨ ¬ k < 12)) : ∃ j : Nat, j < 12 ∧ k = nI j := by
  have h1 : ¬ k < 0 := fun q => h (Or.inl q)
  have h2 : k < 12 := Decidable.not_not.mp (fun q => h (Or.inr q))
  rw [(toInt_c (x := k) (c := 0) 0 (by decide)).1] at h1
  rw [(toInt_c (x := k) (c := 12) 12 (by decide)).1] at h2
  exact ⟨k.toInt.toNat, by omega, Int32.toInt_inj.mp (by rw [nI_toInt (by omega)]; omega)⟩
theorem rg_ok {k y : Int32} {c : Nat} (hc : y.toInt = (c : Int)) (hc2 : c < 1000) (h1 : ¬ k < 0) (h2 : k < y) : ∃ j : Nat, j < c ∧ k = nI j := by
  rw [(toInt_c (x := k) (c := 0) 0 (by decide)).1] at h1
  rw [(toInt_c (x := k) (c := c) y hc).1] at h2
  exact ⟨k.toInt.toNat, by omega, Int32.toInt_inj.mp (by rw [nI_toInt (by omega)]; omega)⟩
theorem rg_le {k y : Int32} {c : Nat} (hc : y.toInt = (c : Int)) (hc2 : c < 1000) (h1 : ¬ k < 0) (h2 : k ≤ y) : ∃ j : Nat, j ≤ c ∧ k = nI j := by
  rw [(toInt_c (x := k) (c := 0) 0 (by decide)).1] at h1
  rw [Int32.le_iff_toInt_le, hc] at h2
  exact ⟨k.toInt.toNat, by omega, Int32.toInt_inj.mp (by rw [nI_toInt (by omega)]; omega)⟩
theorem rg_1 {k y : Int32} {c : Nat} (hc : y.toInt = (c : Int)) (hc2 : c < 1000) (h1 : ¬ k < 1) (h2 : k ≤ y) : ∃ j : Nat, 1 ≤ j ∧ j ≤ c ∧ k = nI j := by
  rw [(toInt_c (x := k) (c := 1) 1 (by decide)).1] at h1
  rw [Int32.le_iff_toInt_le, hc] at h2
  exact ⟨k.toInt.toNat, by omega, by omega, Int32.toInt_inj.mp (by rw [nI_toInt (by omega)]; omega)⟩
def p_piece (k w : Int32) (pr sb : IA) : Int32 :=
  if k < 0 ∨ ¬ k < 12 then -1 else if w = 0 then pr k.toNatClampNeg else if w = 1 then rf (k.toNatClampNeg / 3) (pr k.toNatClampNeg)
  else if w = 2 then (if pairQ pr k.toNatClampNeg = true then 1 else 0) else if w = 3 then sb k.toNatClampNeg else -2
def p_field (f w : Int32) (pr br fe se : IA) (tu : Int32) : Int32 :=
  if f < 0 ∨ ¬ f < 32 then -1 else if w = 0 then nI (cnt (pcP pr f) 12) else if w = 1 then low (pcP pr f) 0 12 else if w = 2 then (if isf f = true then 1 else 0) else if w = 3 then bs br f else if w = 4 then tum br fe se tu f else -2
def p_why (k c : Int32) (pr br se : IA) : Int32 := if k < 0 ∨ ¬ k < 12 then -1 else if c < 1 ∨ ¬ c ≤ 6 then -2 else rs pr br se k.toNatClampNeg c.toNatClampNeg
def p_best (pr br se : IA) (pl : Nat) (th : Int32) : Int32 := if th = -6 then -5 else if bp pr br se pl th.toNatClampNeg = -6 then -6 else jr (bp pr br se pl th.toNatClampNeg) 3
def p_nextCast (n x : Int32) : Int32 := if n < 0 ∨ ¬ n ≤ 99 then -2 else co (xN x (n.toNatClampNeg + 1))
def p_count (w : Int32) (pr sb br se : IA) (fl x : Int32) (pl : Nat) (th tu ca : Int32) (ln sz : Nat) : Int32 :=
  if w = 0 then se 0 else if w = 1 then se 1 else if w = 2 then se 2 else if w = 3 then x else if w = 4 then nI pl else if w = 5 then th else if w = 6 then tu else if w = 7 then ca else if w = 8 then wi pr
  else if w = 9 then nI (ho pr 0) else if w = 10 then nI (ho pr 1) else if w = 11 then nI (ho pr 2) else if w = 12 then nI (ho pr 3) else if w = 13 then sumI sb 12 else if w = 14 then fset br 4 else if w = 15 then fl else if w = 16 then nI ln else if w = 17 then nI sz else -2
noncomputable def p_needs (k w : Int32) (pr br nd : IA) : Int32 :=
  if k < 0 ∨ ¬ k < 12 then -1 else if ¬ w = 0 ∧ ¬ w = 1 then -2
  else if pr k.toNatClampNeg = -6 then 1 + (if w = 0 then tnW nd br (k.toNatClampNeg / 3) 0 else ndW nd br (k.toNatClampNeg / 3) 0 35)
  else 0 + (if w = 0 then tnW nd br (k.toNatClampNeg / 3) (pr k.toNatClampNeg).toNatClampNeg else ndW nd br (k.toNatClampNeg / 3) (pr k.toNatClampNeg).toNatClampNeg 35)
def p_until (th : Int32) (se : IA) (g : GS) : Int32 := if ¬ th = -6 then -5 else if ¬ wi (pg se 400 g).1.1 = -6 then nI (pg se 400 g).2 else -6
def p_put (ch : Int64) (tx : IA) (ln : Nat) : Int32 × IA × Nat := if lenL ch = 0 then (-2, tx, ln) else if 60 < ln + lenL ch then (-4, tx, ln) else (nI (ln + lenL ch), apd tx ln (uN ch) (lenL ch) (lenL ch), ln + lenL ch)
