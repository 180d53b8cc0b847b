-- ===== what the methods answer: the class's small questions and its board =====
theorem sw_cases (n : Nat) (x : Int32) : (x.toInt < 0 ∨ (n : Int) < x.toInt) ∨ ∃ j : Nat, j ≤ n ∧ x = nI j := by
  by_cases h : x.toInt < 0 ∨ (n : Int) < x.toInt
  · exact Or.inl h
  · refine Or.inr ⟨x.toInt.toNat, by omega, Int32.toInt_inj.mp ?_⟩
    have h1 : x.toInt < 2 ^ 31 := x.toInt_lt
    rw [nI_toInt (by omega)]
    omega
/-- the field of a progress v of a player p -/
def rf (p : Nat) (v : Int32) : Int32 := if v < 0 then -6 else if 32 ≤ v then -6 else jr (nI (8 * p) + v) 32
def isf (f : Int32) : Bool := decide (¬ f < 0 ∧ jr f 8 = 0)
def bo (f : Int32) : Int32 := if f < 0 then -6 else if 32 ≤ f then -6 else if jr f 8 = 4 then f / 8 else -6
def onr (v : Int32) : Bool := decide (¬ v < 0 ∧ ¬ 32 ≤ v)
def nx (x : Int32) : Int32 := (x.toInt64 * 1103515245 + 12345 - (x.toInt64 * 1103515245 + 12345) / 2147483648 * 2147483648).toInt32
def co (x : Int32) : Int32 := 1 + jr (x / 65536) 6
theorem toInt_c {x : Int32} {c : Int} (y : Int32) (hc : y.toInt = c) : (x < y ↔ x.toInt < c) ∧ (y ≤ x ↔ c ≤ x.toInt) := by
  subst hc; exact ⟨Int32.lt_iff_toInt_lt, Int32.le_iff_toInt_le⟩
theorem bo_ne (f : Int32) (h : ¬ bo f = -6) : ∃ b : Nat, b < 4 ∧ bo f = nI b := by
  have h1 := (toInt_c (x := f) (c := 0) 0 (by decide)).1
  have h2 := (toInt_c (x := f) (c := 32) 32 (by decide)).2
  unfold bo at h ⊢
  split at h
  · exact absurd rfl h
  · rename_i g1
    rw [h1] at g1
    split at h
    · exact absurd rfl h
    · rename_i g2
      rw [h2] at g2
      obtain ⟨j, hj, rfl⟩ : ∃ j : Nat, j < 32 ∧ f = nI j := ⟨f.toInt.toNat, by omega, Int32.toInt_inj.mp (by rw [nI_toInt (by omega)]; omega)⟩
      split at h
      · rename_i g3
        rw [← h1] at g1; rw [← h2] at g2
        rw [if_neg g1, if_neg g2, if_pos g3]
        exact ⟨j / 8, by omega, pk_div (a := j) (d := 8) (by omega) (by decide) (by decide)⟩
      · exact absurd rfl h
/-- the pieces at a field -/
def pcP (pr : IA) (f : Int32) (k : Nat) : Bool := decide (rf (k / 3) (pr k) = f)
def rvP (pr : IA) (p : Nat) (f : Int32) (k : Nat) : Bool := decide (¬ f = -6 ∧ ¬ k / 3 = p ∧ rf (k / 3) (pr k) = f)
def rv (pr : IA) (p : Nat) (v : Int32) : Nat := cnt (rvP pr p (rf p v)) 12
def mtP (pr : IA) (k : Nat) (v : Int32) (j : Nat) : Bool := decide (¬ k - k % 3 + j = k ∧ pr (k - k % 3 + j) = v)
def mt (pr : IA) (k : Nat) (v : Int32) : Nat := cnt (mtP pr k v) 3
def pairQ (pr : IA) (k : Nat) : Bool := decide (onr (pr k) = true ∧ 0 < mt pr k (pr k))
def fullQ (pr : IA) (k : Nat) (v : Int32) : Bool := decide (¬ v = -6 ∧ ¬ v = 35 ∧ 2 ≤ mt pr k v)
def bs (br : IA) (f : Int32) : Int32 := if bo f = -6 then 0 else br (bo f).toNatClampNeg
def faQ (br : IA) (p : Nat) (v : Int32) : Bool := decide (bs br (rf p v) = 3)
def roomQ (pr br : IA) (k : Nat) (v : Int32) : Bool := decide (rv pr (k / 3) v = 0 ∧ ¬ fullQ pr k v = true ∧ ¬ faQ br (k / 3) v = true)
def hoP (pr : IA) (p j : Nat) : Bool := decide (pr (p * 3 + j) = 35)
def ho (pr : IA) (p : Nat) : Nat := cnt (hoP pr p) 3
def wiP (pr : IA) (p : Nat) : Bool := decide (ho pr p = 3)
def wi (pr : IA) : Int32 := low (wiP pr) 0 4
def sumI (f : IA) : Nat → Int32
  | 0 => 0
  | n + 1 => sumI f n + f n
def fset (br : IA) : Nat → Int32
  | 0 => 0
  | n + 1 => if br n = 3 then fset br n ||| ((1 : Int32) <<< (nI n &&& 31)) else fset br n
/-- where a throw leads: from a, with l of it left, over the fallen places F -/
def tg (F : Nat → Bool) : Nat → Nat → Option Nat
  | a, 0 => if F a then none else some a
  | a, 1 => if F (a + 1) then none else tg F (a + 1) 0
  | a, l + 2 => if F (a + 1) then tg F (a + 1) l else tg F (a + 1) (l + 1)
def tgI : Option Nat → Int32
  | none => -6
  | some a => if a ≤ 35 then nI a else -6
def faN (br : IA) (p a : Nat) : Bool := faQ br p (nI a)
def tgt (br : IA) (p : Nat) (v : Int32) (c : Nat) : Int32 := if v = -6 then 0 else tgI (tg (faN br p) v.toNatClampNeg c)
theorem rf_far {p a : Nat} (h : 32 ≤ a) (ha : a < 2 ^ 31) : rf p (nI a) = -6 := by
  rw [rf, if_neg (nI_pos ha), if_pos (show (32 : Int32) ≤ nI a from nI_le (a := 32) h ha)]
theorem fa_far {br : IA} {p a : Nat} (h : 32 ≤ a) (ha : a < 2 ^ 31) : faN br p a = false := by
  rw [faN, faQ, rf_far h ha]; simp [bs, bo]
theorem tg_far {F : Nat → Bool} : ∀ (l a : Nat), (∀ x, a ≤ x → x ≤ a + l → F x = false) → tg F a l = some (a + l)
  | 0, a, h => by simp [tg, h a (Nat.le_refl a) (Nat.le_refl a)]
  | 1, a, h => by simp [tg, h (a + 1) (by omega) (by omega)]
  | l + 2, a, h => by
    rw [tg, if_neg (by rw [h (a + 1) (by omega) (by omega)]; decide), tg_far (l + 1) (a + 1) (fun x h1 h2 => h x (by omega) (by omega))]
    congr 1; omega
theorem tg_le {F : Nat → Bool} : ∀ (l a t : Nat), tg F a l = some t → a ≤ t ∧ t ≤ a + l ∧ (0 < l → a < t) ∧ F t = false
  | 0, a, t, h => by
    simp only [tg] at h; split at h
    · cases h
    · rename_i g; cases h; exact ⟨by omega, by omega, fun q => absurd q (by omega), by simpa using g⟩
  | 1, a, t, h => by
    rw [tg] at h; split at h
    · cases h
    · have := tg_le 0 (a + 1) t h; exact ⟨by omega, by omega, fun _ => by omega, this.2.2.2⟩
  | l + 2, a, t, h => by
    rw [tg] at h; split at h
    · have := tg_le l (a + 1) t h; exact ⟨by omega, by omega, fun _ => by omega, this.2.2.2⟩
    · have := tg_le (l + 1) (a + 1) t h; exact ⟨by omega, by omega, fun _ => by omega, this.2.2.2⟩
def tgH (F : Nat → Bool) (r : Int32) (a : Nat) (x : Int32) : Prop := (∃ l : Nat, l ≤ 6 ∧ x = nI l ∧ r = tgI (tg F a l)) ∨ (x = -1 ∧ r = -6)
theorem tgH_f {F : Nat → Bool} {r : Int32} {a l : Nat} (h0 : 0 < l) (hl : l ≤ 6) (hr : r = tgI (tg F a l)) (hF : F (a + 1) = true) : tgH F r (a + 1) (nI l - 2) := by
  obtain ⟨k, rfl⟩ : ∃ k, l = k + 1 := ⟨l - 1, by omega⟩
  cases k with
  | zero => refine Or.inr ⟨by decide, ?_⟩; rw [hr, tg, if_pos hF]; rfl
  | succ k => exact Or.inl ⟨k, by omega, pk_sub (a := k + 1 + 1) (b := 2) (by omega), by rw [hr, tg, if_pos hF]⟩
theorem tgH_s {F : Nat → Bool} {r : Int32} {a l : Nat} (h0 : 0 < l) (hl : l ≤ 6) (hr : r = tgI (tg F a l)) (hF : ¬ F (a + 1) = true) : tgH F r (a + 1) (nI l - 1) := by
  obtain ⟨k, rfl⟩ : ∃ k, l = k + 1 := ⟨l - 1, by omega⟩
  refine Or.inl ⟨k, by omega, nI_pred k, ?_⟩
  cases k with
  | zero => rw [hr]; simp [tg, hF]
  | succ k => rw [hr, tg, if_neg hF]
theorem tgH_0 {br : IA} {p a c : Nat} (hc : c ≤ 6) (ha : a ≤ 35) : tgH (faN br p) (tgt br p (nI a) c) a (nI c) :=
  Or.inl ⟨c, hc, rfl, by rw [tgt, if_neg (nI_neg (by omega) (by decide)), nI_clamp (by omega)]⟩
theorem tg_35 {br : IA} {p a l : Nat} (h0 : 0 < l) (hl : l ≤ 6) (ha : 35 ≤ a) (ha2 : a ≤ 35) : tgI (tg (faN br p) a l) = -6 := by
  rw [tg_far l a (fun x h1 h2 => fa_far (by omega) (by omega)), tgI, if_neg (by omega)]
theorem tg_end {br : IA} {p a l : Nat} {r : Int32} (he : r = tgI (tg (faN br p) a l)) (h0 : l = 0) (hF : ¬ faQ br p (nI a) = true) (ha : a ≤ 35) : nI a = r := by
  rw [he, h0, tg, if_neg (show ¬ faN br p a = true from hF), tgI, if_pos ha]
theorem tg_fal {br : IA} {p a l : Nat} {r : Int32} (he : r = tgI (tg (faN br p) a l)) (h0 : l = 0) (hF : faQ br p (nI a) = true) : r = -6 := by
  rw [he, h0, tg, if_pos (show faN br p a = true from hF), tgI]
/-- the first place of a move's way -/
def fst0 (v : Int32) : Nat := if v = -6 then 0 else v.toNatClampNeg + 1
def blP (pr : IA) (p a : Nat) : Bool := decide (2 ≤ rv pr p (nI a))
def blQ (pr : IA) (p : Nat) (v : Int32) (t : Nat) : Bool := anyp (blP pr p) (fst0 v) (t + 1 - fst0 v)
/-- the rows when rivals are sent back -/
def srb (pr sb : IA) (p : Nat) (f : Int32) : Nat → IA × IA
  | 0 => (pr, sb)
  | n + 1 => if rvP (srb pr sb p f n).1 p f n then (upd (srb pr sb p f n).1 n (-6), upd (srb pr sb p f n).2 n ((srb pr sb p f n).2 n + 1)) else srb pr sb p f n
theorem srb_no {pr sb : IA} {p : Nat} {f : Int32} (h : f = -6) : ∀ n, srb pr sb p f n = (pr, sb)
  | 0 => rfl
  | n + 1 => by rw [srb, srb_no h n]; simp [rvP, h]
def pcN (pr : IA) (i : Nat) : Nat := cnt (pcP pr (nI (8 * i + 4))) 12
/-- bridges are strained, and fall -/
def sf (pr : IA) (tu : Int32) (br fe : IA) (fl : Int32) : Nat → IA × IA × Int32
  | 0 => (br, fe, fl)
  | i + 1 => if (sf pr tu br fe fl i).1 i = 1 ∧ 2 ≤ pcN pr i then (upd (sf pr tu br fe fl i).1 i 2, (sf pr tu br fe fl i).2.1, (sf pr tu br fe fl i).2.2)
    else if (sf pr tu br fe fl i).1 i = 2 ∧ pcN pr i = 0 then (upd (sf pr tu br fe fl i).1 i 3, upd (sf pr tu br fe fl i).2.1 i tu, (sf pr tu br fe fl i).2.2 + 1) else sf pr tu br fe fl i
def md (fe : IA) (tu me : Int32) (br : IA) : Nat → IA
  | 0 => br
  | i + 1 => if md fe tu me br i i = 3 ∧ ¬ me = 0 ∧ ¬ tu - fe i < me then upd (md fe tu me br i) i 1 else md fe tu me br i
theorem tgt_ne {br : IA} {p c : Nat} {v : Int32} (hv : okv v) (hc : c ≤ 6) (h : ¬ tgt br p v c = -6) : ∃ t : Nat, t ≤ 35 ∧ tgt br p v c = nI t ∧ (0 < c → fst0 v ≤ t) ∧ fst0 v ≤ t + 1 := by
  rcases hv with rfl | ⟨a, ha, rfl⟩
  · exact ⟨0, by omega, rfl, fun _ => by decide, by decide⟩
  · have e : tgt br p (nI a) c = tgI (tg (faN br p) a c) := by rw [tgt, if_neg (nI_neg (by omega) (by decide)), nI_clamp (by omega)]
    have f : fst0 (nI a) = a + 1 := by rw [fst0, if_neg (nI_neg (by omega) (by decide)), nI_clamp (by omega)]
    rw [e] at h ⊢
    cases ht : tg (faN br p) a c with
    | none => rw [ht] at h; exact absurd rfl h
    | some t =>
      rw [ht] at h
      have g := tg_le c a t ht
      by_cases q : t ≤ 35
      · exact ⟨t, q, by simp [tgI, q], fun h0 => by rw [f]; exact g.2.2.1 h0, by rw [f]; omega⟩
      · rw [tgI, if_neg q] at h; exact absurd rfl h
theorem fst_y : fst0 (-6) = 0 := rfl
theorem fst_n {a : Nat} (ha : a < 2 ^ 31) : fst0 (nI a) = a + 1 := by rw [fst0, if_neg (nI_neg ha (by decide)), nI_clamp ha]
