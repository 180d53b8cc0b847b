-- ===== the route home: how many throws =====
theorem m1_lt {a : Nat} (h : a < 2 ^ 31) : (-1 : Int32) < nI a := by
  rw [Int32.lt_iff_toInt_lt, nI_toInt h]
  have : (-1 : Int32).toInt = -1 := rfl
  omega
theorem tgt_nI {br : IA} {p a c : Nat} (h : a < 2 ^ 31) : tgt br p (nI a) c = tgI (tg (faN br p) a c) := by
  rw [tgt, if_neg (nI_neg h (by decide)), nI_clamp h]
/-- the class: the fewest throws from a place, casts up to c -/
def tvC (nd br : IA) (p a : Nat) : Nat → Int32
  | 0 => 36
  | c + 1 => if tgt br p (nI a) (c + 1) = -6 then tvC nd br p a c else if nd (tgt br p (nI a) (c + 1)).toNatClampNeg + 1 < tvC nd br p a c then nd (tgt br p (nI a) (c + 1)).toNatClampNeg + 1 else tvC nd br p a c
def tnC (nd br : IA) (p : Nat) : Nat → IA
  | 0 => upd nd 35 0
  | d + 1 => upd (tnC nd br p d) (34 - d) (tvC (tnC nd br p d) br p (34 - d) 6)
/-- the class: one round of going wide -/
def wdC (br : IA) (p r a : Nat) (nd : IA) : Nat → IA
  | 0 => nd
  | c + 1 => if wdC br p r a nd c a = nI r ∧ ¬ tgt br p (nI a) (c + 1) = -6 ∧ wdC br p r a nd c (tgt br p (nI a) (c + 1)).toNatClampNeg = -6 then upd (wdC br p r a nd c) (tgt br p (nI a) (c + 1)).toNatClampNeg (nI (r + 1)) else wdC br p r a nd c
def wdA (br : IA) (p r : Nat) (nd : IA) : Nat → IA
  | 0 => nd
  | a + 1 => wdC br p r a (wdA br p r nd a) 6
def fil (nd : IA) : Nat → IA
  | 0 => nd
  | n + 1 => upd (fil nd n) n (-6)
def wdR (br : IA) (p : Nat) (nd : IA) : Nat → IA
  | 0 => nd
  | r + 1 => if wdR br p nd r 35 = -6 then wdA br p r (wdR br p nd r) 35 else wdR br p nd r
theorem wdC_stop {br nd : IA} {p r a c : Nat} (h : ¬ wdC br p r a nd c a = nI r) : ∀ d, wdC br p r a nd (c + d) = wdC br p r a nd c
  | 0 => rfl
  | d + 1 => by
    have ih := wdC_stop h d
    rw [show c + (d + 1) = (c + d) + 1 from rfl, wdC, ih, if_neg (fun q => h q.1)]
theorem wdR_stop {br nd : IA} {p r : Nat} (h : ¬ wdR br p nd r 35 = -6) : ∀ d, wdR br p nd (r + d) = wdR br p nd r
  | 0 => rfl
  | d + 1 => by
    have ih := wdR_stop h d
    rw [show r + (d + 1) = (r + d) + 1 from rfl, wdR, ih, if_neg h]
theorem ndW_ex : ∃ F : IA → IA → Nat → Nat → IA, ∀ (nd br : IA) (p f : Nat), F nd br p f = wdR br p (upd (fil nd 36) f 0) 36 := ⟨fun nd br p f => wdR br p (upd (fil nd 36) f 0) 36, fun _ _ _ _ => rfl⟩
noncomputable def ndW : IA → IA → Nat → Nat → IA := Classical.choose ndW_ex
theorem ndW_eq (nd br : IA) (p f : Nat) : ndW nd br p f = wdR br p (upd (fil nd 36) f 0) 36 := Classical.choose_spec ndW_ex nd br p f
def m_needs (k w : Int32) (z nd : IA) : Int32 := if ¬ inQ k 0 11 = true then -1 else if inQ w 0 1 = true then tnR nd z k.toNatClampNeg else -2
theorem tnW_ex : ∃ F : IA → IA → Nat → Nat → Int32, ∀ (nd br : IA) (p f : Nat), F nd br p f = tnC nd br p (35 - f) f := ⟨fun nd br p f => tnC nd br p (35 - f) f, fun _ _ _ _ => rfl⟩
noncomputable def tnW : IA → IA → Nat → Nat → Int32 := Classical.choose tnW_ex
theorem tnW_eq (nd br : IA) (p f : Nat) : tnW nd br p f = tnC nd br p (35 - f) f := Classical.choose_spec tnW_ex nd br p f
