-- ===== the class's public methods that remember =====
abbrev SR : Type := Int32 × Bool × GC
def XP (ob : OB) (nx sz : Nat) (g : GC) (r : SR) (g' : GC) (ob' : OB) (nx' sz' : Nat) : Prop :=
  g' = r.2.2 ∧ (r.2.1 = true → (∃ a d, ob' = upo ob nx (a, d) ∧ geq d g) ∧ nx' = (nx + 1) % 6 ∧ sz' = rcN sz) ∧ (r.2.1 = false → ob' = ob ∧ nx' = nx ∧ sz' = sz)
theorem XP_no {ob : OB} {nx sz : Nat} {g : GC} {r : SR} {a : Int32} (h : r = (a, false, g)) : XP ob nx sz g r g ob nx sz := by
  subst h; exact ⟨rfl, fun q => Bool.noConfusion (show false = true from q), fun _ => ⟨rfl, rfl, rfl⟩⟩
theorem XP_yes {ob ob' : OB} {nx sz : Nat} {g g' : GC} {r : SR} {a : Int32} (w : ∃ a d, ob' = upo ob nx (a, d) ∧ geq d g) (h : r = (a, true, g')) : XP ob nx sz g r g' ob' ((nx + 1) % 6) (rcN sz) := by
  subst h; exact ⟨rfl, fun _ => ⟨w, rfl, rfl⟩, fun q => Bool.noConfusion (show true = false from q)⟩
def gsc (se : IA) : GS → GC
  | (pr, sb, br, fe, fl, x, pl, th, tu, ca) => (pr, sb, br, fe, se, fl, x, pl, th, tu, ca)
def s_set (k v : Int32) : GC → SR
  | (pr, sb, br, fe, se, r) => if k < 0 ∨ ¬ k < 3 then (-2, false, pr, sb, br, fe, se, r) else if v < fvL k.toNatClampNeg ∨ ¬ v ≤ fvG k.toNatClampNeg then (-2, false, pr, sb, br, fe, se, r) else (se k.toNatClampNeg, true, pr, sb, br, fe, upd se k.toNatClampNeg v, r)
def s_seed (n : Int32) : GC → SR
  | (pr, sb, br, fe, se, fl, x, r) => if ¬ 0 ≤ n then (-2, false, pr, sb, br, fe, se, fl, x, r) else (x, true, pr, sb, br, fe, se, fl, n, r)
def s_cast : GC → SR
  | (pr, sb, br, fe, se, fl, x, pl, th, tu, ca) => if ¬ wi pr = -6 ∨ ¬ th = -6 then (-5, false, pr, sb, br, fe, se, fl, x, pl, th, tu, ca) else (co (nx x), true, pr, sb, br, fe, se, fl, nx x, pl, co (nx x), tu, ca + 1)
def s_move (k : Int32) : GC → SR
  | (pr, sb, br, fe, se, fl, x, pl, th, tu, ca) => if k < 0 ∨ ¬ k < 3 then (-1, false, pr, sb, br, fe, se, fl, x, pl, th, tu, ca) else if th = -6 ∨ ¬ rs pr br se (pl * 3 + k.toNatClampNeg) th.toNatClampNeg = 0 then (-5, false, pr, sb, br, fe, se, fl, x, pl, th, tu, ca)
    else (tgt br pl (pr (pl * 3 + k.toNatClampNeg)) th.toNatClampNeg, true, gsc se (mvS se (pl * 3 + k.toNatClampNeg) th.toNatClampNeg th pr sb br fe fl x pl tu ca))
def s_skip : GC → SR
  | (pr, sb, br, fe, se, fl, x, pl, th, tu, ca) => if th = -6 ∨ cmQ pr br se pl th.toNatClampNeg = true then (-5, false, pr, sb, br, fe, se, fl, x, pl, th, tu, ca)
    else (nI (et pr br fe se pl th tu ca).2.1, true, pr, sb, (et pr br fe se pl th tu ca).1, fe, se, fl, x, (et pr br fe se pl th tu ca).2.1, -6, (et pr br fe se pl th tu ca).2.2.1, (et pr br fe se pl th tu ca).2.2.2)
def s_play (n : Int32) : GC → SR
  | (pr, sb, br, fe, se, fl, x, pl, th, tu, ca) => if n < 1 ∨ ¬ n ≤ 100 then (-2, false, pr, sb, br, fe, se, fl, x, pl, th, tu, ca) else if ¬ wi pr = -6 ∨ ¬ th = -6 then (-5, false, pr, sb, br, fe, se, fl, x, pl, th, tu, ca)
    else (nI (pg se n.toNatClampNeg (pr, sb, br, fe, fl, x, pl, th, tu, ca)).2, true, gsc se (pg se n.toNatClampNeg (pr, sb, br, fe, fl, x, pl, th, tu, ca)).1)
def s_lay (k v : Int32) : GC → SR
  | (pr, sb, br, fe, se, fl, x, pl, th, tu, ca) => if k < 0 ∨ ¬ k < 12 then (-1, false, pr, sb, br, fe, se, fl, x, pl, th, tu, ca) else if ¬ v = -6 ∧ (v < 0 ∨ ¬ v ≤ 35) then (-2, false, pr, sb, br, fe, se, fl, x, pl, th, tu, ca)
    else if ¬ roomQ pr br k.toNatClampNeg v = true then (-5, false, pr, sb, br, fe, se, fl, x, pl, th, tu, ca)
    else (pr k.toNatClampNeg, true, upd pr k.toNatClampNeg v, sb, (sf (upd pr k.toNatClampNeg v) tu br fe fl 4).1, (sf (upd pr k.toNatClampNeg v) tu br fe fl 4).2.1, se, (sf (upd pr k.toNatClampNeg v) tu br fe fl 4).2.2, x, pl, th, tu, ca)
