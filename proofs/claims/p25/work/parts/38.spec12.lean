-- ===== undo, save, restore, read =====
def p_undo (ob : OB) (nx sz : Nat) : Int32 := if 0 < sz ∧ (ob ((nx + 6 - 1) % 6)).isSome = true then nI (sz - 1) else -5
theorem tkP_sz {ob : OB} {nx sz : Nat} {c d : GC} {nx' sz' : Nat} (h : tkP ob nx sz c d nx' sz') (q : 0 < sz ∧ (ob ((nx + 6 - 1) % 6)).isSome = true) : sz' = sz - 1 := by
  obtain ⟨_, _, _, _, _, e⟩ := h.1 q
  exact e
theorem undo_yes {ob : OB} {nx sz : Nat} {c d : GC} {nx' sz' : Nat} (h : tkP ob nx sz c d nx' sz') (q : 0 < sz ∧ (ob ((nx + 6 - 1) % 6)).isSome = true) : nI sz' = p_undo ob nx sz := by
  rw [p_undo, if_pos q, tkP_sz h q]
theorem undo_no {ob : OB} {nx sz : Nat} (q : ¬ (0 < sz ∧ (ob ((nx + 6 - 1) % 6)).isSome = true)) : -5 = p_undo ob nx sz := by
  rw [p_undo, if_neg q]
def badS (k : Int32) : Prop := k < 0 ∨ ¬ k < 2
theorem badS_n {j : Nat} (h : j < 2) : ¬ badS (nI j) := fun q => q.elim (fun z => absurd z (nI_pos (by omega))) (fun z => z ((nI_ltI (a := j) (b := 2) (by omega) (by decide)).mpr h))
def svP (ob : OB) (k : Int32) (g : GC) (u : OB) : Prop := (badS k → u = ob) ∧ (¬ badS k → ∃ a d, u = upo ob (6 + k.toNatClampNeg) (a, d) ∧ geq d g)
theorem svP_no {ob : OB} {k : Int32} {g : GC} (h : badS k) : svP ob k g ob := ⟨fun _ => rfl, fun q => absurd h q⟩
theorem svP_yes {ob u : OB} {j : Nat} {g : GC} (h : j < 2) (w : ∃ a d, u = upo ob (6 + j) (a, d) ∧ geq d g) : svP ob (nI j) g u :=
  ⟨fun q => absurd q (badS_n h), fun _ => by rw [nI_clamp (by omega)]; exact w⟩
noncomputable def p_save (k tu : Int32) : Int32 := by classical exact if badS k then -2 else tu
theorem p_save_no {k tu : Int32} (h : badS k) : -2 = p_save k tu := by rw [p_save, if_pos h]
theorem p_save_yes {j : Nat} {tu : Int32} (h : j < 2) : tu = p_save (nI j) tu := by rw [p_save, if_neg (badS_n h)]
def tuG (c : GC) : Int32 := c.2.2.2.2.2.2.2.2.2.1
def rsA : Option GB → Int32
  | none => -5
  | some b => tuG b.2
noncomputable def p_restore (k : Int32) (ob : OB) : Int32 := by classical exact if badS k then -2 else rsA (ob (6 + k.toNatClampNeg))
theorem p_rs_no {k : Int32} {ob : OB} (h : badS k) : -2 = p_restore k ob := by rw [p_restore, if_pos h]
theorem p_rs_none {j : Nat} {ob : OB} (h : j < 2) (e : ob (6 + j) = none) : -5 = p_restore (nI j) ob := by rw [p_restore, if_neg (badS_n h), nI_clamp (by omega), e, rsA]
theorem p_rs_yes {j : Nat} {ob : OB} {b : GB} {t : Int32} (h : j < 2) (e : ob (6 + j) = some b) (ht : t = tuG b.2) : t = p_restore (nI j) ob := by rw [p_restore, if_neg (badS_n h), nI_clamp (by omega), e, rsA, ht]
def rtP (ob : OB) (nx sz : Nat) (k : Int32) (g g' : GC) (ob' : OB) (nx' sz' : Nat) : Prop :=
  ((badS k ∨ ob (6 + k.toNatClampNeg) = none) → g' = g ∧ ob' = ob ∧ nx' = nx ∧ sz' = sz) ∧
  (∀ b, ¬ badS k → ob (6 + k.toNatClampNeg) = some b → geq g' b.2 ∧ (∃ a d, ob' = upo ob nx (a, d) ∧ geq d g) ∧ nx' = (nx + 1) % 6 ∧ sz' = rcN sz)
theorem rtP_no {ob : OB} {nx sz : Nat} {k : Int32} {g : GC} (h : badS k) : rtP ob nx sz k g g ob nx sz := ⟨fun _ => ⟨rfl, rfl, rfl, rfl⟩, fun _ q => absurd h q⟩
theorem rtP_none {ob : OB} {nx sz j : Nat} {g : GC} (hj : j < 2) (h : ob (6 + j) = none) : rtP ob nx sz (nI j) g g ob nx sz := ⟨fun _ => ⟨rfl, rfl, rfl, rfl⟩, fun b _ q => by rw [nI_clamp (by omega), h] at q; cases q⟩
theorem rtP_yes {ob ob' : OB} {nx sz j : Nat} {g g' : GC} {b : GB} (hj : j < 2) (h : ob (6 + j) = some b) (hg : geq g' b.2) (w : ∃ a d, ob' = upo ob nx (a, d) ∧ geq d g) : rtP ob nx sz (nI j) g g' ob' ((nx + 1) % 6) (rcN sz) :=
  ⟨fun q => q.elim (fun z => absurd z (badS_n hj)) (fun z => by rw [nI_clamp (by omega), h] at z; cases z), fun b' _ q => by
    rw [nI_clamp (by omega), h] at q
    cases q
    exact ⟨hg, w, rfl, rfl⟩⟩
theorem upo_at {ob ob' : OB} {nx i : Nat} {g : GC} {b : Option GB} (w : ∃ a d, ob' = upo ob nx (a, d) ∧ geq d g) (hi : nx < i) (h : ob i = b) : ob' i = b := by
  obtain ⟨a, d, e, _⟩ := w
  rw [e, upo, if_neg (by omega)]; exact h
theorem XP_row {ob ob' : OB} {nx sz nx' sz' : Nat} {g g' : GC} {r : SR} (h : XP ob nx sz g r g' ob' nx' sz') (hn : nx < 6) : rfs ob' 6 2 = rfs ob 6 2 := by
  cases hb : r.2.1 with
  | false => rw [(h.2.2 hb).1]
  | true => obtain ⟨⟨a, d, e, _⟩, _⟩ := h.2.1 hb; rw [e, rfs_out (Or.inl hn)]
theorem rtP_row {ob ob' : OB} {nx sz nx' sz' : Nat} {k : Int32} {g g' : GC} (h : rtP ob nx sz k g g' ob' nx' sz') (hn : nx < 6) : rfs ob' 6 2 = rfs ob 6 2 := by
  by_cases q : badS k ∨ ob (6 + k.toNatClampNeg) = none
  · rw [(h.1 q).2.1]
  · have q1 := fun z => q (Or.inl z)
    cases e : ob (6 + k.toNatClampNeg) with
    | none => exact absurd (Or.inr e) q
    | some b => obtain ⟨_, ⟨a, d, e2, _⟩, _⟩ := h.2 b q1 e; rw [e2, rfs_out (Or.inl hn)]
theorem svP_row {ob u : OB} {k : Int32} {g : GC} (h : svP ob k g u) : rfs u 0 6 = rfs ob 0 6 := by
  by_cases q : badS k
  · rw [h.1 q]
  · obtain ⟨a, d, e, _⟩ := h.2 q; rw [e, rfs_out (Or.inr (by omega))]
/-- a move of the pad -/
def mmT (se tx : IA) (t : Nat) : GS → Bool × GS
  | (pr, sb, br, fe, fl, x, pl, th, tu, ca) => mmS se (tx (2 * t) - 48).toNatClampNeg (if tx (2 * t + 1) = 45 then -6 else tx (2 * t + 1) - 97) pr sb br fe fl x pl th tu ca
theorem mmS_no {se pr sb br fe : IA} {cn pl : Nat} {tp fl x th tu ca : Int32} (h : ¬ (mmS se cn tp pr sb br fe fl x pl th tu ca).1 = true) : (mmS se cn tp pr sb br fe fl x pl th tu ca).2 = (pr, sb, br, fe, fl, x, pl, th, tu, ca) := by
  revert h
  rw [mmS]
  repeat' split
  all_goals (intro h; first | rfl | exact absurd rfl h)
theorem mmS_okg {se pr sb br fe : IA} {cn pl : Nat} {tp fl x th tu ca : Int32} (h1 : ∀ k, k < 12 → okv (pr k)) (h2 : ¬ x < 0) (h3 : pl < 4) : okg (mmS se cn tp pr sb br fe fl x pl th tu ca).2 := by
  rw [mmS]
  repeat' split
  · exact ⟨h1, h2, h3⟩
  · exact psS_ok h1 h2 h3
  · exact mvS_ok h1 h2 h3
  · exact ⟨h1, h2, h3⟩
def rxS (se tx : IA) (g : GS) : Nat → GS × Nat × Bool
  | 0 => (g, 0, true)
  | t + 1 => if ((rxS se tx g t).2.2 = true ∧ wi (rxS se tx g t).1.1 = -6) ∧ (mmT se tx t (rxS se tx g t).1).1 = true then ((mmT se tx t (rxS se tx g t).1).2, (rxS se tx g t).2.1 + 1, true) else ((rxS se tx g t).1, (rxS se tx g t).2.1, false)
theorem rxS_stop {se tx : IA} {g : GS} {t : Nat} (h : (rxS se tx g t).2.2 = false) : ∀ d, rxS se tx g (t + d) = rxS se tx g t
  | 0 => rfl
  | d + 1 => by
    have ih := rxS_stop h d
    rw [show t + (d + 1) = (t + d) + 1 from rfl, rxS, ih, if_neg (fun q => by rw [h] at q; exact absurd q.1.1 (by decide)), ← h]
theorem rxS_go {se tx : IA} {g g1 g2 : GS} {t dn : Nat} (h : (g1, dn, true) = rxS se tx g t) (hw : wi g1.1 = -6) (hm : (mmT se tx t g1).1 = true) (h2 : g2 = (mmT se tx t g1).2) : (g2, dn + 1, true) = rxS se tx g (t + 1) := by
  rw [rxS, ← h, if_pos ⟨⟨rfl, hw⟩, hm⟩, h2]
theorem rxS_no {se tx : IA} {g g1 : GS} {t dn : Nat} (h : (g1, dn, true) = rxS se tx g t) (hw : ¬ (wi g1.1 = -6 ∧ (mmT se tx t g1).1 = true)) : ∀ e, t < e → rxS se tx g e = (g1, dn, false) := fun e he => by
  have h1 : rxS se tx g (t + 1) = (g1, dn, false) := by rw [rxS, ← h, if_neg (fun q => hw ⟨q.1.2, q.2⟩)]
  rw [show e = (t + 1) + (e - (t + 1)) by omega, rxS_stop (by rw [h1]), h1]
def s_read (tx : IA) (ln : Nat) : GC → SR
  | (pr, sb, br, fe, se, fl, x, pl, th, tu, ca) => if ¬ ffM tx ln = -6 then (-3, false, pr, sb, br, fe, se, fl, x, pl, th, tu, ca) else if ¬ th = -6 then (-5, false, pr, sb, br, fe, se, fl, x, pl, th, tu, ca)
    else (nI (rxS se tx (pr, sb, br, fe, fl, x, pl, th, tu, ca) (ln / 2)).2.1, true, gsc se (rxS se tx (pr, sb, br, fe, fl, x, pl, th, tu, ca) (ln / 2)).1)
theorem tp_ok {tx : IA} {t : Nat} (h : tx (2 * t + 1) = 45 ∨ ∃ jv : Nat, 97 ≤ jv ∧ jv ≤ 99 ∧ tx (2 * t + 1) = nI jv) : (if tx (2 * t + 1) = 45 then -6 else tx (2 * t + 1) - 97) = -6 ∨ ∃ j : Nat, j < 3 ∧ (if tx (2 * t + 1) = 45 then -6 else tx (2 * t + 1) - 97) = nI j := by
  by_cases q : tx (2 * t + 1) = 45
  · rw [if_pos q]; exact Or.inl rfl
  · rw [if_neg q]
    obtain ⟨jv, h1, h2, e⟩ := h.resolve_left q
    exact Or.inr ⟨jv - 97, by omega, rd_sub (b := 97) e (by omega)⟩
