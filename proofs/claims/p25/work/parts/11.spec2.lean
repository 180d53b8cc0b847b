-- ===== what a game's methods answer =====
/-- why piece k cannot be moved by a throw cn -/
def rs (pr br se : IA) (k cn : Nat) : Int32 :=
  if pr k = 35 then 1 else if pr k = -6 ∧ ¬ se 0 ≤ nI cn then 2 else if tgt br (k / 3) (pr k) cn = -6 then 3 else if blQ pr (k / 3) (pr k) (tgt br (k / 3) (pr k) cn).toNatClampNeg = true then 4
  else if fullQ pr k (tgt br (k / 3) (pr k) cn) = true then 5 else if isf (rf (k / 3) (tgt br (k / 3) (pr k) cn)) = true ∧ 0 < rv pr (k / 3) (tgt br (k / 3) (pr k) cn) then 6 else 0
def rsP (pr br se : IA) (cn k : Nat) : Bool := decide (rs pr br se k cn = 0)
def cmQ (pr br se : IA) (pl cn : Nat) : Bool := anyp (rsP pr br se cn) (pl * 3) 3
/-- the worth of a move: its kind, and below it the progress -/
def wo (pr br : IA) (pl k cn : Nat) : Int32 :=
  if tgt br pl (pr k) cn = 35 then 300 + pr k else if 0 < rv pr pl (tgt br pl (pr k) cn) then 200 + pr k else if onr (tgt br pl (pr k) cn) = true ∧ 0 < mt pr k (tgt br pl (pr k) cn) then 100 + pr k else 0 + pr k
def bpS (pr br se : IA) (pl cn : Nat) : Nat → Int32 × Int32
  | 0 => (-6, 0)
  | j + 1 => if rs pr br se (pl * 3 + j) cn = 0 ∧ ((bpS pr br se pl cn j).1 = -6 ∨ ¬ wo pr br pl (pl * 3 + j) cn ≤ (bpS pr br se pl cn j).2) then (nI (pl * 3 + j), wo pr br pl (pl * 3 + j) cn) else bpS pr br se pl cn j
def bp (pr br se : IA) (pl cn : Nat) : Int32 := (bpS pr br se pl cn 3).1
theorem bpS_ok {pr br se : IA} {pl cn : Nat} : ∀ n, ¬ (bpS pr br se pl cn n).1 = -6 → ∃ j, j < n ∧ (bpS pr br se pl cn n).1 = nI (pl * 3 + j) ∧ rs pr br se (pl * 3 + j) cn = 0
  | 0, h => absurd rfl h
  | n + 1, h => by
    rw [bpS] at h ⊢
    by_cases q : rs pr br se (pl * 3 + n) cn = 0 ∧ ((bpS pr br se pl cn n).1 = -6 ∨ ¬ wo pr br pl (pl * 3 + n) cn ≤ (bpS pr br se pl cn n).2)
    · rw [if_pos q]; exact ⟨n, Nat.lt_succ_self n, rfl, q.1⟩
    · rw [if_neg q] at h ⊢
      obtain ⟨j, h1, h2⟩ := bpS_ok n h
      exact ⟨j, by omega, h2⟩
theorem bp_ok {pr br se : IA} {pl cn : Nat} (h : ¬ bp pr br se pl cn = -6) : ∃ j, j < 3 ∧ bp pr br se pl cn = nI (pl * 3 + j) ∧ rs pr br se (pl * 3 + j) cn = 0 := bpS_ok 3 h
/-- behind a throw: bridges, player, turns, throws -/
def et (pr br fe se : IA) (pl : Nat) (th tu ca : Int32) : IA × Nat × Int32 × Int32 :=
  if (th = 6 ∧ ¬ se 2 < ca) ∨ ¬ wi pr = -6 then (br, pl, tu, ca) else (md fe (tu + 1) (se 1) br 4, (pl + 1) % 4, tu + 1, 0)
/-- a game: pieces, sent back, bridges, fell in, falls, x, player, throw, turns, throws -/
abbrev GS : Type := IA × IA × IA × IA × Int32 × Int32 × Nat × Int32 × Int32 × Int32
/-- a move of piece k by the throw th -/
def mvS (se : IA) (k cn : Nat) (th : Int32) (pr sb br fe : IA) (fl x : Int32) (pl : Nat) (tu ca : Int32) : GS :=
  let t := tgt br pl (pr k) cn
  let s1 := srb pr sb pl (rf pl t) 12
  let s2 := sf (upd s1.1 k t) tu br fe fl 4
  let q := et (upd s1.1 k t) s2.1 s2.2.1 se pl th tu ca
  (upd s1.1 k t, s1.2, q.1, s2.2.1, s2.2.2, x, q.2.1, -6, q.2.2.1, q.2.2.2)
theorem mv_eq {se pr sb br fe br1 fe1 br2 pr1 sb1 : IA} {fl x fl1 th tu ca tu2 ca2 : Int32} {k cn pl pl2 : Nat} (h1 : (pr1, sb1) = srb pr sb pl (rf pl (tgt br pl (pr k) cn)) 12) (h2 : (br1, fe1, fl1) = sf (upd pr1 k (tgt br pl (pr k) cn)) tu br fe fl 4)
    (h3 : (br2, pl2, tu2, ca2) = et (upd pr1 k (tgt br pl (pr k) cn)) br1 fe1 se pl th tu ca) : (upd pr1 k (tgt br pl (pr k) cn), sb1, br2, fe1, fl1, x, pl2, (-6 : Int32), tu2, ca2) = mvS se k cn th pr sb br fe fl x pl tu ca := by
  simp only [mvS, ← h1, ← h2, ← h3]
/-- passing, by the throw th -/
def psS (se : IA) (th : Int32) (pr sb br fe : IA) (fl x : Int32) (pl : Nat) (tu ca : Int32) : GS :=
  (pr, sb, (et pr br fe se pl th tu ca).1, fe, fl, x, (et pr br fe se pl th tu ca).2.1, -6, (et pr br fe se pl th tu ca).2.2.1, (et pr br fe se pl th tu ca).2.2.2)
/-- a throw by x, and what the best piece makes of it -/
def one (se : IA) (g : GS) : GS := match g with
  | (pr, sb, br, fe, fl, x, pl, _, tu, ca) =>
    if bp pr br se pl (co (nx x)).toNatClampNeg = -6 then psS se (co (nx x)) pr sb br fe fl (nx x) pl tu (ca + 1)
    else mvS se (bp pr br se pl (co (nx x)).toNatClampNeg).toNatClampNeg (co (nx x)).toNatClampNeg (co (nx x)) pr sb br fe fl (nx x) pl tu (ca + 1)
def pg (se : IA) : Nat → GS → GS × Nat
  | 0, g => (g, 0)
  | n + 1, g => if wi g.1 = -6 then ((pg se n (one se g)).1, (pg se n (one se g)).2 + 1) else (g, 0)
/-- what holds of a game at any time -/
def okg (g : GS) : Prop := (∀ k, k < 12 → okv (g.1 k)) ∧ ¬ g.2.2.2.2.2.1 < 0 ∧ g.2.2.2.2.2.2.1 < 4
theorem nx_nn {x : Int32} (h : ¬ x < 0) : ¬ nx x < 0 := by
  obtain ⟨n, hn, rfl⟩ := nI_of h
  have e : (nI n).toInt64 = lN n := nI_l hn
  have e2 : (lN n * 1103515245 + 12345 : Int64) = lN (n * 1103515245 + 12345) := by
    rw [show (1103515245 : Int64) = lN 1103515245 from rfl, show (12345 : Int64) = lN 12345 from rfl, lN_mul, lN_add]
  rw [nx, e, e2, show (2147483648 : Int64) = lN 2147483648 from rfl, pk_lRem (by omega) (by decide) (by decide), lN_i]
  exact nI_pos (by omega)
theorem nx_nI {n : Nat} (hn : n < 2 ^ 31) : nx (nI n) = nI ((n * 1103515245 + 12345) % 2147483648) := by
  have e : (nI n).toInt64 = lN n := nI_l hn
  have e2 : (lN n * 1103515245 + 12345 : Int64) = lN (n * 1103515245 + 12345) := by
    rw [show (1103515245 : Int64) = lN 1103515245 from rfl, show (12345 : Int64) = lN 12345 from rfl, lN_mul, lN_add]
  rw [nx, e, e2, show (2147483648 : Int64) = lN 2147483648 from rfl, pk_lRem (by omega) (by decide) (by decide), lN_i]
theorem co_nI {n : Nat} (hn : n < 2 ^ 31) : co (nI n) = nI (1 + n / 65536 % 6) := by
  rw [co, show (65536 : Int32) = nI 65536 from rfl, pk_div hn (by decide) (by decide), jr, show (6 : Int32) = nI 6 from rfl, pk_rem (by omega) (by decide) (by decide), show (1 : Int32) = nI 1 from rfl, nI_add]
theorem co_ok {x : Int32} (h : ¬ x < 0) : ∃ c : Nat, 1 ≤ c ∧ c ≤ 6 ∧ co x = nI c := by
  obtain ⟨n, hn, rfl⟩ := nI_of h
  exact ⟨1 + n / 65536 % 6, by omega, by omega, co_nI hn⟩
theorem tgI_ok (o : Option Nat) : okv (tgI o) := by
  cases o with
  | none => exact Or.inl rfl
  | some a =>
    rw [tgI]; split
    · rename_i h; exact Or.inr ⟨a, h, rfl⟩
    · exact Or.inl rfl
theorem tgt_ok {br : IA} {p c : Nat} {v : Int32} : okv (tgt br p v c) := by
  rw [tgt]; split
  · exact Or.inr ⟨0, by omega, rfl⟩
  · exact tgI_ok _
theorem srb_ok {pr sb : IA} {p : Nat} {f : Int32} (h : ∀ k, k < 12 → okv (pr k)) : ∀ n k, k < 12 → okv ((srb pr sb p f n).1 k)
  | 0, k, hk => h k hk
  | n + 1, k, hk => by
    rw [srb]; split
    · show okv (upd _ n (-6) k)
      rw [upd]; split
      · exact Or.inl rfl
      · exact srb_ok h n k hk
    · exact srb_ok h n k hk
theorem upd_ok {pr : IA} {j : Nat} {v : Int32} (h : ∀ k, k < 12 → okv (pr k)) (hv : okv v) : ∀ k, k < 12 → okv (upd pr j v k) := fun k hk => by
  rw [upd]; split
  · exact hv
  · exact h k hk
theorem et_pl {pr br fe se : IA} {pl : Nat} {th tu ca : Int32} (h : pl < 4) : (et pr br fe se pl th tu ca).2.1 < 4 := by
  rw [et]; split
  · exact h
  · exact Nat.mod_lt _ (by decide)
theorem mvS_ok {se pr sb br fe : IA} {k cn pl : Nat} {th fl x tu ca : Int32} (h : ∀ k, k < 12 → okv (pr k)) (hx : ¬ x < 0) (hp : pl < 4) : okg (mvS se k cn th pr sb br fe fl x pl tu ca) :=
  ⟨upd_ok (srb_ok h 12) tgt_ok, hx, et_pl hp⟩
theorem psS_ok {se pr sb br fe : IA} {pl : Nat} {th fl x tu ca : Int32} (h : ∀ k, k < 12 → okv (pr k)) (hx : ¬ x < 0) (hp : pl < 4) : okg (psS se th pr sb br fe fl x pl tu ca) := ⟨h, hx, et_pl hp⟩
theorem one_eq (se pr sb br fe : IA) (fl x : Int32) (pl : Nat) (th tu ca : Int32) : one se (pr, sb, br, fe, fl, x, pl, th, tu, ca) = if bp pr br se pl (co (nx x)).toNatClampNeg = -6 then psS se (co (nx x)) pr sb br fe fl (nx x) pl tu (ca + 1)
    else mvS se (bp pr br se pl (co (nx x)).toNatClampNeg).toNatClampNeg (co (nx x)).toNatClampNeg (co (nx x)) pr sb br fe fl (nx x) pl tu (ca + 1) := rfl
theorem ite_okg {P : Prop} {hp : Decidable P} {a b : GS} (ha : okg a) (hb : okg b) : okg (@ite _ P hp a b) := by
  split
  · exact ha
  · exact hb
theorem one_ok {se : IA} {g : GS} (h : okg g) : okg (one se g) := by
  obtain ⟨pr, sb, br, fe, fl, x, pl, th, tu, ca⟩ := g
  have h1 : ∀ k, k < 12 → okv (pr k) := h.1
  have h2 : ¬ x < 0 := h.2.1
  have h3 : pl < 4 := h.2.2
  rw [one_eq]
  exact ite_okg (psS_ok h1 (nx_nn h2) h3) (mvS_ok h1 (nx_nn h2) h3)
theorem pg_ok {se : IA} : ∀ (n : Nat) (g : GS), okg g → okg (pg se n g).1
  | 0, g, h => h
  | n + 1, g, h => by
    rw [pg]; split
    · exact pg_ok n _ (one_ok h)
    · exact h
/-- with how many more turns that begin a bridge is mended -/
def tum (br fe se : IA) (tu f : Int32) : Int32 :=
  if bo f = -6 then -6 else if ¬ br (bo f).toNatClampNeg = 3 then -6 else if se 1 = 0 then -6 else if (1 : Int32) < se 1 - (tu - fe (bo f).toNatClampNeg) then se 1 - (tu - fe (bo f).toNatClampNeg) else 1
/-- a move of a text: whether it is done, and the game then -/
def mmS (se : IA) (cn : Nat) (tp : Int32) (pr sb br fe : IA) (fl x : Int32) (pl : Nat) (th tu ca : Int32) : Bool × GS :=
  if tp = -6 then (if cmQ pr br se pl cn = true then (false, (pr, sb, br, fe, fl, x, pl, th, tu, ca)) else
      (true, psS se (nI cn) pr sb br fe fl x pl tu (ca + 1)))
  else if rs pr br se (pl * 3 + tp.toNatClampNeg) cn = 0 then (true, mvS se (pl * 3 + tp.toNatClampNeg) cn (nI cn) pr sb br fe fl x pl tu (ca + 1)) else (false, (pr, sb, br, fe, fl, x, pl, th, tu, ca))
theorem co_clamp {x : Int32} {cn : Nat} (e : co (nx x) = nI cn) (hc : cn ≤ 6) : (co (nx x)).toNatClampNeg = cn := by rw [e]; exact nI_clamp (by omega)
theorem one_pass {se pr sb br fe br2 : IA} {fl x th tu ca ca1 tu2 ca2 : Int32} {pl pl2 cn : Nat} (hca : ca1 = ca + 1) (ecn : co (nx x) = nI cn) (hc : cn ≤ 6) (hb : bp pr br se pl cn = -6) (h3 : (br2, pl2, tu2, ca2) = et pr br fe se pl (nI cn) tu ca1) :
    ((pr, sb, br2, fe, fl, nx x, pl2, -6, tu2, ca2) : GS) = one se (pr, sb, br, fe, fl, x, pl, th, tu, ca) := by
  rw [one_eq, co_clamp ecn hc, if_pos hb, psS, ecn, ← hca, ← h3]
theorem one_move {se pr sb br fe : IA} {fl x th tu ca ca1 : Int32} {pl cn k : Nat} {u : GS} (hca : ca1 = ca + 1) (ecn : co (nx x) = nI cn) (hc : cn ≤ 6) (eb : bp pr br se pl cn = nI k) (hk : k < 2 ^ 31) (h3 : u = mvS se k cn (nI cn) pr sb br fe fl (nx x) pl tu ca1) :
    u = one se (pr, sb, br, fe, fl, x, pl, th, tu, ca) := by
  rw [one_eq, co_clamp ecn hc, if_neg (by rw [eb]; exact nI_neg hk (by decide)), eb, nI_clamp hk, ecn, ← hca, h3]
theorem pg_step {se : IA} {mo i : Nat} {g g' g0 : GS} (hi : i < mo) (hw : wi g.1 = -6) (ho : g' = one se g) (hf : pg se mo g0 = ((pg se (mo - i) g).1, (pg se (mo - i) g).2 + i)) : pg se mo g0 = ((pg se (mo - (i + 1)) g').1, (pg se (mo - (i + 1)) g').2 + (i + 1)) := by
  rw [hf, show mo - i = (mo - (i + 1)) + 1 by omega, pg, if_pos hw, ho, Nat.add_assoc, Nat.add_comm 1 i]
theorem pg_end {se : IA} {mo i : Nat} {g g0 : GS} (h : mo ≤ i ∨ ¬ wi g.1 = -6) (hi : i ≤ mo) (hf : pg se mo g0 = ((pg se (mo - i) g).1, (pg se (mo - i) g).2 + i)) : pg se mo g0 = (g, i) := by
  rw [hf]
  cases e : mo - i with
  | zero => simp [pg]
  | succ n =>
    rcases h with h | h
    · omega
    · rw [pg, if_neg h]; simp
theorem mm_no1 {se pr sb br fe : IA} {fl x th tu ca : Int32} {pl cn : Nat} (h : cmQ pr br se pl cn = true) : (false, ((pr, sb, br, fe, fl, x, pl, th, tu, ca) : GS)) = mmS se cn (-6) pr sb br fe fl x pl th tu ca := by
  rw [mmS, if_pos rfl, if_pos h]
theorem mm_pass {se pr sb br fe br2 : IA} {fl x th tu ca ca1 tu2 ca2 : Int32} {pl pl2 cn : Nat} (h : ¬ cmQ pr br se pl cn = true) (hca : ca1 = ca + 1) (h3 : (br2, pl2, tu2, ca2) = et pr br fe se pl (nI cn) tu ca1) : (true, ((pr, sb, br2, fe, fl, x, pl2, -6, tu2, ca2) : GS)) = mmS se cn (-6) pr sb br fe fl x pl th tu ca := by
  rw [mmS, if_pos rfl, if_neg h, psS, ← hca, ← h3]
theorem mm_no2 {se pr sb br fe : IA} {fl x th tu ca : Int32} {pl cn j : Nat} (hj : j < 3) (h : ¬ rs pr br se (pl * 3 + j) cn = 0) : (false, ((pr, sb, br, fe, fl, x, pl, th, tu, ca) : GS)) = mmS se cn (nI j) pr sb br fe fl x pl th tu ca := by
  rw [mmS, if_neg (nI_neg (by omega) (by decide)), nI_clamp (by omega), if_neg h]
theorem mm_mv {se pr sb br fe : IA} {fl x th tu ca ca1 : Int32} {pl cn j : Nat} {u : GS} (hj : j < 3) (h : rs pr br se (pl * 3 + j) cn = 0) (hca : ca1 = ca + 1) (h3 : u = mvS se (pl * 3 + j) cn (nI cn) pr sb br fe fl x pl tu ca1) : (true, u) = mmS se cn (nI j) pr sb br fe fl x pl th tu ca := by
  rw [mmS, if_neg (nI_neg (by omega) (by decide)), nI_clamp (by omega), if_pos h, ← hca, h3]
