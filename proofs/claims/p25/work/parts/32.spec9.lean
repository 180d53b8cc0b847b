-- ===== games that may be there: the rooms of the history (0 to 5), the slots (6, 7) =====
abbrev GA : Type := Nat × Nat × Nat × Nat × Nat × Nat × Nat
abbrev GC : Type := IA × IA × IA × IA × IA × Int32 × Int32 × Nat × Int32 × Int32 × Int32
abbrev GB : Type := GA × GC
def gcl (cI : ClassId) : GB → va_W
  | ((qg, qt, qb, qp, qs, qr, qf), pr, sb, br, fe, se, fl, x, pl, th, tu, ca) => [(qg, .inr (1, [.ref qb, .ref qt, .int x, .int (nI pl), .int th, .int tu, .int ca])), (qt, .inl (cI, 3, .inl se)), (qb, .inr (0, [.ref qp, .ref qs, .ref qr, .ref qf, .int fl])), (qp, .inl (cI, 12, .inl pr)), (qs, .inl (cI, 12, .inl sb)), (qr, .inl (cI, 4, .inl br)), (qf, .inl (cI, 4, .inl fe))]
def ad (b : GB) : Nat := b.1.1
def og (cI : ClassId) : Option GB → va_W
  | none => []
  | some b => gcl cI b
abbrev OB : Type := Nat → Option GB
def gwn (cI : ClassId) (ob : OB) : Nat → va_W
  | 0 => []
  | n + 1 => gwn cI ob n ++ og cI (ob n)
def gws (cI : ClassId) (ob : OB) : va_W := gwn cI ob 8
def offo (ob : OB) (i : Nat) : OB := fun j => if j = i then none else ob j
def upo (ob : OB) (i : Nat) (b : GB) : OB := fun j => if j = i then some b else ob j
theorem gwn_congr {cI : ClassId} {ob ob' : OB} : ∀ n, (∀ k, k < n → ob k = ob' k) → gwn cI ob n = gwn cI ob' n
  | 0, _ => rfl
  | n + 1, h => by rw [gwn, gwn, gwn_congr n (fun k hk => h k (by omega)), h n (by omega)]
theorem gwn_perm {cI : ClassId} {ob : OB} {i : Nat} : ∀ n, i < n → (gwn cI ob n).Perm (og cI (ob i) ++ gwn cI (offo ob i) n)
  | 0, h => absurd h (Nat.not_lt_zero i)
  | n + 1, h => by
    by_cases e : i = n
    · subst e
      have h1 : gwn cI (offo ob i) (i + 1) = gwn cI ob i := by
        rw [gwn, gwn_congr (ob := offo ob i) (ob' := ob) i (fun k hk => by rw [offo, if_neg (by omega)])]
        simp [offo, og]
      rw [h1, gwn]
      exact List.perm_append_comm
    · have h1 : offo ob i n = ob n := by rw [offo, if_neg (by omega)]
      rw [gwn, gwn, h1, ← List.append_assoc]
      exact (gwn_perm n (by omega)).append_right _
theorem offo_upo {ob : OB} {i : Nat} {b : GB} : offo (upo ob i b) i = offo ob i := by
  funext j; simp only [offo, upo]; split <;> rfl
theorem offo_none {ob : OB} {i : Nat} (h : ob i = none) : offo ob i = ob := by
  funext j; simp only [offo]; split
  · rename_i e; rw [e, h]
  · rfl
theorem gws_some {cI : ClassId} {ob : OB} {i : Nat} {b : GB} (hi : i < 8) (h : ob i = some b) : (gws cI ob).Perm (gcl cI b ++ gws cI (offo ob i)) := by
  have := gwn_perm (cI := cI) (ob := ob) (i := i) 8 hi
  rw [h] at this; exact this
theorem gws_upo {cI : ClassId} {ob : OB} {i : Nat} {b : GB} (hi : i < 8) : (gws cI (upo ob i b)).Perm (gcl cI b ++ gws cI (offo ob i)) := by
  have := gws_some (cI := cI) (ob := upo ob i b) (i := i) (b := b) hi (by rw [upo, if_pos rfl])
  rwa [offo_upo] at this
theorem P_perm {D : va_G} {cl : List vw_C} {ws ws' : va_W} {H : Heap} (p : ws.Perm ws') (h : va_P D cl ws H) : va_P D cl ws' H := fun k q hk => by
  obtain ⟨i, hi⟩ := List.getElem?_of_mem (p.symm.subset (List.mem_of_getElem? hk))
  exact h i q hi
theorem D_nd {A : Nat → Prop} {ws : va_W} (h : va_D A ws) : (ws.map Prod.fst).Nodup := by
  rw [List.Nodup, List.pairwise_iff_getElem]
  intro i j hi hj hij e
  rw [List.length_map] at hi hj
  rw [List.getElem_map, List.getElem_map] at e
  have := h.1 i j _ _ (List.getElem?_eq_getElem hi) (List.getElem?_eq_getElem hj) e
  omega
theorem D_of {A : Nat → Prop} {ws : va_W} (h : (ws.map Prod.fst).Nodup) (h2 : ∀ q ∈ ws, A q.1) : va_D A ws := by
  refine ⟨fun i j p q hp hq e => ?_, fun k q hk => h2 q (List.mem_of_getElem? hk)⟩
  rw [List.Nodup, List.pairwise_iff_getElem] at h
  obtain ⟨hi, ep⟩ := List.getElem?_eq_some_iff.mp hp
  obtain ⟨hj, eq⟩ := List.getElem?_eq_some_iff.mp hq
  rcases Nat.lt_trichotomy i j with hl | hl | hl
  · exact absurd (by rw [List.getElem_map, List.getElem_map, ep, eq]; exact e) (h i j (by rw [List.length_map]; exact hi) (by rw [List.length_map]; exact hj) hl)
  · exact hl
  · exact absurd (by rw [List.getElem_map, List.getElem_map, ep, eq]; exact e.symm) (h j i (by rw [List.length_map]; exact hj) (by rw [List.length_map]; exact hi) hl)
theorem D_perm {A : Nat → Prop} {ws ws' : va_W} (p : ws.Perm ws') (h : va_D A ws) : va_D A ws' :=
  D_of ((p.map Prod.fst).nodup_iff.mp (D_nd h)) (fun q hq => by
    obtain ⟨i, hi⟩ := List.getElem?_of_mem (p.symm.subset hq)
    exact h.2 i q hi)
/-- a game of the rest comes forward, and goes back -/
theorem open_perm {cI : ClassId} {ob : OB} {i : Nat} {b : GB} {X : va_W} (hi : i < 8) (h : ob i = some b) : (X ++ gws cI ob).Perm ((X ++ gcl cI b) ++ gws cI (offo ob i)) := by
  rw [List.append_assoc]; exact (gws_some hi h).append_left X
theorem close_perm {cI : ClassId} {ob : OB} {i : Nat} {b : GB} {X : va_W} (hi : i < 8) : ((X ++ gcl cI b) ++ gws cI (offo ob i)).Perm (X ++ gws cI (upo ob i b)) := by
  rw [List.append_assoc]; exact ((gws_upo hi).append_left X).symm
/-- the addresses in a row of references -/
def rfs (ob : OB) (o n : Nat) : Nat → Option Nat := fun k => if k < n then (ob (o + k)).map ad else none
theorem rfs_at {ob : OB} {o n k : Nat} (h : k < n) : rfs ob o n k = (ob (o + k)).map ad := by rw [rfs, if_pos h]
theorem rfs_up {ob : OB} {o n k : Nat} {b : GB} (h : k < n) : va_up (rfs ob o n) k (some (ad b)) = rfs (upo ob (o + k) b) o n := by
  funext j
  simp only [va_up, rfs, upo]
  by_cases e : j = k
  · rw [if_pos e, e, if_pos h, if_pos rfl]; rfl
  · rw [if_neg e]
    split
    · rw [if_neg (by omega)]
    · rfl
theorem rfs_same {ob : OB} {o n i : Nat} {b b' : GB} (h : ob i = some b) (hb : ad b' = ad b) : rfs (upo ob i b') o n = rfs ob o n := by
  funext j
  simp only [rfs, upo]
  split
  · split
    · rename_i e; rw [e, h]; exact congrArg some hb
    · rfl
  · rfl
theorem rfs_out {ob : OB} {o n i : Nat} {b : GB} (h : i < o ∨ o + n ≤ i) : rfs (upo ob i b) o n = rfs ob o n := by
  funext j
  simp only [rfs, upo]
  split
  · rw [if_neg (by omega)]
  · rfl
theorem rfs_none {o n : Nat} : rfs (fun _ => none) o n = fun _ => none := by
  funext j; simp only [rfs]; split <;> rfl
/-- two games are alike where they are read -/
def geq (c d : GC) : Prop := (∀ k, k < 12 → c.1 k = d.1 k) ∧ (∀ k, k < 12 → c.2.1 k = d.2.1 k) ∧ (∀ k, k < 4 → c.2.2.1 k = d.2.2.1 k) ∧ (∀ k, k < 4 → c.2.2.2.1 k = d.2.2.2.1 k) ∧ (∀ k, k < 3 → c.2.2.2.2.1 k = d.2.2.2.2.1 k) ∧ c.2.2.2.2.2 = d.2.2.2.2.2
theorem cpy_at {f g : IA} {n : Nat} : ∀ k, k < n → va_cpy f g 0 0 n k = f k := fun k hk => by
  rw [va_cpy, if_pos ⟨Nat.zero_le k, by omega⟩]; congr 1; omega
theorem geq_cpy {pr sb br fe se op os oR oe ose : IA} {r : Int32 × Int32 × Nat × Int32 × Int32 × Int32} : geq (va_cpy pr op 0 0 12, va_cpy sb os 0 0 12, va_cpy br oR 0 0 4, va_cpy fe oe 0 0 4, va_cpy se ose 0 0 3, r) (pr, sb, br, fe, se, r) := ⟨cpy_at, cpy_at, cpy_at, cpy_at, cpy_at, rfl⟩
theorem geq_rf (c : GC) : geq c c := ⟨fun _ _ => rfl, fun _ _ => rfl, fun _ _ => rfl, fun _ _ => rfl, fun _ _ => rfl, rfl⟩
theorem rc_min {n : Nat} (h : n ≤ 6) : (if (6 : Int32) < nI (n + 1) then 6 else nI (n + 1)) = nI (rcN n) := by
  have e : (6 : Int32) < nI (n + 1) ↔ 6 < n + 1 := nI_ltI (a := 6) (by decide) (by omega)
  rw [rcN]
  by_cases q : n = 6
  · rw [if_pos (e.mpr (by omega)), if_pos q]; rfl
  · rw [if_neg (fun z => by have := e.mp z; omega), if_neg q]
theorem upo_same {ob : OB} {i : Nat} {b : GB} (h : ob i = some b) : upo ob i b = ob := by
  funext j; simp only [upo]; split
  · rename_i e; rw [e, h]
  · rfl
/-- what taking back does: d, nx', sz' behind it -/
def tkP (ob : OB) (nx sz : Nat) (c d : GC) (nx' sz' : Nat) : Prop :=
  ((0 < sz ∧ (ob ((nx + 6 - 1) % 6)).isSome = true) → ∃ a e, ob ((nx + 6 - 1) % 6) = some (a, e) ∧ geq d e ∧ nx' = (nx + 6 - 1) % 6 ∧ sz' = sz - 1) ∧ (¬ (0 < sz ∧ (ob ((nx + 6 - 1) % 6)).isSome = true) → d = c ∧ nx' = nx ∧ sz' = sz)
theorem tkP_no {ob : OB} {nx sz : Nat} {c : GC} (h : ¬ (0 < sz ∧ (ob ((nx + 6 - 1) % 6)).isSome = true)) : tkP ob nx sz c c nx sz := ⟨fun q => absurd q h, fun _ => ⟨rfl, rfl, rfl⟩⟩
theorem tkP_yes {ob : OB} {nx sz : Nat} {c d e : GC} {a : GA} (h0 : ob ((nx + 6 - 1) % 6) = some (a, e)) (hg : geq d e) (hs : 0 < sz) : tkP ob nx sz c d ((nx + 6 - 1) % 6) (sz - 1) := ⟨fun _ => ⟨a, e, h0, hg, rfl, rfl⟩, fun q => absurd ⟨hs, by rw [h0]; rfl⟩ q⟩
