abbrev rm_X5_ringField : Room := { frames := 0, cells := 0, slots := 0, locals := 0 }
set_option maxHeartbeats 1000000 in
set_option maxRecDepth 100000 in
theorem c_X5_ringField (l : Launch) (pn : Nat) (v : Int32) (hp : pn < 4) : Met l yX5_ringField (.code yX5_ringField cX5_ringField 2 (some .int) :: wsL_law) rm_X5_ringField (va_Pc [.int (nI pn), .int v] (fun _ => True)) (vp_Si (fun r => r = rf pn v)) 0 0 (fun _ => False) := by
  refine met_p rfl (Nat.le_of_ble_eq_true rfl) ?_
  intro p e s m below meth c ls hx hb hr hml hown hts hlocks hl
  have hown : s.vm.findClass RX5 = some m.cls := hown
  have hl : lv_has ls 2 [(0, .int (nI pn)), (1, .int v)] := hl
  refine lv_iload_n hx hb dX5_ringField_0 rfl (lv_at hl 1 rfl) ?_
  refine lv_if_lt (tgt := 22) hx hb dX5_ringField_1 (by decide) (fun c_1 => ?_) (fun c_1 => ?_)
  · refine lv_bipush (v := (-6)) hx hb dX5_ringField_22 (by decide) ?_
    exact W.iret (v := (-6)) hx hb hr (fun t ht hW => ⟨(-6), rfl, by simp [rf, c_1], ht⟩) (fun _ h => absurd h List.not_mem_nil) dX5_ringField_24
  · refine lv_iload_n hx hb dX5_ringField_4 rfl (lv_at hl 1 rfl) ?_
    refine lv_bipush (v := 32) hx hb dX5_ringField_5 (by decide) ?_
    refine lv_icmp_ge (tgt := 22) hx hb dX5_ringField_7 (by decide) (fun c_2 => ?_) (fun c_2 => ?_)
    · refine lv_bipush (v := (-6)) hx hb dX5_ringField_22 (by decide) ?_
      exact W.iret (v := (-6)) hx hb hr (fun t ht hW => ⟨(-6), rfl, by simp [rf, c_1, c_2], ht⟩) (fun _ h => absurd h List.not_mem_nil) dX5_ringField_24
    · refine lv_bipush (v := 8) hx hb dX5_ringField_10 (by decide) ?_
      refine lv_iload_n hx hb dX5_ringField_12 rfl (lv_at hl 0 rfl) ?_
      refine zi_mul hx hb 8 pn dX5_ringField_13 rfl rfl ?_
      refine lv_iload_n hx hb dX5_ringField_14 rfl (lv_at hl 1 rfl) ?_
      refine lv_iadd hx hb dX5_ringField_15 ?_
      refine lv_bipush (v := 32) hx hb dX5_ringField_16 (by decide) ?_
      refine zi_jr hx hb dX5_ringField_18 (by decide) ?_
      refine lv_goto (tgt := 24) hx hb dX5_ringField_19 (by decide) ?_
      exact W.iret (v := jr ((nI (8 * pn)) + v) 32) hx hb hr (fun t ht hW => ⟨jr ((nI (8 * pn)) + v) 32, rfl, by simp [rf, c_1, c_2], ht⟩) (fun _ h => absurd h List.not_mem_nil) dX5_ringField_24

abbrev rm_X5_isSafe : Room := { frames := 0, cells := 0, slots := 0, locals := 0 }
set_option maxHeartbeats 1000000 in
set_option maxRecDepth 100000 in
theorem c_X5_isSafe (l : Launch) (f : Int32) : Met l yX5_isSafe (.code yX5_isSafe cX5_isSafe 1 (some .boolean) :: wsL_law) rm_X5_isSafe (va_Pc [.int f] (fun _ => True)) (vp_Si (fun r => r = bz (isf f = true))) 0 0 (fun _ => False) := by
  refine met_p rfl (Nat.le_of_ble_eq_true rfl) ?_
  intro p e s m below meth c ls hx hb hr hml hown hts hlocks hl
  have hown : s.vm.findClass RX5 = some m.cls := hown
  have hl : lv_has ls 1 [(0, .int f)] := hl
  refine lv_iload_n hx hb dX5_isSafe_0 rfl (lv_at hl 0 rfl) ?_
  refine lv_if_lt (tgt := 15) hx hb dX5_isSafe_1 (by decide) (fun c_3 => ?_) (fun c_3 => ?_)
  · refine lv_iconst (v := 0) hx hb dX5_isSafe_15 (by decide) ?_
    exact W.zret (v := 0) hx hb hr rfl (fun t ht hW => ⟨0, rfl, bz_f (by simp [isf, c_3]), ht⟩) (fun _ h => absurd h List.not_mem_nil) dX5_isSafe_16
  · refine lv_iload_n hx hb dX5_isSafe_4 rfl (lv_at hl 0 rfl) ?_
    refine lv_bipush (v := 8) hx hb dX5_isSafe_5 (by decide) ?_
    refine zi_jr hx hb dX5_isSafe_7 (by decide) ?_
    refine lv_if_ne (tgt := 15) hx hb dX5_isSafe_8 (by decide) (fun c_4 => ?_) (fun c_4 => ?_)
    · refine lv_iconst (v := 0) hx hb dX5_isSafe_15 (by decide) ?_
      exact W.zret (v := 0) hx hb hr rfl (fun t ht hW => ⟨0, rfl, bz_f (by simp [isf, c_3, c_4]), ht⟩) (fun _ h => absurd h List.not_mem_nil) dX5_isSafe_16
    · refine lv_iconst (v := 1) hx hb dX5_isSafe_11 (by decide) ?_
      refine lv_goto (tgt := 16) hx hb dX5_isSafe_12 (by decide) ?_
      exact W.zret (v := 1) hx hb hr rfl (fun t ht hW => ⟨1, rfl, bz_t (by simp [isf, c_3, c_4]), ht⟩) (fun _ h => absurd h List.not_mem_nil) dX5_isSafe_16

abbrev rm_X5_bridgeOn : Room := { frames := 0, cells := 0, slots := 0, locals := 0 }
set_option maxHeartbeats 1000000 in
set_option maxRecDepth 100000 in
theorem c_X5_bridgeOn (l : Launch) (f : Int32) : Met l yX5_bridgeOn (.code yX5_bridgeOn cX5_bridgeOn 1 (some .int) :: wsL_law) rm_X5_bridgeOn (va_Pc [.int f] (fun _ => True)) (vp_Si (fun r => r = bo f)) 0 0 (fun _ => False) := by
  refine met_p rfl (Nat.le_of_ble_eq_true rfl) ?_
  intro p e s m below meth c ls hx hb hr hml hown hts hlocks hl
  have hown : s.vm.findClass RX5 = some m.cls := hown
  have hl : lv_has ls 1 [(0, .int f)] := hl
  refine lv_iload_n hx hb dX5_bridgeOn_0 rfl (lv_at hl 0 rfl) ?_
  refine lv_if_lt (tgt := 25) hx hb dX5_bridgeOn_1 (by decide) (fun c_5 => ?_) (fun c_5 => ?_)
  · refine lv_bipush (v := (-6)) hx hb dX5_bridgeOn_25 (by decide) ?_
    exact W.iret (v := (-6)) hx hb hr (fun t ht hW => ⟨(-6), rfl, by simp [bo, c_5], ht⟩) (fun _ h => absurd h List.not_mem_nil) dX5_bridgeOn_27
  · refine lv_iload_n hx hb dX5_bridgeOn_4 rfl (lv_at hl 0 rfl) ?_
    refine lv_bipush (v := 32) hx hb dX5_bridgeOn_5 (by decide) ?_
    refine lv_icmp_ge (tgt := 25) hx hb dX5_bridgeOn_7 (by decide) (fun c_6 => ?_) (fun c_6 => ?_)
    · refine lv_bipush (v := (-6)) hx hb dX5_bridgeOn_25 (by decide) ?_
      exact W.iret (v := (-6)) hx hb hr (fun t ht hW => ⟨(-6), rfl, by simp [bo, c_5, c_6], ht⟩) (fun _ h => absurd h List.not_mem_nil) dX5_bridgeOn_27
    · refine lv_iload_n hx hb dX5_bridgeOn_10 rfl (lv_at hl 0 rfl) ?_
      refine lv_bipush (v := 8) hx hb dX5_bridgeOn_11 (by decide) ?_
      refine zi_jr hx hb dX5_bridgeOn_13 (by decide) ?_
      refine lv_iconst (v := 4) hx hb dX5_bridgeOn_14 (by decide) ?_
      refine lv_icmp_ne (tgt := 25) hx hb dX5_bridgeOn_15 (by decide) (fun c_7 => ?_) (fun c_7 => ?_)
      · refine lv_bipush (v := (-6)) hx hb dX5_bridgeOn_25 (by decide) ?_
        exact W.iret (v := (-6)) hx hb hr (fun t ht hW => ⟨(-6), rfl, by simp [bo, c_5, c_6, c_7], ht⟩) (fun _ h => absurd h List.not_mem_nil) dX5_bridgeOn_27
      · refine lv_iload_n hx hb dX5_bridgeOn_18 rfl (lv_at hl 0 rfl) ?_
        refine lv_bipush (v := 8) hx hb dX5_bridgeOn_19 (by decide) ?_
        refine lv_idiv hx hb dX5_bridgeOn_21 (by decide) ?_
        refine lv_goto (tgt := 27) hx hb dX5_bridgeOn_22 (by decide) ?_
        exact W.iret (v := f / 8) hx hb hr (fun t ht hW => ⟨f / 8, rfl, by simp [bo, c_5, c_6, c_7], ht⟩) (fun _ h => absurd h List.not_mem_nil) dX5_bridgeOn_27

abbrev rm_X5_isOnRing : Room := { frames := 0, cells := 0, slots := 0, locals := 0 }
set_option maxHeartbeats 1000000 in
set_option maxRecDepth 100000 in
theorem c_X5_isOnRing (l : Launch) (v : Int32) : Met l yX5_isOnRing (.code yX5_isOnRing cX5_isOnRing 1 (some .boolean) :: wsL_law) rm_X5_isOnRing (va_Pc [.int v] (fun _ => True)) (vp_Si (fun r => r = bz (onr v = true))) 0 0 (fun _ => False) := by
  refine met_p rfl (Nat.le_of_ble_eq_true rfl) ?_
  intro p e s m below meth c ls hx hb hr hml hown hts hlocks hl
  have hown : s.vm.findClass RX5 = some m.cls := hown
  have hl : lv_has ls 1 [(0, .int v)] := hl
  refine lv_iload_n hx hb dX5_isOnRing_0 rfl (lv_at hl 0 rfl) ?_
  refine lv_if_lt (tgt := 14) hx hb dX5_isOnRing_1 (by decide) (fun c_8 => ?_) (fun c_8 => ?_)
  · refine lv_iconst (v := 0) hx hb dX5_isOnRing_14 (by decide) ?_
    exact W.zret (v := 0) hx hb hr rfl (fun t ht hW => ⟨0, rfl, bz_f (by simp [onr, c_8]), ht⟩) (fun _ h => absurd h List.not_mem_nil) dX5_isOnRing_15
  · refine lv_iload_n hx hb dX5_isOnRing_4 rfl (lv_at hl 0 rfl) ?_
    refine lv_bipush (v := 32) hx hb dX5_isOnRing_5 (by decide) ?_
    refine lv_icmp_ge (tgt := 14) hx hb dX5_isOnRing_7 (by decide) (fun c_9 => ?_) (fun c_9 => ?_)
    · refine lv_iconst (v := 0) hx hb dX5_isOnRing_14 (by decide) ?_
      exact W.zret (v := 0) hx hb hr rfl (fun t ht hW => ⟨0, rfl, bz_f (by simp [onr, c_8, c_9]), ht⟩) (fun _ h => absurd h List.not_mem_nil) dX5_isOnRing_15
    · refine lv_iconst (v := 1) hx hb dX5_isOnRing_10 (by decide) ?_
      refine lv_goto (tgt := 15) hx hb dX5_isOnRing_11 (by decide) ?_
      exact W.zret (v := 1) hx hb hr rfl (fun t ht hW => ⟨1, rfl, bz_t (by simp [onr, c_8, c_9]), ht⟩) (fun _ h => absurd h List.not_mem_nil) dX5_isOnRing_15

abbrev rm_X5_isNoPiece : Room := { frames := 0, cells := 0, slots := 0, locals := 0 }
set_option maxHeartbeats 1000000 in
set_option maxRecDepth 100000 in
theorem c_X5_isNoPiece (l : Launch) (k : Int32) : Met l yX5_isNoPiece (.code yX5_isNoPiece cX5_isNoPiece 1 (some .boolean) :: wsL_law) rm_X5_isNoPiece (va_Pc [.int k] (fun _ => True)) (vp_Si (fun r => r = bz (k < 0 ∨ ¬ k < 12))) 0 0 (fun _ => False) := by
  refine met_p rfl (Nat.le_of_ble_eq_true rfl) ?_
  intro p e s m below meth c ls hx hb hr hml hown hts hlocks hl
  have hown : s.vm.findClass RX5 = some m.cls := hown
  have hl : lv_has ls 1 [(0, .int k)] := hl
  refine lv_iload_n hx hb dX5_isNoPiece_0 rfl (lv_at hl 0 rfl) ?_
  refine lv_if_lt (tgt := 10) hx hb dX5_isNoPiece_1 (by decide) (fun c_10 => ?_) (fun c_10 => ?_)
  · refine lv_iconst (v := 1) hx hb dX5_isNoPiece_10 (by decide) ?_
    refine lv_goto (tgt := 15) hx hb dX5_isNoPiece_11 (by decide) ?_
    exact W.zret (v := 1) hx hb hr rfl (fun t ht hW => ⟨1, rfl, bz_t (by simp [true_or, c_10]), ht⟩) (fun _ h => absurd h List.not_mem_nil) dX5_isNoPiece_15
  · refine lv_iload_n hx hb dX5_isNoPiece_4 rfl (lv_at hl 0 rfl) ?_
    refine lv_bipush (v := 12) hx hb dX5_isNoPiece_5 (by decide) ?_
    refine lv_icmp_lt (tgt := 14) hx hb dX5_isNoPiece_7 (by decide) (fun c_11 => ?_) (fun c_11 => ?_)
    · refine lv_iconst (v := 0) hx hb dX5_isNoPiece_14 (by decide) ?_
      exact W.zret (v := 0) hx hb hr rfl (fun t ht hW => ⟨0, rfl, bz_f (by simp [true_or, c_10, c_11]), ht⟩) (fun _ h => absurd h List.not_mem_nil) dX5_isNoPiece_15
    · refine lv_iconst (v := 1) hx hb dX5_isNoPiece_10 (by decide) ?_
      refine lv_goto (tgt := 15) hx hb dX5_isNoPiece_11 (by decide) ?_
      exact W.zret (v := 1) hx hb hr rfl (fun t ht hW => ⟨1, rfl, bz_t (by simp [true_or, c_10, c_11]), ht⟩) (fun _ h => absurd h List.not_mem_nil) dX5_isNoPiece_15

abbrev rm_X5_nextX : Room := { frames := 0, cells := 0, slots := 0, locals := 0 }
set_option maxHeartbeats 1000000 in
set_option maxRecDepth 100000 in
theorem c_X5_nextX (l : Launch) (x : Int32) : Met l yX5_nextX (.code yX5_nextX cX5_nextX 1 (some .int) :: wsL_law) rm_X5_nextX (va_Pc [.int x] (fun _ => True)) (vp_Si (fun r => r = nx x)) 0 0 (fun _ => False) := by
  refine met_p rfl (Nat.le_of_ble_eq_true rfl) ?_
  intro p e s m below meth c ls hx hb hr hml hown hts hlocks hl
  have hown : s.vm.findClass RX5 = some m.cls := hown
  have hl : lv_has ls 1 [(0, .int x)] := hl
  refine lv_iload_n hx hb dX5_nextX_0 rfl (lv_at hl 0 rfl) ?_
  refine lv_i2l hx hb dX5_nextX_1 rfl ?_
  refine lv_ldc2 hx hb hown (hts _ wd240) dX5_nextX_2 ?_
  refine lv_lmul hx hb dX5_nextX_5 ?_
  refine lv_ldc2 hx hb hown (hts _ wd241) dX5_nextX_6 ?_
  refine lv_ladd hx hb dX5_nextX_9 ?_
  refine lv_ldc2 hx hb hown (hts _ wd242) dX5_nextX_10 ?_
  refine lv_lrem hx hb dX5_nextX_13 (by decide) ?_
  refine lv_l2i hx hb dX5_nextX_14 rfl ?_
  exact W.iret (v := (((x.toInt64 * 1103515245) + 12345) - ((x.toInt64 * 1103515245) + 12345) / 2147483648 * 2147483648).toInt32) hx hb hr (fun t ht hW => ⟨(((x.toInt64 * 1103515245) + 12345) - ((x.toInt64 * 1103515245) + 12345) / 2147483648 * 2147483648).toInt32, rfl, rfl, ht⟩) (fun _ h => absurd h List.not_mem_nil) dX5_nextX_15

abbrev rm_X5_castOf : Room := { frames := 0, cells := 0, slots := 0, locals := 0 }
set_option maxHeartbeats 1000000 in
set_option maxRecDepth 100000 in
theorem c_X5_castOf (l : Launch) (x : Int32) : Met l yX5_castOf (.code yX5_castOf cX5_castOf 1 (some .int) :: wsL_law) rm_X5_castOf (va_Pc [.int x] (fun _ => True)) (vp_Si (fun r => r = co x)) 0 0 (fun _ => False) := by
  refine met_p rfl (Nat.le_of_ble_eq_true rfl) ?_
  intro p e s m below meth c ls hx hb hr hml hown hts hlocks hl
  have hown : s.vm.findClass RX5 = some m.cls := hown
  have hl : lv_has ls 1 [(0, .int x)] := hl
  refine lv_iconst (v := 1) hx hb dX5_castOf_0 (by decide) ?_
  refine lv_iload_n hx hb dX5_castOf_1 rfl (lv_at hl 0 rfl) ?_
  refine lv_ldc hx hb hown (hts _ wd246) dX5_castOf_2 ?_
  refine lv_idiv hx hb dX5_castOf_4 (by decide) ?_
  refine lv_bipush (v := 6) hx hb dX5_castOf_5 (by decide) ?_
  refine zi_jr hx hb dX5_castOf_7 (by decide) ?_
  refine lv_iadd hx hb dX5_castOf_8 ?_
  exact W.iret (v := 1 + (jr (x / 65536) 6)) hx hb hr (fun t ht hW => ⟨1 + (jr (x / 65536) 6), rfl, rfl, ht⟩) (fun _ h => absurd h List.not_mem_nil) dX5_castOf_9

abbrev rm_X0_fieldOf : Room := { frames := 1, cells := 0, slots := 0, locals := 21 }
theorem cf_RX0_34 {R : Room} {s : State} {args : Array Value} (ht : ∀ w ∈ wsL_law, w.before args s = true) (hN : ∀ w ∈ nestW, va_Nw w s) (hR : rm_X5_ringField.frames + 1 ≤ R.frames ∧ 8 + (2 + 11) + rm_X5_ringField.locals ≤ R.locals) : va_CN R s args RX0 34 yX5_ringField "BridgedPachisi" cX5_ringField 2 (some .int) (.code yX5_ringField cX5_ringField 2 (some .int) :: wsL_law) rm_X5_ringField 0 0 2 ∧ (Cond.static yX5_ringField).before args s = true ∧ True := ⟨cw_N 2 ht hN nw22 wd2 wd88 (by decide +kernel) rfl rfl hR, ht _ wd87, trivial⟩
set_option maxHeartbeats 1000000 in
set_option maxRecDepth 100000 in
theorem c_X0_fieldOf (l : Launch) (G : va_G) (cI cC cZ cG : ClassId) (sz : Nat) (qb qp qs qr qf : Nat) (pr sb br fe : IA) (fl : Int32) (k : Nat) (hk : k < 12) : Met l yX0_fieldOf (.code yX0_fieldOf cX0_fieldOf 2 (some .int) :: wsL_law) rm_X0_fieldOf (va_Pc [.ref qb, .int (nI k)] (bw G cI cC cZ cG false sz [(qb, .inr (0, [.ref qp, .ref qs, .ref qr, .ref qf, .int fl])), (qp, .inl (cI, 12, .inl pr)), (qs, .inl (cI, 12, .inl sb)), (qr, .inl (cI, 4, .inl br)), (qf, .inl (cI, 4, .inl fe))])) (vp_Si (fun r => r = rf (k / 3) (pr k))) 0 0 (fun _ => False) := by
  refine met_bw rfl (Nat.le_of_ble_eq_true rfl) ?_
  intro p e s m below meth c ls hx hb hr hml hown hts hlocks hin hsz hP hK hD0 hX0 hl
  have hown : s.vm.findClass RX0 = some m.cls := hown
  have hl : lv_has ls 2 [(0, .ref qb), (1, .int (nI k))] := hl
  refine lv_iload_n hx hb dX0_fieldOf_0 rfl (lv_at hl 1 rfl) ?_
  refine lv_iconst (v := 3) hx hb dX0_fieldOf_1 (by decide) ?_
  refine zi_div hx hb k 3 dX0_fieldOf_2 rfl rfl (by omega) (by decide) (by decide) ?_
  refine lv_aload_n hx hb dX0_fieldOf_3 rfl (lv_at hl 0 rfl) ?_
  refine va_get (D := G) (ci := 0) (v := .ref qp) (C := RX0) (T := TX0) (N := 5) hx hb hts inlX0 hown hK.1 hP 0 rfl rfl 0 (by decide) (hts _ wd48) (fun _ h9 => h9) rfl dX0_fieldOf_4 ?_
  refine lv_iload_n hx hb dX0_fieldOf_7 rfl (lv_at hl 1 rfl) ?_
  refine za_ld hx hb hK.1 hP 1 0 rfl rfl k rfl (by omega) (by decide) dX0_fieldOf_8 ?_
  refine vp_callSi (va_Run.run (va_runSN (As := [.int (nI (k / 3)), .int (pr k)]) (rest := []) ⟨hx, hb, hml, hown, hts⟩ (c_X5_ringField l (k / 3) (pr k) (by omega)) (cf_RX0_34 hts hK.2 ⟨Nat.le_of_ble_eq_true rfl, Nat.le_of_ble_eq_true rfl⟩) pre_P rfl rfl hl.1 rfl (lv_room (Nat.le_of_ble_eq_true rfl)) dX0_fieldOf_9 ⟨Nat.le_of_ble_eq_true rfl, Nat.le_of_ble_eq_true rfl⟩)) (fun r12 hr12 => ?_)
  subst hr12
  exact W.iret (v := rf (k / 3) (pr k)) hx hb hr (fun t ht hW => ⟨rf (k / 3) (pr k), rfl, rfl, ht⟩) (fun _ h => absurd h List.not_mem_nil) dX0_fieldOf_12

abbrev rm_X0_piecesOn : Room := { frames := 1, cells := 0, slots := 0, locals := 21 }
set_option maxHeartbeats 1000000 in
set_option maxRecDepth 100000 in
theorem c_X0_piecesOn (l : Launch) (G : va_G) (cI cC cZ cG : ClassId) (sz : Nat) (qb qp qs qr qf : Nat) (pr sb br fe : IA) (fl : Int32) (g : Int32) : Met l yX0_piecesOn (.code yX0_piecesOn cX0_piecesOn 4 (some .int) :: wsL_law) rm_X0_piecesOn (va_Pc [.ref qb, .int g] (bw G cI cC cZ cG false sz [(qb, .inr (0, [.ref qp, .ref qs, .ref qr, .ref qf, .int fl])), (qp, .inl (cI, 12, .inl pr)), (qs, .inl (cI, 12, .inl sb)), (qr, .inl (cI, 4, .inl br)), (qf, .inl (cI, 4, .inl fe))])) (vp_Si (fun r => r = nI (cnt (pcP pr g) 12))) 0 0 (fun _ => False) := by
  refine met_bw rfl (Nat.le_of_ble_eq_true rfl) ?_
  intro p e s m below meth c ls hx hb hr hml hown hts hlocks hin hsz hP hK hD0 hX0 hl
  have hown : s.vm.findClass RX0 = some m.cls := hown
  have hl : lv_has ls 4 [(0, .ref qb), (1, .int g)] := hl
  generalize hQ : MQ below (vp_Si (fun r => r = nI (cnt (pcP pr g) 12))) ([.ref qb, .int g] : List Value).toArray s 0 0 (fun _ => False) = Q
  generalize hag : ([.ref qb, .int g] : List Value).toArray = ag at hts hQ ⊢
  refine lv_iconst (v := 0) hx hb dX0_piecesOn_0 (by decide) ?_
  refine lv_istore_n (lv' := [(2, .int 0), (0, .ref qb), (1, .int g)]) hx hb dX0_piecesOn_1 rfl hl (by decide) rfl (fun ls hl => ?_)
  refine lv_iconst (v := 0) hx hb dX0_piecesOn_2 (by decide) ?_
  refine lv_istore_n (lv' := [(3, .int 0), (2, .int 0), (0, .ref qb), (1, .int g)]) hx hb dX0_piecesOn_3 rfl hl (by decide) rfl (fun ls hl => ?_)
  have L1 : ∀ (n : Nat), ∀ (i : Nat), ∀ (f : Nat), ∀ (hi : i ≤ 12), ∀ (hf : f = cnt (pcP pr g) i), ∀ (hn : 13 ≤ i + n), ∀ (ls : Array Slot), lv_has ls 4 [(3, .int (nI i)), (2, .int (nI f)), (0, .ref qb), (1, .int g)] → W p l e rm_X0_piecesOn s m ag below meth c s.heap [] 0 0 Q (F0 m 4 ls []) := by
    intro n
    induction n with
    | zero =>
      intro i f hi hf hn ls hl
      omega
    | succ n ih1 =>
      intro i f hi hf hn ls hl
      refine lv_iload_n hx hb dX0_piecesOn_4 rfl (lv_at hl 0 rfl) ?_
      refine lv_bipush (v := 12) hx hb dX0_piecesOn_5 (by decide) ?_
      refine zi_ge (tgt := 35) hx hb i 12 dX0_piecesOn_7 (by decide) rfl rfl (by omega) (by decide) (fun c_14 => ?_) (fun c_14 => ?_)
      · refine lv_iload_n hx hb dX0_piecesOn_35 rfl (lv_at hl 1 rfl) ?_
        subst hQ
        exact W.iret (v := nI f) hx hb hr (fun t ht hW => ⟨nI f, rfl, by rw [hf, show i = 12 by omega], ht⟩) (fun _ h => absurd h List.not_mem_nil) dX0_piecesOn_36
      · refine lv_iload_n hx hb dX0_piecesOn_10 rfl (lv_at hl 0 rfl) ?_
        refine lv_iconst (v := 3) hx hb dX0_piecesOn_11 (by decide) ?_
        refine zi_div hx hb i 3 dX0_piecesOn_12 rfl rfl (by omega) (by decide) (by decide) ?_
        refine lv_aload_n hx hb dX0_piecesOn_13 rfl (lv_at hl 2 rfl) ?_
        refine va_get (D := G) (ci := 0) (v := .ref qp) (C := RX0) (T := TX0) (N := 5) hx hb hts inlX0 hown hK.1 hP 0 rfl rfl 0 (by decide) (hts _ wd48) (fun _ h9 => h9) rfl dX0_piecesOn_14 ?_
        refine lv_iload_n hx hb dX0_piecesOn_17 rfl (lv_at hl 0 rfl) ?_
        refine za_ld hx hb hK.1 hP 1 0 rfl rfl i rfl (by omega) (by decide) dX0_piecesOn_18 ?_
        refine vp_callSi (va_Run.run (va_runSN (As := [.int (nI (i / 3)), .int (pr i)]) (rest := []) ⟨hx, hb, hml, hown, hts⟩ (c_X5_ringField l (i / 3) (pr i) (by omega)) (cf_RX0_34 hts hK.2 ⟨Nat.le_of_ble_eq_true rfl, Nat.le_of_ble_eq_true rfl⟩) pre_P rfl rfl hl.1 rfl (lv_room (Nat.le_of_ble_eq_true rfl)) dX0_piecesOn_19 ⟨Nat.le_of_ble_eq_true rfl, Nat.le_of_ble_eq_true rfl⟩)) (fun r15 hr15 => ?_)
        subst hr15
        refine lv_iload_n hx hb dX0_piecesOn_22 rfl (lv_at hl 3 rfl) ?_
        refine lv_icmp_ne (tgt := 29) hx hb dX0_piecesOn_23 (by decide) (fun c_16 => ?_) (fun c_16 => ?_)
        · refine lv_iinc (v := nI (i + 1)) (lv' := [(3, .int (nI (i + 1))), (2, .int (nI f)), (0, .ref qb), (1, .int g)]) hx hb dX0_piecesOn_29 hl (k := 0) rfl (nI_inc i) (by decide) rfl (fun ls hl => ?_)
          refine lv_goto (tgt := 4) hx hb dX0_piecesOn_32 (by decide) ?_
          exact ih1 (i + 1) f (by omega) (by rw [cnt_f (by simp [pcP, c_16]), hf]) (by omega) _ (lv_sub hl [0, 1, 2, 3] rfl)
        · refine lv_iinc (v := nI (f + 1)) (lv' := [(2, .int (nI (f + 1))), (3, .int (nI i)), (0, .ref qb), (1, .int g)]) hx hb dX0_piecesOn_26 hl (k := 1) rfl (nI_inc f) (by decide) rfl (fun ls hl => ?_)
          refine lv_iinc (v := nI (i + 1)) (lv' := [(3, .int (nI (i + 1))), (2, .int (nI (f + 1))), (0, .ref qb), (1, .int g)]) hx hb dX0_piecesOn_29 hl (k := 1) rfl (nI_inc i) (by decide) rfl (fun ls hl => ?_)
          refine lv_goto (tgt := 4) hx hb dX0_piecesOn_32 (by decide) ?_
          exact ih1 (i + 1) (f + 1) (by omega) (by rw [cnt_t (by simp [pcP, c_16]), hf]) (by omega) _ (lv_sub hl [0, 1, 2, 3] rfl)
  exact L1 13 0 0 (by decide) rfl (by decide) _ (lv_sub hl [0, 1, 2, 3] rfl)

abbrev rm_X0_lowestOn : Room := { frames := 1, cells := 0, slots := 0, locals := 21 }
set_option maxHeartbeats 1000000 in
set_option maxRecDepth 100000 in
theorem c_X0_lowestOn (l : Launch) (G : va_G) (cI cC cZ cG : ClassId) (sz : Nat) (qb qp qs qr qf : Nat) (pr sb br fe : IA) (fl : Int32) (g : Int32) : Met l yX0_lowestOn (.code yX0_lowestOn cX0_lowestOn 3 (some .int) :: wsL_law) rm_X0_lowestOn (va_Pc [.ref qb, .int g] (bw G cI cC cZ cG false sz [(qb, .inr (0, [.ref qp, .ref qs, .ref qr, .ref qf, .int fl])), (qp, .inl (cI, 12, .inl pr)), (qs, .inl (cI, 12, .inl sb)), (qr, .inl (cI, 4, .inl br)), (qf, .inl (cI, 4, .inl fe))])) (vp_Si (fun r => r = low (pcP pr g) 0 12)) 0 0 (fun _ => False) := by
  refine met_bw rfl (Nat.le_of_ble_eq_true rfl) ?_
  intro p e s m below meth c ls hx hb hr hml hown hts hlocks hin hsz hP hK hD0 hX0 hl
  have hown : s.vm.findClass RX0 = some m.cls := hown
  have hl : lv_has ls 3 [(0, .ref qb), (1, .int g)] := hl
  generalize hQ : MQ below (vp_Si (fun r => r = low (pcP pr g) 0 12)) ([.ref qb, .int g] : List Value).toArray s 0 0 (fun _ => False) = Q
  generalize hag : ([.ref qb, .int g] : List Value).toArray = ag at hts hQ ⊢
  refine lv_iconst (v := 0) hx hb dX0_lowestOn_0 (by decide) ?_
  refine lv_istore_n (lv' := [(2, .int 0), (0, .ref qb), (1, .int g)]) hx hb dX0_lowestOn_1 rfl hl (by decide) rfl (fun ls hl => ?_)
  have L1 : ∀ (n : Nat), ∀ (i : Nat), ∀ (hi : i ≤ 12), ∀ (hf : low (pcP pr g) 0 12 = low (pcP pr g) i (12 - i)), ∀ (hn : 13 ≤ i + n), ∀ (ls : Array Slot), lv_has ls 3 [(2, .int (nI i)), (0, .ref qb), (1, .int g)] → W p l e rm_X0_lowestOn s m ag below meth c s.heap [] 0 0 Q (F0 m 2 ls []) := by
    intro n
    induction n with
    | zero =>
      intro i hi hf hn ls hl
      omega
    | succ n ih1 =>
      intro i hi hf hn ls hl
      have he : i < 12 → 12 - i = (12 - (i + 1)) + 1 := fun h => by omega
      refine lv_iload_n hx hb dX0_lowestOn_2 rfl (lv_at hl 0 rfl) ?_
      refine lv_bipush (v := 12) hx hb dX0_lowestOn_3 (by decide) ?_
      refine zi_ge (tgt := 32) hx hb i 12 dX0_lowestOn_5 (by decide) rfl rfl (by omega) (by decide) (fun c_18 => ?_) (fun c_18 => ?_)
      · refine lv_bipush (v := (-6)) hx hb dX0_lowestOn_32 (by decide) ?_
        subst hQ
        exact W.iret (v := (-6)) hx hb hr (fun t ht hW => ⟨(-6), rfl, by rw [hf, show 12 - i = 0 by omega]; rfl, ht⟩) (fun _ h => absurd h List.not_mem_nil) dX0_lowestOn_34
      · refine lv_iload_n hx hb dX0_lowestOn_8 rfl (lv_at hl 0 rfl) ?_
        refine lv_iconst (v := 3) hx hb dX0_lowestOn_9 (by decide) ?_
        refine zi_div hx hb i 3 dX0_lowestOn_10 rfl rfl (by omega) (by decide) (by decide) ?_
        refine lv_aload_n hx hb dX0_lowestOn_11 rfl (lv_at hl 1 rfl) ?_
        refine va_get (D := G) (ci := 0) (v := .ref qp) (C := RX0) (T := TX0) (N := 5) hx hb hts inlX0 hown hK.1 hP 0 rfl rfl 0 (by decide) (hts _ wd48) (fun _ h9 => h9) rfl dX0_lowestOn_12 ?_
        refine lv_iload_n hx hb dX0_lowestOn_15 rfl (lv_at hl 0 rfl) ?_
        refine za_ld hx hb hK.1 hP 1 0 rfl rfl i rfl (by omega) (by decide) dX0_lowestOn_16 ?_
        refine vp_callSi (va_Run.run (va_runSN (As := [.int (nI (i / 3)), .int (pr i)]) (rest := []) ⟨hx, hb, hml, hown, hts⟩ (c_X5_ringField l (i / 3) (pr i) (by omega)) (cf_RX0_34 hts hK.2 ⟨Nat.le_of_ble_eq_true rfl, Nat.le_of_ble_eq_true rfl⟩) pre_P rfl rfl hl.1 rfl (lv_room (Nat.le_of_ble_eq_true rfl)) dX0_lowestOn_17 ⟨Nat.le_of_ble_eq_true rfl, Nat.le_of_ble_eq_true rfl⟩)) (fun r19 hr19 => ?_)
        subst hr19
        refine lv_iload_n hx hb dX0_lowestOn_20 rfl (lv_at hl 2 rfl) ?_
        refine lv_icmp_ne (tgt := 26) hx hb dX0_lowestOn_21 (by decide) (fun c_20 => ?_) (fun c_20 => ?_)
        · refine lv_iinc (v := nI (i + 1)) (lv' := [(2, .int (nI (i + 1))), (0, .ref qb), (1, .int g)]) hx hb dX0_lowestOn_26 hl (k := 0) rfl (nI_inc i) (by decide) rfl (fun ls hl => ?_)
          refine lv_goto (tgt := 2) hx hb dX0_lowestOn_29 (by decide) ?_
          exact ih1 (i + 1) (by omega) (by rw [hf, he c_18]; simp [low, pcP, c_20]) (by omega) _ (lv_sub hl [0, 1, 2] rfl)
        · refine lv_iload_n hx hb dX0_lowestOn_24 rfl (lv_at hl 0 rfl) ?_
          subst hQ
          exact W.iret (v := nI i) hx hb hr (fun t ht hW => ⟨nI i, rfl, by rw [hf, he c_18]; simp [low, pcP, c_20], ht⟩) (fun _ h => absurd h List.not_mem_nil) dX0_lowestOn_25
  exact L1 13 0 (by decide) rfl (by decide) _ (lv_sub hl [0, 1, 2] rfl)

abbrev rm_X0_rivalsAt : Room := { frames := 1, cells := 0, slots := 0, locals := 21 }
set_option maxHeartbeats 1000000 in
set_option maxRecDepth 100000 in
theorem c_X0_rivalsAt (l : Launch) (G : va_G) (cI cC cZ cG : ClassId) (sz : Nat) (qb qp qs qr qf : Nat) (pr sb br fe : IA) (fl : Int32) (pn : Nat) (v : Int32) (hp : pn < 4) : Met l yX0_rivalsAt (.code yX0_rivalsAt cX0_rivalsAt 6 (some .int) :: wsL_law) rm_X0_rivalsAt (va_Pc [.ref qb, .int (nI pn), .int v] (bw G cI cC cZ cG false sz [(qb, .inr (0, [.ref qp, .ref qs, .ref qr, .ref qf, .int fl])), (qp, .inl (cI, 12, .inl pr)), (qs, .inl (cI, 12, .inl sb)), (qr, .inl (cI, 4, .inl br)), (qf, .inl (cI, 4, .inl fe))])) (vp_Si (fun r => r = nI (rv pr pn v))) 0 0 (fun _ => False) := by
  refine met_bw rfl (Nat.le_of_ble_eq_true rfl) ?_
  intro p e s m below meth c ls hx hb hr hml hown hts hlocks hin hsz hP hK hD0 hX0 hl
  have hown : s.vm.findClass RX0 = some m.cls := hown
  have hl : lv_has ls 6 [(0, .ref qb), (1, .int (nI pn)), (2, .int v)] := hl
  generalize hQ : MQ below (vp_Si (fun r => r = nI (rv pr pn v))) ([.ref qb, .int (nI pn), .int v] : List Value).toArray s 0 0 (fun _ => False) = Q
  generalize hag : ([.ref qb, .int (nI pn), .int v] : List Value).toArray = ag at hts hQ ⊢
  refine lv_iload_n hx hb dX0_rivalsAt_0 rfl (lv_at hl 1 rfl) ?_
  refine lv_iload_n hx hb dX0_rivalsAt_1 rfl (lv_at hl 2 rfl) ?_
  refine vp_callSi (va_Run.run (va_runSN (As := [.int (nI pn), .int v]) (rest := []) ⟨hx, hb, hml, hown, hts⟩ (c_X5_ringField l pn v (by omega)) (cf_RX0_34 hts hK.2 ⟨Nat.le_of_ble_eq_true rfl, Nat.le_of_ble_eq_true rfl⟩) pre_P rfl rfl hl.1 rfl (lv_room (Nat.le_of_ble_eq_true rfl)) dX0_rivalsAt_2 ⟨Nat.le_of_ble_eq_true rfl, Nat.le_of_ble_eq_true rfl⟩)) (fun r21 hr21 => ?_)
  subst hr21
  refine lv_istore_n (lv' := [(3, .int (rf pn v)), (0, .ref qb), (1, .int (nI pn)), (2, .int v)]) hx hb dX0_rivalsAt_5 rfl hl (by decide) rfl (fun ls hl => ?_)
  refine lv_iconst (v := 0) hx hb dX0_rivalsAt_6 (by decide) ?_
  refine lv_istore (lv' := [(4, .int 0), (3, .int (rf pn v)), (0, .ref qb), (1, .int (nI pn)), (2, .int v)]) hx hb dX0_rivalsAt_7 hl (by decide) rfl (fun ls hl => ?_)
  refine lv_iconst (v := 0) hx hb dX0_rivalsAt_9 (by decide) ?_
  refine lv_istore (lv' := [(5, .int 0), (4, .int 0), (3, .int (rf pn v)), (0, .ref qb), (1, .int (nI pn)), (2, .int v)]) hx hb dX0_rivalsAt_10 hl (by decide) rfl (fun ls hl => ?_)
  have L1 : ∀ (n : Nat), ∀ (i : Nat), ∀ (f : Nat), ∀ (hi : i ≤ 12), ∀ (hf : f = cnt (rvP pr pn (rf pn v)) i), ∀ (hn : 13 ≤ i + n), ∀ (ls : Array Slot), lv_has ls 6 [(5, .int (nI i)), (4, .int (nI f)), (3, .int (rf pn v)), (0, .ref qb), (1, .int (nI pn)), (2, .int v)] → W p l e rm_X0_rivalsAt s m ag below meth c s.heap [] 0 0 Q (F0 m 12 ls []) := by
    intro n
    induction n with
    | zero =>
      intro i f hi hf hn ls hl
      omega
    | succ n ih1 =>
      intro i f hi hf hn ls hl
      refine lv_iload hx hb dX0_rivalsAt_12 (lv_at hl 0 rfl) ?_
      refine lv_bipush (v := 12) hx hb dX0_rivalsAt_14 (by decide) ?_
      refine zi_ge (tgt := 60) hx hb i 12 dX0_rivalsAt_16 (by decide) rfl rfl (by omega) (by decide) (fun c_23 => ?_) (fun c_23 => ?_)
      · refine lv_iload hx hb dX0_rivalsAt_60 (lv_at hl 1 rfl) ?_
        subst hQ
        exact W.iret (v := nI f) hx hb hr (fun t ht hW => ⟨nI f, rfl, by rw [hf, show i = 12 by omega]; rfl, ht⟩) (fun _ h => absurd h List.not_mem_nil) dX0_rivalsAt_62
      · refine lv_iload_n hx hb dX0_rivalsAt_19 rfl (lv_at hl 2 rfl) ?_
        refine lv_bipush (v := (-6)) hx hb dX0_rivalsAt_20 (by decide) ?_
        refine lv_icmp_eq (tgt := 60) hx hb dX0_rivalsAt_22 (by decide) (fun c_24 => ?_) (fun c_24 => ?_)
        · refine lv_iload hx hb dX0_rivalsAt_60 (lv_at hl 1 rfl) ?_
          subst hQ
          exact W.iret (v := nI f) hx hb hr (fun t ht hW => ⟨nI f, rfl, by rw [hf, rv, cnt_none (fun k => by simp [rvP, c_24]), cnt_none (fun k => by simp [rvP, c_24])], ht⟩) (fun _ h => absurd h List.not_mem_nil) dX0_rivalsAt_62
        · refine lv_iload hx hb dX0_rivalsAt_25 (lv_at hl 0 rfl) ?_
          refine lv_iconst (v := 3) hx hb dX0_rivalsAt_27 (by decide) ?_
          refine zi_div hx hb i 3 dX0_rivalsAt_28 rfl rfl (by omega) (by decide) (by decide) ?_
          refine lv_iload_n hx hb dX0_rivalsAt_29 rfl (lv_at hl 4 rfl) ?_
          refine zi_eq (tgt := 54) hx hb (i / 3) pn dX0_rivalsAt_30 (by decide) rfl rfl (by omega) (by omega) (fun c_25 => ?_) (fun c_25 => ?_)
          · refine lv_iinc (v := nI (i + 1)) (lv' := [(5, .int (nI (i + 1))), (4, .int (nI f)), (3, .int (rf pn v)), (0, .ref qb), (1, .int (nI pn)), (2, .int v)]) hx hb dX0_rivalsAt_54 hl (k := 0) rfl (nI_inc i) (by decide) rfl (fun ls hl => ?_)
            refine lv_goto (tgt := 12) hx hb dX0_rivalsAt_57 (by decide) ?_
            exact ih1 (i + 1) f (by omega) (by rw [cnt_f (by simp [rvP, c_23, c_24, c_25]), hf]) (by omega) _ (lv_sub hl [0, 1, 2, 3, 4, 5] rfl)
          · refine lv_iload hx hb dX0_rivalsAt_33 (lv_at hl 0 rfl) ?_
            refine lv_iconst (v := 3) hx hb dX0_rivalsAt_35 (by decide) ?_
            refine zi_div hx hb i 3 dX0_rivalsAt_36 rfl rfl (by omega) (by decide) (by decide) ?_
            refine lv_aload_n hx hb dX0_rivalsAt_37 rfl (lv_at hl 3 rfl) ?_
            refine va_get (D := G) (ci := 0) (v := .ref qp) (C := RX0) (T := TX0) (N := 5) hx hb hts inlX0 hown hK.1 hP 0 rfl rfl 0 (by decide) (hts _ wd48) (fun _ h9 => h9) rfl dX0_rivalsAt_38 ?_
            refine lv_iload hx hb dX0_rivalsAt_41 (lv_at hl 0 rfl) ?_
            refine za_ld hx hb hK.1 hP 1 0 rfl rfl i rfl (by omega) (by decide) dX0_rivalsAt_43 ?_
            refine vp_callSi (va_Run.run (va_runSN (As := [.int (nI (i / 3)), .int (pr i)]) (rest := []) ⟨hx, hb, hml, hown, hts⟩ (c_X5_ringField l (i / 3) (pr i) (by omega)) (cf_RX0_34 hts hK.2 ⟨Nat.le_of_ble_eq_true rfl, Nat.le_of_ble_eq_true rfl⟩) pre_P rfl rfl hl.1 rfl (lv_room (Nat.le_of_ble_eq_true rfl)) dX0_rivalsAt_44 ⟨Nat.le_of_ble_eq_true rfl, Nat.le_of_ble_eq_true rfl⟩)) (fun r26 hr26 => ?_)
            subst hr26
            refine lv_iload_n hx hb dX0_rivalsAt_47 rfl (lv_at hl 2 rfl) ?_
            refine lv_icmp_ne (tgt := 54) hx hb dX0_rivalsAt_48 (by decide) (fun c_27 => ?_) (fun c_27 => ?_)
            · refine lv_iinc (v := nI (i + 1)) (lv' := [(5, .int (nI (i + 1))), (4, .int (nI f)), (3, .int (rf pn v)), (0, .ref qb), (1, .int (nI pn)), (2, .int v)]) hx hb dX0_rivalsAt_54 hl (k := 0) rfl (nI_inc i) (by decide) rfl (fun ls hl => ?_)
              refine lv_goto (tgt := 12) hx hb dX0_rivalsAt_57 (by decide) ?_
              exact ih1 (i + 1) f (by omega) (by rw [cnt_f (by simp [rvP, c_23, c_24, c_25, c_27]), hf]) (by omega) _ (lv_sub hl [0, 1, 2, 3, 4, 5] rfl)
            · refine lv_iinc (v := nI (f + 1)) (lv' := [(4, .int (nI (f + 1))), (5, .int (nI i)), (3, .int (rf pn v)), (0, .ref qb), (1, .int (nI pn)), (2, .int v)]) hx hb dX0_rivalsAt_51 hl (k := 1) rfl (nI_inc f) (by decide) rfl (fun ls hl => ?_)
              refine lv_iinc (v := nI (i + 1)) (lv' := [(5, .int (nI (i + 1))), (4, .int (nI (f + 1))), (3, .int (rf pn v)), (0, .ref qb), (1, .int (nI pn)), (2, .int v)]) hx hb dX0_rivalsAt_54 hl (k := 1) rfl (nI_inc i) (by decide) rfl (fun ls hl => ?_)
              refine lv_goto (tgt := 12) hx hb dX0_rivalsAt_57 (by decide) ?_
              exact ih1 (i + 1) (f + 1) (by omega) (by rw [cnt_t (by simp [rvP, c_23, c_24, c_25, c_27]), hf]) (by omega) _ (lv_sub hl [0, 1, 2, 3, 4, 5] rfl)
  exact L1 13 0 0 (by decide) rfl (by decide) _ (lv_sub hl [0, 1, 2, 3, 4, 5] rfl)

abbrev rm_X0_matesAt : Room := { frames := 0, cells := 0, slots := 0, locals := 0 }
set_option maxHeartbeats 1000000 in
set_option maxRecDepth 100000 in
theorem c_X0_matesAt (l : Launch) (G : va_G) (cI cC cZ cG : ClassId) (sz : Nat) (qb qp qs qr qf : Nat) (pr sb br fe : IA) (fl : Int32) (k : Nat) (v : Int32) (hk : k < 12) : Met l yX0_matesAt (.code yX0_matesAt cX0_matesAt 6 (some .int) :: wsL_law) rm_X0_matesAt (va_Pc [.ref qb, .int (nI k), .int v] (bw G cI cC cZ cG false sz [(qb, .inr (0, [.ref qp, .ref qs, .ref qr, .ref qf, .int fl])), (qp, .inl (cI, 12, .inl pr)), (qs, .inl (cI, 12, .inl sb)), (qr, .inl (cI, 4, .inl br)), (qf, .inl (cI, 4, .inl fe))])) (vp_Si (fun r => r = nI (mt pr k v))) 0 0 (fun _ => False) := by
  refine met_bw rfl (Nat.le_of_ble_eq_true rfl) ?_
  intro p e s m below meth c ls hx hb hr hml hown hts hlocks hin hsz hP hK hD0 hX0 hl
  have hown : s.vm.findClass RX0 = some m.cls := hown
  have hl : lv_has ls 6 [(0, .ref qb), (1, .int (nI k)), (2, .int v)] := hl
  generalize hQ : MQ below (vp_Si (fun r => r = nI (mt pr k v))) ([.ref qb, .int (nI k), .int v] : List Value).toArray s 0 0 (fun _ => False) = Q
  generalize hag : ([.ref qb, .int (nI k), .int v] : List Value).toArray = ag at hts hQ ⊢
  refine lv_iload_n hx hb dX0_matesAt_0 rfl (lv_at hl 1 rfl) ?_
  refine lv_iload_n hx hb dX0_matesAt_1 rfl (lv_at hl 1 rfl) ?_
  refine lv_iconst (v := 3) hx hb dX0_matesAt_2 (by decide) ?_
  refine zi_rem hx hb k 3 dX0_matesAt_3 rfl rfl (by omega) (by decide) (by decide) ?_
  refine zi_sub hx hb k (k % 3) dX0_matesAt_4 rfl rfl (Nat.mod_le _ _) ?_
  refine lv_istore_n (lv' := [(3, .int (nI (k - (k % 3)))), (0, .ref qb), (1, .int (nI k)), (2, .int v)]) hx hb dX0_matesAt_5 rfl hl (by decide) rfl (fun ls hl => ?_)
  refine lv_iconst (v := 0) hx hb dX0_matesAt_6 (by decide) ?_
  refine lv_istore (lv' := [(4, .int 0), (3, .int (nI (k - (k % 3)))), (0, .ref qb), (1, .int (nI k)), (2, .int v)]) hx hb dX0_matesAt_7 hl (by decide) rfl (fun ls hl => ?_)
  refine lv_iload_n hx hb dX0_matesAt_9 rfl (lv_at hl 1 rfl) ?_
  refine lv_istore (lv' := [(5, .int (nI (k - (k % 3)))), (4, .int 0), (3, .int (nI (k - (k % 3)))), (0, .ref qb), (1, .int (nI k)), (2, .int v)]) hx hb dX0_matesAt_10 hl (by decide) rfl (fun ls hl => ?_)
  have L1 : ∀ (n : Nat), ∀ (i : Nat), ∀ (f : Nat), ∀ (h0 : (k - k % 3) ≤ i), ∀ (hi : i ≤ (k - k % 3) + 3), ∀ (hf : f = cnt (mtP pr k v) (i - (k - k % 3))), ∀ (hn : (k - k % 3) + 4 ≤ i + n), ∀ (ls : Array Slot), lv_has ls 6 [(5, .int (nI i)), (4, .int (nI f)), (3, .int (nI (k - (k % 3)))), (0, .ref qb), (1, .int (nI k)), (2, .int v)] → W p l e rm_X0_matesAt s m ag below meth c s.heap [] 0 0 Q (F0 m 12 ls []) := by
    intro n
    induction n with
    | zero =>
      intro i f h0 hi hf hn ls hl
      omega
    | succ n ih1 =>
      intro i f h0 hi hf hn ls hl
      have hb2 : (k - k % 3) + (i - (k - k % 3)) = i := by omega
      have hb3 : i + 1 - (k - k % 3) = (i - (k - k % 3)) + 1 := by omega
      refine lv_iload hx hb dX0_matesAt_12 (lv_at hl 0 rfl) ?_
      refine lv_iload_n hx hb dX0_matesAt_14 rfl (lv_at hl 2 rfl) ?_
      refine lv_iconst (v := 3) hx hb dX0_matesAt_15 (by decide) ?_
      refine zi_add hx hb (k - (k % 3)) 3 dX0_matesAt_16 rfl rfl ?_
      refine zi_ge (tgt := 46) hx hb i ((k - (k % 3)) + 3) dX0_matesAt_17 (by decide) rfl rfl (by omega) (by omega) (fun c_29 => ?_) (fun c_29 => ?_)
      · refine lv_iload hx hb dX0_matesAt_46 (lv_at hl 1 rfl) ?_
        subst hQ
        exact W.iret (v := nI f) hx hb hr (fun t ht hW => ⟨nI f, rfl, by rw [hf, show i - (k - k % 3) = 3 by omega]; rfl, ht⟩) (fun _ h => absurd h List.not_mem_nil) dX0_matesAt_48
      · refine lv_iload hx hb dX0_matesAt_20 (lv_at hl 0 rfl) ?_
        refine lv_iload_n hx hb dX0_matesAt_22 rfl (lv_at hl 4 rfl) ?_
        refine zi_eq (tgt := 40) hx hb i k dX0_matesAt_23 (by decide) rfl rfl (by omega) (by omega) (fun c_30 => ?_) (fun c_30 => ?_)
        · refine lv_iinc (v := nI (i + 1)) (lv' := [(5, .int (nI (i + 1))), (4, .int (nI f)), (3, .int (nI (k - (k % 3)))), (0, .ref qb), (1, .int (nI k)), (2, .int v)]) hx hb dX0_matesAt_40 hl (k := 0) rfl (nI_inc i) (by decide) rfl (fun ls hl => ?_)
          refine lv_goto (tgt := 12) hx hb dX0_matesAt_43 (by decide) ?_
          exact ih1 (i + 1) f (by omega) (by omega) (by rw [hb3, cnt_f (by simp [mtP, hb2, c_29, c_30]), hf]) (by omega) _ (lv_sub hl [0, 1, 2, 3, 4, 5] rfl)
        · refine lv_aload_n hx hb dX0_matesAt_26 rfl (lv_at hl 3 rfl) ?_
          refine va_get (D := G) (ci := 0) (v := .ref qp) (C := RX0) (T := TX0) (N := 5) hx hb hts inlX0 hown hK.1 hP 0 rfl rfl 0 (by decide) (hts _ wd48) (fun _ h9 => h9) rfl dX0_matesAt_27 ?_
          refine lv_iload hx hb dX0_matesAt_30 (lv_at hl 0 rfl) ?_
          refine za_ld hx hb hK.1 hP 1 0 rfl rfl i rfl (by omega) (by decide) dX0_matesAt_32 ?_
          refine lv_iload_n hx hb dX0_matesAt_33 rfl (lv_at hl 5 rfl) ?_
          refine lv_icmp_ne (tgt := 40) hx hb dX0_matesAt_34 (by decide) (fun c_31 => ?_) (fun c_31 => ?_)
          · refine lv_iinc (v := nI (i + 1)) (lv' := [(5, .int (nI (i + 1))), (4, .int (nI f)), (3, .int (nI (k - (k % 3)))), (0, .ref qb), (1, .int (nI k)), (2, .int v)]) hx hb dX0_matesAt_40 hl (k := 0) rfl (nI_inc i) (by decide) rfl (fun ls hl => ?_)
            refine lv_goto (tgt := 12) hx hb dX0_matesAt_43 (by decide) ?_
            exact ih1 (i + 1) f (by omega) (by omega) (by rw [hb3, cnt_f (by simp [mtP, hb2, c_29, c_30, c_31]), hf]) (by omega) _ (lv_sub hl [0, 1, 2, 3, 4, 5] rfl)
          · refine lv_iinc (v := nI (f + 1)) (lv' := [(4, .int (nI (f + 1))), (5, .int (nI i)), (3, .int (nI (k - (k % 3)))), (0, .ref qb), (1, .int (nI k)), (2, .int v)]) hx hb dX0_matesAt_37 hl (k := 1) rfl (nI_inc f) (by decide) rfl (fun ls hl => ?_)
            refine lv_iinc (v := nI (i + 1)) (lv' := [(5, .int (nI (i + 1))), (4, .int (nI (f + 1))), (3, .int (nI (k - (k % 3)))), (0, .ref qb), (1, .int (nI k)), (2, .int v)]) hx hb dX0_matesAt_40 hl (k := 1) rfl (nI_inc i) (by decide) rfl (fun ls hl => ?_)
            refine lv_goto (tgt := 12) hx hb dX0_matesAt_43 (by decide) ?_
            exact ih1 (i + 1) (f + 1) (by omega) (by omega) (by rw [hb3, cnt_t (by simp [mtP, hb2, c_29, c_30, c_31]), hf]) (by omega) _ (lv_sub hl [0, 1, 2, 3, 4, 5] rfl)
  exact L1 4 (k - (k % 3)) 0 (by omega) (by omega) (by rw [Nat.sub_self]; rfl) (by omega) _ (lv_sub hl [0, 1, 2, 3, 4, 5] rfl)

abbrev rm_X0_isInPair : Room := { frames := 1, cells := 0, slots := 0, locals := 25 }
theorem cf_RX0_38 {R : Room} {s : State} {args : Array Value} (ht : ∀ w ∈ wsL_law, w.before args s = true) (hN : ∀ w ∈ nestW, va_Nw w s) (hR : rm_X5_isOnRing.frames + 1 ≤ R.frames ∧ 8 + (1 + 11) + rm_X5_isOnRing.locals ≤ R.locals) : va_CN R s args RX0 38 yX5_isOnRing "BridgedPachisi" cX5_isOnRing 1 (some .boolean) (.code yX5_isOnRing cX5_isOnRing 1 (some .boolean) :: wsL_law) rm_X5_isOnRing 0 0 1 ∧ (Cond.static yX5_isOnRing).before args s = true ∧ True := ⟨cw_N 1 ht hN nw24 wd2 wd93 (by decide +kernel) rfl rfl hR, ht _ wd92, trivial⟩
theorem cf_RX0_42 {R : Room} {s : State} {args : Array Value} (ht : ∀ w ∈ wsL_law, w.before args s = true) (hR : rm_X0_matesAt.frames + 1 ≤ R.frames ∧ 8 + (6 + 11) + rm_X0_matesAt.locals ≤ R.locals) : CallW R s args RX0 RX0 42 yX0_matesAt cX0_matesAt 6 (some .int) (.code yX0_matesAt cX0_matesAt 6 (some .int) :: wsL_law) rm_X0_matesAt 0 0 2 := ⟨cw_B 2 ht wd94 wd33 wd97 (by decide +kernel) rfl rfl hR, ht _ wd95, ht _ wd96⟩
set_option maxHeartbeats 1000000 in
set_option maxRecDepth 100000 in
theorem c_X0_isInPair (l : Launch) (G : va_G) (cI cC cZ cG : ClassId) (sz : Nat) (qb qp qs qr qf : Nat) (pr sb br fe : IA) (fl : Int32) (k : Nat) (hk : k < 12) : Met l yX0_isInPair (.code yX0_isInPair cX0_isInPair 2 (some .boolean) :: wsL_law) rm_X0_isInPair (va_Pc [.ref qb, .int (nI k)] (bw G cI cC cZ cG false sz [(qb, .inr (0, [.ref qp, .ref qs, .ref qr, .ref qf, .int fl])), (qp, .inl (cI, 12, .inl pr)), (qs, .inl (cI, 12, .inl sb)), (qr, .inl (cI, 4, .inl br)), (qf, .inl (cI, 4, .inl fe))])) (vp_Si (fun r => r = bz (pairQ pr k = true))) 0 0 (fun _ => False) := by
  refine met_bw rfl (Nat.le_of_ble_eq_true rfl) ?_
  intro p e s m below meth c ls hx hb hr hml hown hts hlocks hin hsz hP hK hD0 hX0 hl
  have hown : s.vm.findClass RX0 = some m.cls := hown
  have hl : lv_has ls 2 [(0, .ref qb), (1, .int (nI k))] := hl
  refine lv_aload_n hx hb dX0_isInPair_0 rfl (lv_at hl 0 rfl) ?_
  refine va_get (D := G) (ci := 0) (v := .ref qp) (C := RX0) (T := TX0) (N := 5) hx hb hts inlX0 hown hK.1 hP 0 rfl rfl 0 (by decide) (hts _ wd48) (fun _ h9 => h9) rfl dX0_isInPair_1 ?_
  refine lv_iload_n hx hb dX0_isInPair_4 rfl (lv_at hl 1 rfl) ?_
  refine za_ld hx hb hK.1 hP 1 0 rfl rfl k rfl (by omega) (by decide) dX0_isInPair_5 ?_
  refine vp_callSi (va_Run.run (va_runSN (As := [.int (pr k)]) (rest := []) ⟨hx, hb, hml, hown, hts⟩ (c_X5_isOnRing l (pr k)) (cf_RX0_38 hts hK.2 ⟨Nat.le_of_ble_eq_true rfl, Nat.le_of_ble_eq_true rfl⟩) pre_P rfl rfl hl.1 rfl (lv_room (Nat.le_of_ble_eq_true rfl)) dX0_isInPair_6 ⟨Nat.le_of_ble_eq_true rfl, Nat.le_of_ble_eq_true rfl⟩)) (fun r32 hr32 => ?_)
  subst hr32
  refine zb_eq (tgt := 30) hx hb dX0_isInPair_9 (by decide) (fun c_33 => ?_) (fun c_33 => ?_)
  · refine lv_iconst (v := 0) hx hb dX0_isInPair_30 (by decide) ?_
    exact W.zret (v := 0) hx hb hr rfl (fun t ht hW => ⟨0, rfl, bz_f (by simp [pairQ, c_33]), ht⟩) (fun _ h => absurd h List.not_mem_nil) dX0_isInPair_31
  · refine lv_aload_n hx hb dX0_isInPair_12 rfl (lv_at hl 0 rfl) ?_
    refine lv_iload_n hx hb dX0_isInPair_13 rfl (lv_at hl 1 rfl) ?_
    refine lv_aload_n hx hb dX0_isInPair_14 rfl (lv_at hl 0 rfl) ?_
    refine va_get (D := G) (ci := 0) (v := .ref qp) (C := RX0) (T := TX0) (N := 5) hx hb hts inlX0 hown hK.1 hP 0 rfl rfl 0 (by decide) (hts _ wd48) (fun _ h9 => h9) rfl dX0_isInPair_15 ?_
    refine lv_iload_n hx hb dX0_isInPair_18 rfl (lv_at hl 1 rfl) ?_
    refine za_ld hx hb hK.1 hP 1 0 rfl rfl k rfl (by omega) (by decide) dX0_isInPair_19 ?_
    have hPc : va_P G vwCl [(qb, .inr (0, [.ref qp, .ref qs, .ref qr, .ref qf, .int fl])), (qp, .inl (cI, 12, .inl pr)), (qs, .inl (cI, 12, .inl sb)), (qr, .inl (cI, 4, .inl br)), (qf, .inl (cI, 4, .inl fe))] s.heap := hP
    have hDc := hD0
    refine vp_callSi (va_Run.run (va_runV (As := [.int (nI k), .int (pr k)]) (rest := []) ⟨hx, hb, hml, hown, hts⟩ (c_X0_matesAt l G cI cC cZ cG s.heap.size qb qp qs qr qf pr sb br fe fl k (pr k) (by omega)) (cf_RX0_42 hts ⟨Nat.le_of_ble_eq_true rfl, Nat.le_of_ble_eq_true rfl⟩) (pre_V hK hPc hDc (ci := 0) (q0 := 0) rfl rfl) rfl rfl hl.1 rfl (lv_room (Nat.le_of_ble_eq_true rfl)) dX0_isInPair_20 ⟨Nat.le_of_ble_eq_true rfl, Nat.le_of_ble_eq_true rfl⟩)) (fun r34 hr34 => ?_)
    subst hr34
    have hf35 := (show mt pr k (pr k) ≤ 3 from cnt_le (mtP pr k (pr k)) 3)
    refine z0_le (tgt := 30) hx hb (mt pr k (pr k)) dX0_isInPair_23 (by decide) rfl (by omega) (fun c_36 => ?_) (fun c_36 => ?_)
    · refine lv_iconst (v := 0) hx hb dX0_isInPair_30 (by decide) ?_
      exact W.zret (v := 0) hx hb hr rfl (fun t ht hW => ⟨0, rfl, bz_f (by simp [pairQ, c_33, c_36]), ht⟩) (fun _ h => absurd h List.not_mem_nil) dX0_isInPair_31
    · refine lv_iconst (v := 1) hx hb dX0_isInPair_26 (by decide) ?_
      refine lv_goto (tgt := 31) hx hb dX0_isInPair_27 (by decide) ?_
      exact W.zret (v := 1) hx hb hr rfl (fun t ht hW => ⟨1, rfl, bz_t (by simp [pairQ, c_33, c_36]), ht⟩) (fun _ h => absurd h List.not_mem_nil) dX0_isInPair_31

abbrev rm_X0_isFullFor : Room := { frames := 1, cells := 0, slots := 0, locals := 25 }
set_option maxHeartbeats 1000000 in
set_option maxRecDepth 100000 in
theorem c_X0_isFullFor (l : Launch) (G : va_G) (cI cC cZ cG : ClassId) (sz : Nat) (qb qp qs qr qf : Nat) (pr sb br fe : IA) (fl : Int32) (k : Nat) (v : Int32) (hk : k < 12) : Met l yX0_isFullFor (.code yX0_isFullFor cX0_isFullFor 3 (some .boolean) :: wsL_law) rm_X0_isFullFor (va_Pc [.ref qb, .int (nI k), .int v] (bw G cI cC cZ cG false sz [(qb, .inr (0, [.ref qp, .ref qs, .ref qr, .ref qf, .int fl])), (qp, .inl (cI, 12, .inl pr)), (qs, .inl (cI, 12, .inl sb)), (qr, .inl (cI, 4, .inl br)), (qf, .inl (cI, 4, .inl fe))])) (vp_Si (fun r => r = bz (fullQ pr k v = true))) 0 0 (fun _ => False) := by
  refine met_bw rfl (Nat.le_of_ble_eq_true rfl) ?_
  intro p e s m below meth c ls hx hb hr hml hown hts hlocks hin hsz hP hK hD0 hX0 hl
  have hown : s.vm.findClass RX0 = some m.cls := hown
  have hl : lv_has ls 3 [(0, .ref qb), (1, .int (nI k)), (2, .int v)] := hl
  refine lv_iload_n hx hb dX0_isFullFor_0 rfl (lv_at hl 2 rfl) ?_
  refine lv_bipush (v := (-6)) hx hb dX0_isFullFor_1 (by decide) ?_
  refine lv_icmp_eq (tgt := 26) hx hb dX0_isFullFor_3 (by decide) (fun c_37 => ?_) (fun c_37 => ?_)
  · refine lv_iconst (v := 0) hx hb dX0_isFullFor_26 (by decide) ?_
    exact W.zret (v := 0) hx hb hr rfl (fun t ht hW => ⟨0, rfl, bz_f (by simp [fullQ, c_37]), ht⟩) (fun _ h => absurd h List.not_mem_nil) dX0_isFullFor_27
  · refine lv_iload_n hx hb dX0_isFullFor_6 rfl (lv_at hl 2 rfl) ?_
    refine lv_bipush (v := 35) hx hb dX0_isFullFor_7 (by decide) ?_
    refine lv_icmp_eq (tgt := 26) hx hb dX0_isFullFor_9 (by decide) (fun c_38 => ?_) (fun c_38 => ?_)
    · refine lv_iconst (v := 0) hx hb dX0_isFullFor_26 (by decide) ?_
      exact W.zret (v := 0) hx hb hr rfl (fun t ht hW => ⟨0, rfl, bz_f (by simp [fullQ, c_37, c_38]), ht⟩) (fun _ h => absurd h List.not_mem_nil) dX0_isFullFor_27
    · refine lv_aload_n hx hb dX0_isFullFor_12 rfl (lv_at hl 0 rfl) ?_
      refine lv_iload_n hx hb dX0_isFullFor_13 rfl (lv_at hl 1 rfl) ?_
      refine lv_iload_n hx hb dX0_isFullFor_14 rfl (lv_at hl 2 rfl) ?_
      have hPc : va_P G vwCl [(qb, .inr (0, [.ref qp, .ref qs, .ref qr, .ref qf, .int fl])), (qp, .inl (cI, 12, .inl pr)), (qs, .inl (cI, 12, .inl sb)), (qr, .inl (cI, 4, .inl br)), (qf, .inl (cI, 4, .inl fe))] s.heap := hP
      have hDc := hD0
      refine vp_callSi (va_Run.run (va_runV (As := [.int (nI k), .int v]) (rest := []) ⟨hx, hb, hml, hown, hts⟩ (c_X0_matesAt l G cI cC cZ cG s.heap.size qb qp qs qr qf pr sb br fe fl k v (by omega)) (cf_RX0_42 hts ⟨Nat.le_of_ble_eq_true rfl, Nat.le_of_ble_eq_true rfl⟩) (pre_V hK hPc hDc (ci := 0) (q0 := 0) rfl rfl) rfl rfl hl.1 rfl (lv_room (Nat.le_of_ble_eq_true rfl)) dX0_isFullFor_15 ⟨Nat.le_of_ble_eq_true rfl, Nat.le_of_ble_eq_true rfl⟩)) (fun r39 hr39 => ?_)
      subst hr39
      have hf40 := (show mt pr k v ≤ 3 from cnt_le (mtP pr k v) 3)
      refine lv_iconst (v := 2) hx hb dX0_isFullFor_18 (by decide) ?_
      refine zi_lt (tgt := 26) hx hb (mt pr k v) 2 dX0_isFullFor_19 (by decide) rfl rfl (by omega) (by decide) (fun c_41 => ?_) (fun c_41 => ?_)
      · refine lv_iconst (v := 0) hx hb dX0_isFullFor_26 (by decide) ?_
        exact W.zret (v := 0) hx hb hr rfl (fun t ht hW => ⟨0, rfl, bz_f (by simp [fullQ, c_37, c_38, c_41]), ht⟩) (fun _ h => absurd h List.not_mem_nil) dX0_isFullFor_27
      · refine lv_iconst (v := 1) hx hb dX0_isFullFor_22 (by decide) ?_
        refine lv_goto (tgt := 27) hx hb dX0_isFullFor_23 (by decide) ?_
        exact W.zret (v := 1) hx hb hr rfl (fun t ht hW => ⟨1, rfl, bz_t (by simp [fullQ, c_37, c_38, c_41]), ht⟩) (fun _ h => absurd h List.not_mem_nil) dX0_isFullFor_27

abbrev rm_X0_bridgeState : Room := { frames := 1, cells := 0, slots := 0, locals := 20 }
theorem cf_RX0_59 {R : Room} {s : State} {args : Array Value} (ht : ∀ w ∈ wsL_law, w.before args s = true) (hN : ∀ w ∈ nestW, va_Nw w s) (hR : rm_X5_bridgeOn.frames + 1 ≤ R.frames ∧ 8 + (1 + 11) + rm_X5_bridgeOn.locals ≤ R.locals) : va_CN R s args RX0 59 yX5_bridgeOn "BridgedPachisi" cX5_bridgeOn 1 (some .int) (.code yX5_bridgeOn cX5_bridgeOn 1 (some .int) :: wsL_law) rm_X5_bridgeOn 0 0 1 ∧ (Cond.static yX5_bridgeOn).before args s = true ∧ True := ⟨cw_N 1 ht hN nw28 wd2 wd118 (by decide +kernel) rfl rfl hR, ht _ wd117, trivial⟩
set_option maxHeartbeats 1000000 in
set_option maxRecDepth 100000 in
theorem c_X0_bridgeState (l : Launch) (G : va_G) (cI cC cZ cG : ClassId) (sz : Nat) (qb qp qs qr qf : Nat) (pr sb br fe : IA) (fl : Int32) (g : Int32) : Met l yX0_bridgeState (.code yX0_bridgeState cX0_bridgeState 3 (some .int) :: wsL_law) rm_X0_bridgeState (va_Pc [.ref qb, .int g] (bw G cI cC cZ cG false sz [(qb, .inr (0, [.ref qp, .ref qs, .ref qr, .ref qf, .int fl])), (qp, .inl (cI, 12, .inl pr)), (qs, .inl (cI, 12, .inl sb)), (qr, .inl (cI, 4, .inl br)), (qf, .inl (cI, 4, .inl fe))])) (vp_Si (fun r => r = bs br g)) 0 0 (fun _ => False) := by
  refine met_bw rfl (Nat.le_of_ble_eq_true rfl) ?_
  intro p e s m below meth c ls hx hb hr hml hown hts hlocks hin hsz hP hK hD0 hX0 hl
  have hown : s.vm.findClass RX0 = some m.cls := hown
  have hl : lv_has ls 3 [(0, .ref qb), (1, .int g)] := hl
  refine lv_iload_n hx hb dX0_bridgeState_0 rfl (lv_at hl 1 rfl) ?_
  refine vp_callSi (va_Run.run (va_runSN (As := [.int g]) (rest := []) ⟨hx, hb, hml, hown, hts⟩ (c_X5_bridgeOn l g) (cf_RX0_59 hts hK.2 ⟨Nat.le_of_ble_eq_true rfl, Nat.le_of_ble_eq_true rfl⟩) pre_P rfl rfl hl.1 rfl (lv_room (Nat.le_of_ble_eq_true rfl)) dX0_bridgeState_1 ⟨Nat.le_of_ble_eq_true rfl, Nat.le_of_ble_eq_true rfl⟩)) (fun r42 hr42 => ?_)
  subst hr42
  refine lv_istore_n (lv' := [(2, .int (bo g)), (0, .ref qb), (1, .int g)]) hx hb dX0_bridgeState_4 rfl hl (by decide) rfl (fun ls hl => ?_)
  refine lv_iload_n hx hb dX0_bridgeState_5 rfl (lv_at hl 0 rfl) ?_
  refine lv_bipush (v := (-6)) hx hb dX0_bridgeState_6 (by decide) ?_
  refine lv_icmp_ne (tgt := 15) hx hb dX0_bridgeState_8 (by decide) (fun c_43 => ?_) (fun c_43 => ?_)
  · refine lv_aload_n hx hb dX0_bridgeState_15 rfl (lv_at hl 1 rfl) ?_
    refine va_get (D := G) (ci := 0) (v := .ref qr) (C := RX0) (T := TX0) (N := 5) hx hb hts inlX0 hown hK.1 hP 0 rfl rfl 2 (by decide) (hts _ wd50) (fun _ h9 => h9) rfl dX0_bridgeState_16 ?_
    refine lv_iload_n hx hb dX0_bridgeState_19 rfl (lv_at hl 0 rfl) ?_
    refine va_iald hx hb hK.1 hP 3 0 rfl rfl (by obtain ⟨b, hb4, eb⟩ := bo_ne _ c_43; rw [eb]; exact vp_in_nI hb4 (by decide)) dX0_bridgeState_20 ?_
    exact W.iret (v := br (bo g).toNatClampNeg) hx hb hr (fun t ht hW => ⟨br (bo g).toNatClampNeg, rfl, by simp [bs, c_43], ht⟩) (fun _ h => absurd h List.not_mem_nil) dX0_bridgeState_21
  · refine lv_iconst (v := 0) hx hb dX0_bridgeState_11 (by decide) ?_
    refine lv_goto (tgt := 21) hx hb dX0_bridgeState_12 (by decide) ?_
    exact W.iret (v := 0) hx hb hr (fun t ht hW => ⟨0, rfl, by simp [bs, c_43], ht⟩) (fun _ h => absurd h List.not_mem_nil) dX0_bridgeState_21

abbrev rm_X0_isFallenAt : Room := { frames := 1, cells := 0, slots := 0, locals := 21 }
set_option maxHeartbeats 1000000 in
set_option maxRecDepth 100000 in
theorem c_X0_isFallenAt (l : Launch) (G : va_G) (cI cC cZ cG : ClassId) (sz : Nat) (qb qp qs qr qf : Nat) (pr sb br fe : IA) (fl : Int32) (pn : Nat) (v : Int32) (hp : pn < 4) : Met l yX0_isFallenAt (.code yX0_isFallenAt cX0_isFallenAt 4 (some .boolean) :: wsL_law) rm_X0_isFallenAt (va_Pc [.ref qb, .int (nI pn), .int v] (bw G cI cC cZ cG false sz [(qb, .inr (0, [.ref qp, .ref qs, .ref qr, .ref qf, .int fl])), (qp, .inl (cI, 12, .inl pr)), (qs, .inl (cI, 12, .inl sb)), (qr, .inl (cI, 4, .inl br)), (qf, .inl (cI, 4, .inl fe))])) (vp_Si (fun r => r = bz (faQ br pn v = true))) 0 0 (fun _ => False) := by
  refine met_bw rfl (Nat.le_of_ble_eq_true rfl) ?_
  intro p e s m below meth c ls hx hb hr hml hown hts hlocks hin hsz hP hK hD0 hX0 hl
  have hown : s.vm.findClass RX0 = some m.cls := hown
  have hl : lv_has ls 4 [(0, .ref qb), (1, .int (nI pn)), (2, .int v)] := hl
  refine lv_iload_n hx hb dX0_isFallenAt_0 rfl (lv_at hl 1 rfl) ?_
  refine lv_iload_n hx hb dX0_isFallenAt_1 rfl (lv_at hl 2 rfl) ?_
  refine vp_callSi (va_Run.run (va_runSN (As := [.int (nI pn), .int v]) (rest := []) ⟨hx, hb, hml, hown, hts⟩ (c_X5_ringField l pn v (by omega)) (cf_RX0_34 hts hK.2 ⟨Nat.le_of_ble_eq_true rfl, Nat.le_of_ble_eq_true rfl⟩) pre_P rfl rfl hl.1 rfl (lv_room (Nat.le_of_ble_eq_true rfl)) dX0_isFallenAt_2 ⟨Nat.le_of_ble_eq_true rfl, Nat.le_of_ble_eq_true rfl⟩)) (fun r44 hr44 => ?_)
  subst hr44
  refine vp_callSi (va_Run.run (va_runSN (As := [.int (rf pn v)]) (rest := []) ⟨hx, hb, hml, hown, hts⟩ (c_X5_bridgeOn l (rf pn v)) (cf_RX0_59 hts hK.2 ⟨Nat.le_of_ble_eq_true rfl, Nat.le_of_ble_eq_true rfl⟩) pre_P rfl rfl hl.1 rfl (lv_room (Nat.le_of_ble_eq_true rfl)) dX0_isFallenAt_5 ⟨Nat.le_of_ble_eq_true rfl, Nat.le_of_ble_eq_true rfl⟩)) (fun r45 hr45 => ?_)
  subst hr45
  refine lv_istore_n (lv' := [(3, .int (bo (rf pn v))), (0, .ref qb), (1, .int (nI pn)), (2, .int v)]) hx hb dX0_isFallenAt_8 rfl hl (by decide) rfl (fun ls hl => ?_)
  refine lv_iload_n hx hb dX0_isFallenAt_9 rfl (lv_at hl 0 rfl) ?_
  refine lv_bipush (v := (-6)) hx hb dX0_isFallenAt_10 (by decide) ?_
  refine lv_icmp_eq (tgt := 29) hx hb dX0_isFallenAt_12 (by decide) (fun c_46 => ?_) (fun c_46 => ?_)
  · refine lv_iconst (v := 0) hx hb dX0_isFallenAt_29 (by decide) ?_
    exact W.zret (v := 0) hx hb hr rfl (fun t ht hW => ⟨0, rfl, bz_f (by simp [faQ, bs, c_46]), ht⟩) (fun _ h => absurd h List.not_mem_nil) dX0_isFallenAt_30
  · refine lv_aload_n hx hb dX0_isFallenAt_15 rfl (lv_at hl 1 rfl) ?_
    refine va_get (D := G) (ci := 0) (v := .ref qr) (C := RX0) (T := TX0) (N := 5) hx hb hts inlX0 hown hK.1 hP 0 rfl rfl 2 (by decide) (hts _ wd50) (fun _ h9 => h9) rfl dX0_isFallenAt_16 ?_
    refine lv_iload_n hx hb dX0_isFallenAt_19 rfl (lv_at hl 0 rfl) ?_
    refine va_iald hx hb hK.1 hP 3 0 rfl rfl (by obtain ⟨b, hb4, eb⟩ := bo_ne _ c_46; rw [eb]; exact vp_in_nI hb4 (by decide)) dX0_isFallenAt_20 ?_
    refine lv_iconst (v := 3) hx hb dX0_isFallenAt_21 (by decide) ?_
    refine lv_icmp_ne (tgt := 29) hx hb dX0_isFallenAt_22 (by decide) (fun c_47 => ?_) (fun c_47 => ?_)
    · refine lv_iconst (v := 0) hx hb dX0_isFallenAt_29 (by decide) ?_
      exact W.zret (v := 0) hx hb hr rfl (fun t ht hW => ⟨0, rfl, bz_f (by simp [faQ, bs, c_46, c_47]), ht⟩) (fun _ h => absurd h List.not_mem_nil) dX0_isFallenAt_30
    · refine lv_iconst (v := 1) hx hb dX0_isFallenAt_25 (by decide) ?_
      refine lv_goto (tgt := 30) hx hb dX0_isFallenAt_26 (by decide) ?_
      exact W.zret (v := 1) hx hb hr rfl (fun t ht hW => ⟨1, rfl, bz_t (by simp [faQ, bs, c_46, c_47]), ht⟩) (fun _ h => absurd h List.not_mem_nil) dX0_isFallenAt_30

abbrev rm_X0_hasRoomFor : Room := { frames := 2, cells := 0, slots := 0, locals := 47 }
theorem cf_RX0_45 {R : Room} {s : State} {args : Array Value} (ht : ∀ w ∈ wsL_law, w.before args s = true) (hR : rm_X0_rivalsAt.frames + 1 ≤ R.frames ∧ 8 + (6 + 11) + rm_X0_rivalsAt.locals ≤ R.locals) : CallW R s args RX0 RX0 45 yX0_rivalsAt cX0_rivalsAt 6 (some .int) (.code yX0_rivalsAt cX0_rivalsAt 6 (some .int) :: wsL_law) rm_X0_rivalsAt 0 0 2 := ⟨cw_B 2 ht wd173 wd33 wd176 (by decide +kernel) rfl rfl hR, ht _ wd174, ht _ wd175⟩
theorem cf_RX0_48 {R : Room} {s : State} {args : Array Value} (ht : ∀ w ∈ wsL_law, w.before args s = true) (hR : rm_X0_isFullFor.frames + 1 ≤ R.frames ∧ 8 + (3 + 11) + rm_X0_isFullFor.locals ≤ R.locals) : CallW R s args RX0 RX0 48 yX0_isFullFor cX0_isFullFor 3 (some .boolean) (.code yX0_isFullFor cX0_isFullFor 3 (some .boolean) :: wsL_law) rm_X0_isFullFor 0 0 2 := ⟨cw_B 2 ht wd344 wd33 wd179 (by decide +kernel) rfl rfl hR, ht _ wd177, ht _ wd178⟩
theorem cf_RX0_52 {R : Room} {s : State} {args : Array Value} (ht : ∀ w ∈ wsL_law, w.before args s = true) (hR : rm_X0_isFallenAt.frames + 1 ≤ R.frames ∧ 8 + (4 + 11) + rm_X0_isFallenAt.locals ≤ R.locals) : CallW R s args RX0 RX0 52 yX0_isFallenAt cX0_isFallenAt 4 (some .boolean) (.code yX0_isFallenAt cX0_isFallenAt 4 (some .boolean) :: wsL_law) rm_X0_isFallenAt 0 0 2 := ⟨cw_B 2 ht wd166 wd33 wd169 (by decide +kernel) rfl rfl hR, ht _ wd167, ht _ wd168⟩
set_option maxHeartbeats 1000000 in
set_option maxRecDepth 100000 in
theorem c_X0_hasRoomFor (l : Launch) (G : va_G) (cI cC cZ cG : ClassId) (sz : Nat) (qb qp qs qr qf : Nat) (pr sb br fe : IA) (fl : Int32) (k : Nat) (v : Int32) (hk : k < 12) : Met l yX0_hasRoomFor (.code yX0_hasRoomFor cX0_hasRoomFor 4 (some .boolean) :: wsL_law) rm_X0_hasRoomFor (va_Pc [.ref qb, .int (nI k), .int v] (bw G cI cC cZ cG false sz [(qb, .inr (0, [.ref qp, .ref qs, .ref qr, .ref qf, .int fl])), (qp, .inl (cI, 12, .inl pr)), (qs, .inl (cI, 12, .inl sb)), (qr, .inl (cI, 4, .inl br)), (qf, .inl (cI, 4, .inl fe))])) (vp_Si (fun r => r = bz (roomQ pr br k v = true))) 0 0 (fun _ => False) := by
  refine met_bw rfl (Nat.le_of_ble_eq_true rfl) ?_
  intro p e s m below meth c ls hx hb hr hml hown hts hlocks hin hsz hP hK hD0 hX0 hl
  have hown : s.vm.findClass RX0 = some m.cls := hown
  have hl : lv_has ls 4 [(0, .ref qb), (1, .int (nI k)), (2, .int v)] := hl
  refine lv_iload_n hx hb dX0_hasRoomFor_0 rfl (lv_at hl 1 rfl) ?_
  refine lv_iconst (v := 3) hx hb dX0_hasRoomFor_1 (by decide) ?_
  refine zi_div hx hb k 3 dX0_hasRoomFor_2 rfl rfl (by omega) (by decide) (by decide) ?_
  refine lv_istore_n (lv' := [(3, .int (nI (k / 3))), (0, .ref qb), (1, .int (nI k)), (2, .int v)]) hx hb dX0_hasRoomFor_3 rfl hl (by decide) rfl (fun ls hl => ?_)
  refine lv_aload_n hx hb dX0_hasRoomFor_4 rfl (lv_at hl 1 rfl) ?_
  refine lv_iload_n hx hb dX0_hasRoomFor_5 rfl (lv_at hl 0 rfl) ?_
  refine lv_iload_n hx hb dX0_hasRoomFor_6 rfl (lv_at hl 3 rfl) ?_
  have hPc : va_P G vwCl [(qb, .inr (0, [.ref qp, .ref qs, .ref qr, .ref qf, .int fl])), (qp, .inl (cI, 12, .inl pr)), (qs, .inl (cI, 12, .inl sb)), (qr, .inl (cI, 4, .inl br)), (qf, .inl (cI, 4, .inl fe))] s.heap := hP
  have hDc := hD0
  refine vp_callSi (va_Run.run (va_runV (As := [.int (nI (k / 3)), .int v]) (rest := []) ⟨hx, hb, hml, hown, hts⟩ (c_X0_rivalsAt l G cI cC cZ cG s.heap.size qb qp qs qr qf pr sb br fe fl (k / 3) v (by omega)) (cf_RX0_45 hts ⟨Nat.le_of_ble_eq_true rfl, Nat.le_of_ble_eq_true rfl⟩) (pre_V hK hPc hDc (ci := 0) (q0 := 0) rfl rfl) rfl rfl hl.1 rfl (lv_room (Nat.le_of_ble_eq_true rfl)) dX0_hasRoomFor_7 ⟨Nat.le_of_ble_eq_true rfl, Nat.le_of_ble_eq_true rfl⟩)) (fun r48 hr48 => ?_)
  subst hr48
  have hf49 := (show rv pr (k / 3) v ≤ 12 from cnt_le (rvP pr (k / 3) (rf (k / 3) v)) 12)
  refine z0_ne (tgt := 35) hx hb (rv pr (k / 3) v) dX0_hasRoomFor_10 (by decide) rfl (by omega) (fun c_50 => ?_) (fun c_50 => ?_)
  · refine lv_iconst (v := 0) hx hb dX0_hasRoomFor_35 (by decide) ?_
    exact W.zret (v := 0) hx hb hr rfl (fun t ht hW => ⟨0, rfl, bz_f (by simp [roomQ, c_50]), ht⟩) (fun _ h => absurd h List.not_mem_nil) dX0_hasRoomFor_36
  · refine lv_aload_n hx hb dX0_hasRoomFor_13 rfl (lv_at hl 1 rfl) ?_
    refine lv_iload_n hx hb dX0_hasRoomFor_14 rfl (lv_at hl 2 rfl) ?_
    refine lv_iload_n hx hb dX0_hasRoomFor_15 rfl (lv_at hl 3 rfl) ?_
    have hPc : va_P G vwCl [(qb, .inr (0, [.ref qp, .ref qs, .ref qr, .ref qf, .int fl])), (qp, .inl (cI, 12, .inl pr)), (qs, .inl (cI, 12, .inl sb)), (qr, .inl (cI, 4, .inl br)), (qf, .inl (cI, 4, .inl fe))] s.heap := hP
    have hDc := hD0
    refine vp_callSi (va_Run.run (va_runV (As := [.int (nI k), .int v]) (rest := []) ⟨hx, hb, hml, hown, hts⟩ (c_X0_isFullFor l G cI cC cZ cG s.heap.size qb qp qs qr qf pr sb br fe fl k v (by omega)) (cf_RX0_48 hts ⟨Nat.le_of_ble_eq_true rfl, Nat.le_of_ble_eq_true rfl⟩) (pre_V hK hPc hDc (ci := 0) (q0 := 0) rfl rfl) rfl rfl hl.1 rfl (lv_room (Nat.le_of_ble_eq_true rfl)) dX0_hasRoomFor_16 ⟨Nat.le_of_ble_eq_true rfl, Nat.le_of_ble_eq_true rfl⟩)) (fun r51 hr51 => ?_)
    subst hr51
    refine zb_ne (tgt := 35) hx hb dX0_hasRoomFor_19 (by decide) (fun c_52 => ?_) (fun c_52 => ?_)
    · refine lv_iconst (v := 0) hx hb dX0_hasRoomFor_35 (by decide) ?_
      exact W.zret (v := 0) hx hb hr rfl (fun t ht hW => ⟨0, rfl, bz_f (by simp [roomQ, c_50, c_52]), ht⟩) (fun _ h => absurd h List.not_mem_nil) dX0_hasRoomFor_36
    · refine lv_aload_n hx hb dX0_hasRoomFor_22 rfl (lv_at hl 1 rfl) ?_
      refine lv_iload_n hx hb dX0_hasRoomFor_23 rfl (lv_at hl 0 rfl) ?_
      refine lv_iload_n hx hb dX0_hasRoomFor_24 rfl (lv_at hl 3 rfl) ?_
      have hPc : va_P G vwCl [(qb, .inr (0, [.ref qp, .ref qs, .ref qr, .ref qf, .int fl])), (qp, .inl (cI, 12, .inl pr)), (qs, .inl (cI, 12, .inl sb)), (qr, .inl (cI, 4, .inl br)), (qf, .inl (cI, 4, .inl fe))] s.heap := hP
      have hDc := hD0
      refine vp_callSi (va_Run.run (va_runV (As := [.int (nI (k / 3)), .int v]) (rest := []) ⟨hx, hb, hml, hown, hts⟩ (c_X0_isFallenAt l G cI cC cZ cG s.heap.size qb qp qs qr qf pr sb br fe fl (k / 3) v (by omega)) (cf_RX0_52 hts ⟨Nat.le_of_ble_eq_true rfl, Nat.le_of_ble_eq_true rfl⟩) (pre_V hK hPc hDc (ci := 0) (q0 := 0) rfl rfl) rfl rfl hl.1 rfl (lv_room (Nat.le_of_ble_eq_true rfl)) dX0_hasRoomFor_25 ⟨Nat.le_of_ble_eq_true rfl, Nat.le_of_ble_eq_true rfl⟩)) (fun r53 hr53 => ?_)
      subst hr53
      refine zb_ne (tgt := 35) hx hb dX0_hasRoomFor_28 (by decide) (fun c_54 => ?_) (fun c_54 => ?_)
      · refine lv_iconst (v := 0) hx hb dX0_hasRoomFor_35 (by decide) ?_
        exact W.zret (v := 0) hx hb hr rfl (fun t ht hW => ⟨0, rfl, bz_f (by simp [roomQ, c_50, c_52, c_54]), ht⟩) (fun _ h => absurd h List.not_mem_nil) dX0_hasRoomFor_36
      · refine lv_iconst (v := 1) hx hb dX0_hasRoomFor_31 (by decide) ?_
        refine lv_goto (tgt := 36) hx hb dX0_hasRoomFor_32 (by decide) ?_
        exact W.zret (v := 1) hx hb hr rfl (fun t ht hW => ⟨1, rfl, bz_t (by simp [roomQ, c_50, c_52, c_54]), ht⟩) (fun _ h => absurd h List.not_mem_nil) dX0_hasRoomFor_36

abbrev rm_X0_homeOf : Room := { frames := 0, cells := 0, slots := 0, locals := 0 }
set_option maxHeartbeats 1000000 in
set_option maxRecDepth 100000 in
theorem c_X0_homeOf (l : Launch) (G : va_G) (cI cC cZ cG : ClassId) (sz : Nat) (qb qp qs qr qf : Nat) (pr sb br fe : IA) (fl : Int32) (pn : Nat) (hp : pn < 4) : Met l yX0_homeOf (.code yX0_homeOf cX0_homeOf 4 (some .int) :: wsL_law) rm_X0_homeOf (va_Pc [.ref qb, .int (nI pn)] (bw G cI cC cZ cG false sz [(qb, .inr (0, [.ref qp, .ref qs, .ref qr, .ref qf, .int fl])), (qp, .inl (cI, 12, .inl pr)), (qs, .inl (cI, 12, .inl sb)), (qr, .inl (cI, 4, .inl br)), (qf, .inl (cI, 4, .inl fe))])) (vp_Si (fun r => r = nI (ho pr pn))) 0 0 (fun _ => False) := by
  refine met_bw rfl (Nat.le_of_ble_eq_true rfl) ?_
  intro p e s m below meth c ls hx hb hr hml hown hts hlocks hin hsz hP hK hD0 hX0 hl
  have hown : s.vm.findClass RX0 = some m.cls := hown
  have hl : lv_has ls 4 [(0, .ref qb), (1, .int (nI pn))] := hl
  generalize hQ : MQ below (vp_Si (fun r => r = nI (ho pr pn))) ([.ref qb, .int (nI pn)] : List Value).toArray s 0 0 (fun _ => False) = Q
  generalize hag : ([.ref qb, .int (nI pn)] : List Value).toArray = ag at hts hQ ⊢
  refine lv_iconst (v := 0) hx hb dX0_homeOf_0 (by decide) ?_
  refine lv_istore_n (lv' := [(2, .int 0), (0, .ref qb), (1, .int (nI pn))]) hx hb dX0_homeOf_1 rfl hl (by decide) rfl (fun ls hl => ?_)
  refine lv_iload_n hx hb dX0_homeOf_2 rfl (lv_at hl 2 rfl) ?_
  refine lv_iconst (v := 3) hx hb dX0_homeOf_3 (by decide) ?_
  refine zi_mul hx hb pn 3 dX0_homeOf_4 rfl rfl ?_
  refine lv_istore_n (lv' := [(3, .int (nI (pn * 3))), (2, .int 0), (0, .ref qb), (1, .int (nI pn))]) hx hb dX0_homeOf_5 rfl hl (by decide) rfl (fun ls hl => ?_)
  have L1 : ∀ (n : Nat), ∀ (i : Nat), ∀ (f : Nat), ∀ (h0 : pn * 3 ≤ i), ∀ (hi : i ≤ pn * 3 + 3), ∀ (hf : f = cnt (hoP pr pn) (i - pn * 3)), ∀ (hn : pn * 3 + 4 ≤ i + n), ∀ (ls : Array Slot), lv_has ls 4 [(3, .int (nI i)), (2, .int (nI f)), (0, .ref qb), (1, .int (nI pn))] → W p l e rm_X0_homeOf s m ag below meth c s.heap [] 0 0 Q (F0 m 6 ls []) := by
    intro n
    induction n with
    | zero =>
      intro i f h0 hi hf hn ls hl
      omega
    | succ n ih1 =>
      intro i f h0 hi hf hn ls hl
      have hb2 : pn * 3 + (i - pn * 3) = i := by omega
      have hb3 : i + 1 - pn * 3 = (i - pn * 3) + 1 := by omega
      refine lv_iload_n hx hb dX0_homeOf_6 rfl (lv_at hl 0 rfl) ?_
      refine lv_iload_n hx hb dX0_homeOf_7 rfl (lv_at hl 3 rfl) ?_
      refine lv_iconst (v := 3) hx hb dX0_homeOf_8 (by decide) ?_
      refine zi_mul hx hb pn 3 dX0_homeOf_9 rfl rfl ?_
      refine lv_iconst (v := 3) hx hb dX0_homeOf_10 (by decide) ?_
      refine zi_add hx hb (pn * 3) 3 dX0_homeOf_11 rfl rfl ?_
      refine zi_ge (tgt := 35) hx hb i ((pn * 3) + 3) dX0_homeOf_12 (by decide) rfl rfl (by omega) (by omega) (fun c_56 => ?_) (fun c_56 => ?_)
      · refine lv_iload_n hx hb dX0_homeOf_35 rfl (lv_at hl 1 rfl) ?_
        subst hQ
        exact W.iret (v := nI f) hx hb hr (fun t ht hW => ⟨nI f, rfl, by rw [hf, show i - pn * 3 = 3 by omega]; rfl, ht⟩) (fun _ h => absurd h List.not_mem_nil) dX0_homeOf_36
      · refine lv_aload_n hx hb dX0_homeOf_15 rfl (lv_at hl 2 rfl) ?_
        refine va_get (D := G) (ci := 0) (v := .ref qp) (C := RX0) (T := TX0) (N := 5) hx hb hts inlX0 hown hK.1 hP 0 rfl rfl 0 (by decide) (hts _ wd48) (fun _ h9 => h9) rfl dX0_homeOf_16 ?_
        refine lv_iload_n hx hb dX0_homeOf_19 rfl (lv_at hl 0 rfl) ?_
        refine za_ld hx hb hK.1 hP 1 0 rfl rfl i rfl (by omega) (by decide) dX0_homeOf_20 ?_
        refine lv_bipush (v := 35) hx hb dX0_homeOf_21 (by decide) ?_
        refine lv_icmp_ne (tgt := 29) hx hb dX0_homeOf_23 (by decide) (fun c_57 => ?_) (fun c_57 => ?_)
        · refine lv_iinc (v := nI (i + 1)) (lv' := [(3, .int (nI (i + 1))), (2, .int (nI f)), (0, .ref qb), (1, .int (nI pn))]) hx hb dX0_homeOf_29 hl (k := 0) rfl (nI_inc i) (by decide) rfl (fun ls hl => ?_)
          refine lv_goto (tgt := 6) hx hb dX0_homeOf_32 (by decide) ?_
          exact ih1 (i + 1) f (by omega) (by omega) (by rw [hb3, cnt_f (by simp [hoP, hb2, c_56, c_57]), hf]) (by omega) _ (lv_sub hl [0, 1, 2, 3] rfl)
        · refine lv_iinc (v := nI (f + 1)) (lv' := [(2, .int (nI (f + 1))), (3, .int (nI i)), (0, .ref qb), (1, .int (nI pn))]) hx hb dX0_homeOf_26 hl (k := 1) rfl (nI_inc f) (by decide) rfl (fun ls hl => ?_)
          refine lv_iinc (v := nI (i + 1)) (lv' := [(3, .int (nI (i + 1))), (2, .int (nI (f + 1))), (0, .ref qb), (1, .int (nI pn))]) hx hb dX0_homeOf_29 hl (k := 1) rfl (nI_inc i) (by decide) rfl (fun ls hl => ?_)
          refine lv_goto (tgt := 6) hx hb dX0_homeOf_32 (by decide) ?_
          exact ih1 (i + 1) (f + 1) (by omega) (by omega) (by rw [hb3, cnt_t (by simp [hoP, hb2, c_56, c_57]), hf]) (by omega) _ (lv_sub hl [0, 1, 2, 3] rfl)
  exact L1 4 (pn * 3) 0 (by omega) (by omega) (by rw [Nat.sub_self]; rfl) (by omega) _ (lv_sub hl [0, 1, 2, 3] rfl)

abbrev rm_X0_winner : Room := { frames := 1, cells := 0, slots := 0, locals := 23 }
theorem cf_RX0_55 {R : Room} {s : State} {args : Array Value} (ht : ∀ w ∈ wsL_law, w.before args s = true) (hR : rm_X0_homeOf.frames + 1 ≤ R.frames ∧ 8 + (4 + 11) + rm_X0_homeOf.locals ≤ R.locals) : CallW R s args RX0 RX0 55 yX0_homeOf cX0_homeOf 4 (some .int) (.code yX0_homeOf cX0_homeOf 4 (some .int) :: wsL_law) rm_X0_homeOf 0 0 1 := ⟨cw_B 1 ht wd136 wd33 wd139 (by decide +kernel) rfl rfl hR, ht _ wd137, ht _ wd138⟩
set_option maxHeartbeats 1000000 in
set_option maxRecDepth 100000 in
theorem c_X0_winner (l : Launch) (G : va_G) (cI cC cZ cG : ClassId) (sz : Nat) (qb qp qs qr qf : Nat) (pr sb br fe : IA) (fl : Int32) : Met l yX0_winner (.code yX0_winner cX0_winner 2 (some .int) :: wsL_law) rm_X0_winner (va_Pc [.ref qb] (bw G cI cC cZ cG false sz [(qb, .inr (0, [.ref qp, .ref qs, .ref qr, .ref qf, .int fl])), (qp, .inl (cI, 12, .inl pr)), (qs, .inl (cI, 12, .inl sb)), (qr, .inl (cI, 4, .inl br)), (qf, .inl (cI, 4, .inl fe))])) (vp_Si (fun r => r = wi pr)) 0 0 (fun _ => False) := by
  refine met_bw rfl (Nat.le_of_ble_eq_true rfl) ?_
  intro p e s m below meth c ls hx hb hr hml hown hts hlocks hin hsz hP hK hD0 hX0 hl
  have hown : s.vm.findClass RX0 = some m.cls := hown
  have hl : lv_has ls 2 [(0, .ref qb)] := hl
  generalize hQ : MQ below (vp_Si (fun r => r = wi pr)) ([.ref qb] : List Value).toArray s 0 0 (fun _ => False) = Q
  generalize hag : ([.ref qb] : List Value).toArray = ag at hts hQ ⊢
  refine lv_iconst (v := 0) hx hb dX0_winner_0 (by decide) ?_
  refine lv_istore_n (lv' := [(1, .int 0), (0, .ref qb)]) hx hb dX0_winner_1 rfl hl (by decide) rfl (fun ls hl => ?_)
  have L1 : ∀ (n : Nat), ∀ (i : Nat), ∀ (hi : i ≤ 4), ∀ (hf : low (wiP pr) 0 4 = low (wiP pr) i (4 - i)), ∀ (hn : 5 ≤ i + n), ∀ (ls : Array Slot), lv_has ls 2 [(1, .int (nI i)), (0, .ref qb)] → W p l e rm_X0_winner s m ag below meth c s.heap [] 0 0 Q (F0 m 2 ls []) := by
    intro n
    induction n with
    | zero =>
      intro i hi hf hn ls hl
      omega
    | succ n ih1 =>
      intro i hi hf hn ls hl
      have he : i < 4 → 4 - i = (4 - (i + 1)) + 1 := fun h => by omega
      refine lv_iload_n hx hb dX0_winner_2 rfl (lv_at hl 0 rfl) ?_
      refine lv_iconst (v := 4) hx hb dX0_winner_3 (by decide) ?_
      refine zi_ge (tgt := 24) hx hb i 4 dX0_winner_4 (by decide) rfl rfl (by omega) (by decide) (fun c_59 => ?_) (fun c_59 => ?_)
      · refine lv_bipush (v := (-6)) hx hb dX0_winner_24 (by decide) ?_
        subst hQ
        exact W.iret (v := (-6)) hx hb hr (fun t ht hW => ⟨(-6), rfl, by rw [wi, hf, show 4 - i = 0 by omega]; rfl, ht⟩) (fun _ h => absurd h List.not_mem_nil) dX0_winner_26
      · refine lv_aload_n hx hb dX0_winner_7 rfl (lv_at hl 1 rfl) ?_
        refine lv_iload_n hx hb dX0_winner_8 rfl (lv_at hl 0 rfl) ?_
        have hPc : va_P G vwCl [(qb, .inr (0, [.ref qp, .ref qs, .ref qr, .ref qf, .int fl])), (qp, .inl (cI, 12, .inl pr)), (qs, .inl (cI, 12, .inl sb)), (qr, .inl (cI, 4, .inl br)), (qf, .inl (cI, 4, .inl fe))] s.heap := hP
        have hDc := hD0
        refine vp_callSi (va_Run.run (va_runV (As := [.int (nI i)]) (rest := []) ⟨hx, hb, hml, hown, hts⟩ (c_X0_homeOf l G cI cC cZ cG s.heap.size qb qp qs qr qf pr sb br fe fl i (by omega)) (cf_RX0_55 hts ⟨Nat.le_of_ble_eq_true rfl, Nat.le_of_ble_eq_true rfl⟩) (pre_V hK hPc hDc (ci := 0) (q0 := 0) rfl rfl) rfl rfl hl.1 rfl (lv_room (Nat.le_of_ble_eq_true rfl)) dX0_winner_9 ⟨Nat.le_of_ble_eq_true rfl, Nat.le_of_ble_eq_true rfl⟩)) (fun r60 hr60 => ?_)
        subst hr60
        have hf61 := (show ho pr i ≤ 3 from cnt_le (hoP pr i) 3)
        refine lv_iconst (v := 3) hx hb dX0_winner_12 (by decide) ?_
        refine zi_ne (tgt := 18) hx hb (ho pr i) 3 dX0_winner_13 (by decide) rfl rfl (by omega) (by decide) (fun c_62 => ?_) (fun c_62 => ?_)
        · refine lv_iinc (v := nI (i + 1)) (lv' := [(1, .int (nI (i + 1))), (0, .ref qb)]) hx hb dX0_winner_18 hl (k := 0) rfl (nI_inc i) (by decide) rfl (fun ls hl => ?_)
          refine lv_goto (tgt := 2) hx hb dX0_winner_21 (by decide) ?_
          exact ih1 (i + 1) (by omega) (by rw [hf, he c_59]; simp [low, wiP, c_62]) (by omega) _ (lv_sub hl [0, 1] rfl)
        · refine lv_iload_n hx hb dX0_winner_16 rfl (lv_at hl 0 rfl) ?_
          subst hQ
          exact W.iret (v := nI i) hx hb hr (fun t ht hW => ⟨nI i, rfl, by rw [wi, hf, he c_59]; simp [low, wiP, c_62], ht⟩) (fun _ h => absurd h List.not_mem_nil) dX0_winner_17
  exact L1 5 0 (by decide) rfl (by decide) _ (lv_sub hl [0, 1] rfl)

abbrev rm_X0_sentBackInAll : Room := { frames := 0, cells := 0, slots := 0, locals := 0 }
set_option maxHeartbeats 1000000 in
set_option maxRecDepth 100000 in
theorem c_X0_sentBackInAll (l : Launch) (G : va_G) (cI cC cZ cG : ClassId) (sz : Nat) (qb qp qs qr qf : Nat) (pr sb br fe : IA) (fl : Int32) : Met l yX0_sentBackInAll (.code yX0_sentBackInAll cX0_sentBackInAll 3 (some .int) :: wsL_law) rm_X0_sentBackInAll (va_Pc [.ref qb] (bw G cI cC cZ cG false sz [(qb, .inr (0, [.ref qp, .ref qs, .ref qr, .ref qf, .int fl])), (qp, .inl (cI, 12, .inl pr)), (qs, .inl (cI, 12, .inl sb)), (qr, .inl (cI, 4, .inl br)), (qf, .inl (cI, 4, .inl fe))])) (vp_Si (fun r => r = sumI sb 12)) 0 0 (fun _ => False) := by
  refine met_bw rfl (Nat.le_of_ble_eq_true rfl) ?_
  intro p e s m below meth c ls hx hb hr hml hown hts hlocks hin hsz hP hK hD0 hX0 hl
  have hown : s.vm.findClass RX0 = some m.cls := hown
  have hl : lv_has ls 3 [(0, .ref qb)] := hl
  generalize hQ : MQ below (vp_Si (fun r => r = sumI sb 12)) ([.ref qb] : List Value).toArray s 0 0 (fun _ => False) = Q
  generalize hag : ([.ref qb] : List Value).toArray = ag at hts hQ ⊢
  refine lv_iconst (v := 0) hx hb dX0_sentBackInAll_0 (by decide) ?_
  refine lv_istore_n (lv' := [(1, .int 0), (0, .ref qb)]) hx hb dX0_sentBackInAll_1 rfl hl (by decide) rfl (fun ls hl => ?_)
  refine lv_iconst (v := 0) hx hb dX0_sentBackInAll_2 (by decide) ?_
  refine lv_istore_n (lv' := [(2, .int 0), (1, .int 0), (0, .ref qb)]) hx hb dX0_sentBackInAll_3 rfl hl (by decide) rfl (fun ls hl => ?_)
  have L1 : ∀ (n : Nat), ∀ (i : Nat), ∀ (f : Int32), ∀ (hi : i ≤ 12), ∀ (hf : f = sumI sb i), ∀ (hn : 13 ≤ i + n), ∀ (ls : Array Slot), lv_has ls 3 [(2, .int (nI i)), (1, .int f), (0, .ref qb)] → W p l e rm_X0_sentBackInAll s m ag below meth c s.heap [] 0 0 Q (F0 m 4 ls []) := by
    intro n
    induction n with
    | zero =>
      intro i f hi hf hn ls hl
      omega
    | succ n ih1 =>
      intro i f hi hf hn ls hl
      refine lv_iload_n hx hb dX0_sentBackInAll_4 rfl (lv_at hl 0 rfl) ?_
      refine lv_bipush (v := 12) hx hb dX0_sentBackInAll_5 (by decide) ?_
      refine zi_ge (tgt := 25) hx hb i 12 dX0_sentBackInAll_7 (by decide) rfl rfl (by omega) (by decide) (fun c_64 => ?_) (fun c_64 => ?_)
      · refine lv_iload_n hx hb dX0_sentBackInAll_25 rfl (lv_at hl 1 rfl) ?_
        subst hQ
        exact W.iret (v := f) hx hb hr (fun t ht hW => ⟨f, rfl, by rw [hf, show i = 12 by omega], ht⟩) (fun _ h => absurd h List.not_mem_nil) dX0_sentBackInAll_26
      · refine lv_iload_n hx hb dX0_sentBackInAll_10 rfl (lv_at hl 1 rfl) ?_
        refine lv_aload_n hx hb dX0_sentBackInAll_11 rfl (lv_at hl 2 rfl) ?_
        refine va_get (D := G) (ci := 0) (v := .ref qs) (C := RX0) (T := TX0) (N := 5) hx hb hts inlX0 hown hK.1 hP 0 rfl rfl 1 (by decide) (hts _ wd49) (fun _ h9 => h9) rfl dX0_sentBackInAll_12 ?_
        refine lv_iload_n hx hb dX0_sentBackInAll_15 rfl (lv_at hl 0 rfl) ?_
        refine za_ld hx hb hK.1 hP 2 0 rfl rfl i rfl (by omega) (by decide) dX0_sentBackInAll_16 ?_
        refine lv_iadd hx hb dX0_sentBackInAll_17 ?_
        refine lv_istore_n (lv' := [(1, .int (f + (sb i))), (2, .int (nI i)), (0, .ref qb)]) hx hb dX0_sentBackInAll_18 rfl hl (by decide) rfl (fun ls hl => ?_)
        refine lv_iinc (v := nI (i + 1)) (lv' := [(2, .int (nI (i + 1))), (1, .int (f + (sb i))), (0, .ref qb)]) hx hb dX0_sentBackInAll_19 hl (k := 1) rfl (nI_inc i) (by decide) rfl (fun ls hl => ?_)
        refine lv_goto (tgt := 4) hx hb dX0_sentBackInAll_22 (by decide) ?_
        exact ih1 (i + 1) (f + (sb i)) (by omega) (by rw [sumI, hf]) (by omega) _ (lv_sub hl [0, 1, 2] rfl)
  exact L1 13 0 0 (by decide) rfl (by decide) _ (lv_sub hl [0, 1, 2] rfl)

abbrev rm_X0_fallenSet : Room := { frames := 0, cells := 0, slots := 0, locals := 0 }
set_option maxHeartbeats 1000000 in
set_option maxRecDepth 100000 in
theorem c_X0_fallenSet (l : Launch) (G : va_G) (cI cC cZ cG : ClassId) (sz : Nat) (qb qp qs qr qf : Nat) (pr sb br fe : IA) (fl : Int32) : Met l yX0_fallenSet (.code yX0_fallenSet cX0_fallenSet 3 (some .int) :: wsL_law) rm_X0_fallenSet (va_Pc [.ref qb] (bw G cI cC cZ cG false sz [(qb, .inr (0, [.ref qp, .ref qs, .ref qr, .ref qf, .int fl])), (qp, .inl (cI, 12, .inl pr)), (qs, .inl (cI, 12, .inl sb)), (qr, .inl (cI, 4, .inl br)), (qf, .inl (cI, 4, .inl fe))])) (vp_Si (fun r => r = fset br 4)) 0 0 (fun _ => False) := by
  refine met_bw rfl (Nat.le_of_ble_eq_true rfl) ?_
  intro p e s m below meth c ls hx hb hr hml hown hts hlocks hin hsz hP hK hD0 hX0 hl
  have hown : s.vm.findClass RX0 = some m.cls := hown
  have hl : lv_has ls 3 [(0, .ref qb)] := hl
  generalize hQ : MQ below (vp_Si (fun r => r = fset br 4)) ([.ref qb] : List Value).toArray s 0 0 (fun _ => False) = Q
  generalize hag : ([.ref qb] : List Value).toArray = ag at hts hQ ⊢
  refine lv_iconst (v := 0) hx hb dX0_fallenSet_0 (by decide) ?_
  refine lv_istore_n (lv' := [(1, .int 0), (0, .ref qb)]) hx hb dX0_fallenSet_1 rfl hl (by decide) rfl (fun ls hl => ?_)
  refine lv_iconst (v := 0) hx hb dX0_fallenSet_2 (by decide) ?_
  refine lv_istore_n (lv' := [(2, .int 0), (1, .int 0), (0, .ref qb)]) hx hb dX0_fallenSet_3 rfl hl (by decide) rfl (fun ls hl => ?_)
  have L1 : ∀ (n : Nat), ∀ (i : Nat), ∀ (f : Int32), ∀ (hi : i ≤ 4), ∀ (hf : f = fset br i), ∀ (hn : 5 ≤ i + n), ∀ (ls : Array Slot), lv_has ls 3 [(2, .int (nI i)), (1, .int f), (0, .ref qb)] → W p l e rm_X0_fallenSet s m ag below meth c s.heap [] 0 0 Q (F0 m 4 ls []) := by
    intro n
    induction n with
    | zero =>
      intro i f hi hf hn ls hl
      omega
    | succ n ih1 =>
      intro i f hi hf hn ls hl
      refine lv_iload_n hx hb dX0_fallenSet_4 rfl (lv_at hl 0 rfl) ?_
      refine lv_iconst (v := 4) hx hb dX0_fallenSet_5 (by decide) ?_
      refine zi_ge (tgt := 31) hx hb i 4 dX0_fallenSet_6 (by decide) rfl rfl (by omega) (by decide) (fun c_66 => ?_) (fun c_66 => ?_)
      · refine lv_iload_n hx hb dX0_fallenSet_31 rfl (lv_at hl 1 rfl) ?_
        subst hQ
        exact W.iret (v := f) hx hb hr (fun t ht hW => ⟨f, rfl, by rw [hf, show i = 4 by omega], ht⟩) (fun _ h => absurd h List.not_mem_nil) dX0_fallenSet_32
      · refine lv_aload_n hx hb dX0_fallenSet_9 rfl (lv_at hl 2 rfl) ?_
        refine va_get (D := G) (ci := 0) (v := .ref qr) (C := RX0) (T := TX0) (N := 5) hx hb hts inlX0 hown hK.1 hP 0 rfl rfl 2 (by decide) (hts _ wd50) (fun _ h9 => h9) rfl dX0_fallenSet_10 ?_
        refine lv_iload_n hx hb dX0_fallenSet_13 rfl (lv_at hl 0 rfl) ?_
        refine za_ld hx hb hK.1 hP 3 0 rfl rfl i rfl (by omega) (by decide) dX0_fallenSet_14 ?_
        refine lv_iconst (v := 3) hx hb dX0_fallenSet_15 (by decide) ?_
        refine lv_icmp_ne (tgt := 25) hx hb dX0_fallenSet_16 (by decide) (fun c_67 => ?_) (fun c_67 => ?_)
        · refine lv_iinc (v := nI (i + 1)) (lv' := [(2, .int (nI (i + 1))), (1, .int f), (0, .ref qb)]) hx hb dX0_fallenSet_25 hl (k := 0) rfl (nI_inc i) (by decide) rfl (fun ls hl => ?_)
          refine lv_goto (tgt := 4) hx hb dX0_fallenSet_28 (by decide) ?_
          exact ih1 (i + 1) f (by omega) (by simp [fset, c_67, hf]) (by omega) _ (lv_sub hl [0, 1, 2] rfl)
        · refine lv_iload_n hx hb dX0_fallenSet_19 rfl (lv_at hl 1 rfl) ?_
          refine lv_iconst (v := 1) hx hb dX0_fallenSet_20 (by decide) ?_
          refine lv_iload_n hx hb dX0_fallenSet_21 rfl (lv_at hl 0 rfl) ?_
          refine lv_ishl hx hb dX0_fallenSet_22 ?_
          refine lv_ior hx hb dX0_fallenSet_23 ?_
          refine lv_istore_n (lv' := [(1, .int (f ||| (1 <<< ((nI i) &&& 31)))), (2, .int (nI i)), (0, .ref qb)]) hx hb dX0_fallenSet_24 rfl hl (by decide) rfl (fun ls hl => ?_)
          refine lv_iinc (v := nI (i + 1)) (lv' := [(2, .int (nI (i + 1))), (1, .int (f ||| (1 <<< ((nI i) &&& 31)))), (0, .ref qb)]) hx hb dX0_fallenSet_25 hl (k := 1) rfl (nI_inc i) (by decide) rfl (fun ls hl => ?_)
          refine lv_goto (tgt := 4) hx hb dX0_fallenSet_28 (by decide) ?_
          exact ih1 (i + 1) (f ||| (1 <<< ((nI i) &&& 31))) (by omega) (by simp [fset, c_67, hf]) (by omega) _ (lv_sub hl [0, 1, 2] rfl)
  exact L1 5 0 0 (by decide) rfl (by decide) _ (lv_sub hl [0, 1, 2] rfl)

abbrev rm_X0_target : Room := { frames := 2, cells := 0, slots := 0, locals := 44 }
set_option maxHeartbeats 1000000 in
set_option maxRecDepth 100000 in
theorem c_X0_target (l : Launch) (G : va_G) (cI cC cZ cG : ClassId) (sz : Nat) (qb qp qs qr qf : Nat) (pr sb br fe : IA) (fl : Int32) (pn : Nat) (v : Int32) (cn : Nat) (hp : pn < 4) (hv : okv v) (hc : cn ≤ 6) : Met l yX0_target (.code yX0_target cX0_target 6 (some .int) :: wsL_law) rm_X0_target (va_Pc [.ref qb, .int (nI pn), .int v, .int (nI cn)] (bw G cI cC cZ cG false sz [(qb, .inr (0, [.ref qp, .ref qs, .ref qr, .ref qf, .int fl])), (qp, .inl (cI, 12, .inl pr)), (qs, .inl (cI, 12, .inl sb)), (qr, .inl (cI, 4, .inl br)), (qf, .inl (cI, 4, .inl fe))])) (vp_Si (fun r => r = tgt br pn v cn)) 0 0 (fun _ => False) := by
  refine met_bw rfl (Nat.le_of_ble_eq_true rfl) ?_
  intro p e s m below meth c ls hx hb hr hml hown hts hlocks hin hsz hP hK hD0 hX0 hl
  have hown : s.vm.findClass RX0 = some m.cls := hown
  have hl : lv_has ls 6 [(0, .ref qb), (1, .int (nI pn)), (2, .int v), (3, .int (nI cn))] := hl
  generalize hQ : MQ below (vp_Si (fun r => r = tgt br pn v cn)) ([.ref qb, .int (nI pn), .int v, .int (nI cn)] : List Value).toArray s 0 0 (fun _ => False) = Q
  generalize hag : ([.ref qb, .int (nI pn), .int v, .int (nI cn)] : List Value).toArray = ag at hts hQ ⊢
  rcases hv with rfl | ⟨a, ha, rfl⟩
  · refine lv_iload_n hx hb dX0_target_0 rfl (lv_at hl 2 rfl) ?_
    refine lv_bipush (v := (-6)) hx hb dX0_target_1 (by decide) ?_
    refine lv_icmp_ne (tgt := 8) hx hb dX0_target_3 (by decide) (fun c_68 => ?_) (fun c_68 => ?_)
    · exact absurd c_68 (by decide)
    · refine lv_iconst (v := 0) hx hb dX0_target_6 (by decide) ?_
      subst hQ
      exact W.iret (v := 0) hx hb hr (fun t ht hW => ⟨0, rfl, (by simp [tgt]), ht⟩) (fun _ h => absurd h List.not_mem_nil) dX0_target_7
  · refine lv_iload_n hx hb dX0_target_0 rfl (lv_at hl 2 rfl) ?_
    refine lv_bipush (v := (-6)) hx hb dX0_target_1 (by decide) ?_
    refine lv_icmp_ne (tgt := 8) hx hb dX0_target_3 (by decide) (fun c_69 => ?_) (fun c_69 => ?_)
    · refine lv_iload_n hx hb dX0_target_8 rfl (lv_at hl 2 rfl) ?_
      refine lv_istore (lv' := [(4, .int (nI a)), (0, .ref qb), (1, .int (nI pn)), (2, .int (nI a)), (3, .int (nI cn))]) hx hb dX0_target_9 hl (by decide) rfl (fun ls hl => ?_)
      refine lv_iload_n hx hb dX0_target_11 rfl (lv_at hl 4 rfl) ?_
      refine lv_istore (lv' := [(5, .int (nI cn)), (4, .int (nI a)), (0, .ref qb), (1, .int (nI pn)), (2, .int (nI a)), (3, .int (nI cn))]) hx hb dX0_target_12 hl (by decide) rfl (fun ls hl => ?_)
      have L1 : ∀ (n : Nat), ∀ (b : Nat), ∀ (x : Int32), ∀ (hb2 : b ≤ 35), ∀ (hx2 : tgH (faN br pn) (tgt br pn (nI a) cn) b x), ∀ (hn : 36 ≤ b + n), ∀ (ls : Array Slot), lv_has ls 6 [(5, .int x), (4, .int (nI b)), (0, .ref qb), (1, .int (nI pn)), (2, .int (nI a)), (3, .int (nI cn))] → W p l e rm_X0_target s m ag below meth c s.heap [] 0 0 Q (F0 m 14 ls []) := by
        intro n
        induction n with
        | zero =>
          intro b x hb2 hx2 hn ls hl
          omega
        | succ n ih1 =>
          intro b x hb2 hx2 hn ls hl
          rcases hx2 with ⟨y, hy, rfl, he⟩ | ⟨rfl, he⟩
          · refine lv_iload hx hb dX0_target_14 (lv_at hl 0 rfl) ?_
            refine z0_le (tgt := 52) hx hb y dX0_target_16 (by decide) rfl (by omega) (fun c_71 => ?_) (fun c_71 => ?_)
            · refine lv_iload hx hb dX0_target_52 (lv_at hl 0 rfl) ?_
              refine z0_ne (tgt := 67) hx hb y dX0_target_54 (by decide) rfl (by omega) (fun c_72 => ?_) (fun c_72 => ?_)
              · refine lv_bipush (v := (-6)) hx hb dX0_target_67 (by decide) ?_
                refine lv_goto (tgt := 74) hx hb dX0_target_69 (by decide) ?_
                subst hQ
                exact W.iret (v := (-6)) hx hb hr (fun t ht hW => ⟨(-6), rfl, (by first | exact he.symm | exact (he.trans (tg_35 (by omega) hy (by omega) hb2)).symm | exact (tg_fal he (by omega) c_72).symm | (exfalso; omega)), ht⟩) (fun _ h => absurd h List.not_mem_nil) dX0_target_74
              · refine lv_aload_n hx hb dX0_target_57 rfl (lv_at hl 2 rfl) ?_
                refine lv_iload_n hx hb dX0_target_58 rfl (lv_at hl 3 rfl) ?_
                refine lv_iload hx hb dX0_target_59 (lv_at hl 1 rfl) ?_
                have hPc : va_P G vwCl [(qb, .inr (0, [.ref qp, .ref qs, .ref qr, .ref qf, .int fl])), (qp, .inl (cI, 12, .inl pr)), (qs, .inl (cI, 12, .inl sb)), (qr, .inl (cI, 4, .inl br)), (qf, .inl (cI, 4, .inl fe))] s.heap := hP
                have hDc := hD0
                refine vp_callSi (va_Run.run (va_runV (As := [.int (nI pn), .int (nI b)]) (rest := []) ⟨hx, hb, hml, hown, hts⟩ (c_X0_isFallenAt l G cI cC cZ cG s.heap.size qb qp qs qr qf pr sb br fe fl pn (nI b) (by omega)) (cf_RX0_52 hts ⟨Nat.le_of_ble_eq_true rfl, Nat.le_of_ble_eq_true rfl⟩) (pre_V hK hPc hDc (ci := 0) (q0 := 0) rfl rfl) rfl rfl hl.1 rfl (lv_room (Nat.le_of_ble_eq_true rfl)) dX0_target_61 ⟨Nat.le_of_ble_eq_true rfl, Nat.le_of_ble_eq_true rfl⟩)) (fun r73 hr73 => ?_)
                subst hr73
                refine zb_eq (tgt := 72) hx hb dX0_target_64 (by decide) (fun c_74 => ?_) (fun c_74 => ?_)
                · refine lv_iload hx hb dX0_target_72 (lv_at hl 1 rfl) ?_
                  subst hQ
                  exact W.iret (v := nI b) hx hb hr (fun t ht hW => ⟨nI b, rfl, (by first | exact tg_end he (by omega) c_74 hb2 | (exfalso; omega)), ht⟩) (fun _ h => absurd h List.not_mem_nil) dX0_target_74
                · refine lv_bipush (v := (-6)) hx hb dX0_target_67 (by decide) ?_
                  refine lv_goto (tgt := 74) hx hb dX0_target_69 (by decide) ?_
                  subst hQ
                  exact W.iret (v := (-6)) hx hb hr (fun t ht hW => ⟨(-6), rfl, (by first | exact he.symm | exact (he.trans (tg_35 (by omega) hy (by omega) hb2)).symm | exact (tg_fal he (by omega) c_74).symm | (exfalso; omega)), ht⟩) (fun _ h => absurd h List.not_mem_nil) dX0_target_74
            · refine lv_iload hx hb dX0_target_19 (lv_at hl 1 rfl) ?_
              refine lv_bipush (v := 35) hx hb dX0_target_21 (by decide) ?_
              refine zi_ge (tgt := 52) hx hb b 35 dX0_target_23 (by decide) rfl rfl (by omega) (by decide) (fun c_75 => ?_) (fun c_75 => ?_)
              · refine lv_iload hx hb dX0_target_52 (lv_at hl 0 rfl) ?_
                refine z0_ne (tgt := 67) hx hb y dX0_target_54 (by decide) rfl (by omega) (fun c_76 => ?_) (fun c_76 => ?_)
                · refine lv_bipush (v := (-6)) hx hb dX0_target_67 (by decide) ?_
                  refine lv_goto (tgt := 74) hx hb dX0_target_69 (by decide) ?_
                  subst hQ
                  exact W.iret (v := (-6)) hx hb hr (fun t ht hW => ⟨(-6), rfl, (by first | exact he.symm | exact (he.trans (tg_35 (by omega) hy (by omega) hb2)).symm | exact (tg_fal he (by omega) c_76).symm | (exfalso; omega)), ht⟩) (fun _ h => absurd h List.not_mem_nil) dX0_target_74
                · refine lv_aload_n hx hb dX0_target_57 rfl (lv_at hl 2 rfl) ?_
                  refine lv_iload_n hx hb dX0_target_58 rfl (lv_at hl 3 rfl) ?_
                  refine lv_iload hx hb dX0_target_59 (lv_at hl 1 rfl) ?_
                  have hPc : va_P G vwCl [(qb, .inr (0, [.ref qp, .ref qs, .ref qr, .ref qf, .int fl])), (qp, .inl (cI, 12, .inl pr)), (qs, .inl (cI, 12, .inl sb)), (qr, .inl (cI, 4, .inl br)), (qf, .inl (cI, 4, .inl fe))] s.heap := hP
                  have hDc := hD0
                  refine vp_callSi (va_Run.run (va_runV (As := [.int (nI pn), .int (nI b)]) (rest := []) ⟨hx, hb, hml, hown, hts⟩ (c_X0_isFallenAt l G cI cC cZ cG s.heap.size qb qp qs qr qf pr sb br fe fl pn (nI b) (by omega)) (cf_RX0_52 hts ⟨Nat.le_of_ble_eq_true rfl, Nat.le_of_ble_eq_true rfl⟩) (pre_V hK hPc hDc (ci := 0) (q0 := 0) rfl rfl) rfl rfl hl.1 rfl (lv_room (Nat.le_of_ble_eq_true rfl)) dX0_target_61 ⟨Nat.le_of_ble_eq_true rfl, Nat.le_of_ble_eq_true rfl⟩)) (fun r77 hr77 => ?_)
                  subst hr77
                  refine zb_eq (tgt := 72) hx hb dX0_target_64 (by decide) (fun c_78 => ?_) (fun c_78 => ?_)
                  · refine lv_iload hx hb dX0_target_72 (lv_at hl 1 rfl) ?_
                    subst hQ
                    exact W.iret (v := nI b) hx hb hr (fun t ht hW => ⟨nI b, rfl, (by first | exact tg_end he (by omega) c_78 hb2 | (exfalso; omega)), ht⟩) (fun _ h => absurd h List.not_mem_nil) dX0_target_74
                  · refine lv_bipush (v := (-6)) hx hb dX0_target_67 (by decide) ?_
                    refine lv_goto (tgt := 74) hx hb dX0_target_69 (by decide) ?_
                    subst hQ
                    exact W.iret (v := (-6)) hx hb hr (fun t ht hW => ⟨(-6), rfl, (by first | exact he.symm | exact (he.trans (tg_35 (by omega) hy (by omega) hb2)).symm | exact (tg_fal he (by omega) c_78).symm | (exfalso; omega)), ht⟩) (fun _ h => absurd h List.not_mem_nil) dX0_target_74
              · refine lv_iinc (v := nI (b + 1)) (lv' := [(4, .int (nI (b + 1))), (5, .int (nI y)), (0, .ref qb), (1, .int (nI pn)), (2, .int (nI a)), (3, .int (nI cn))]) hx hb dX0_target_26 hl (k := 1) rfl (nI_inc b) (by decide) rfl (fun ls hl => ?_)
                refine lv_iload hx hb dX0_target_29 (lv_at hl 1 rfl) ?_
                refine lv_aload_n hx hb dX0_target_31 rfl (lv_at hl 2 rfl) ?_
                refine lv_iload_n hx hb dX0_target_32 rfl (lv_at hl 3 rfl) ?_
                refine lv_iload hx hb dX0_target_33 (lv_at hl 0 rfl) ?_
                have hPc : va_P G vwCl [(qb, .inr (0, [.ref qp, .ref qs, .ref qr, .ref qf, .int fl])), (qp, .inl (cI, 12, .inl pr)), (qs, .inl (cI, 12, .inl sb)), (qr, .inl (cI, 4, .inl br)), (qf, .inl (cI, 4, .inl fe))] s.heap := hP
                have hDc := hD0
                refine vp_callSi (va_Run.run (va_runV (As := [.int (nI pn), .int (nI (b + 1))]) (rest := [.int (nI y)]) ⟨hx, hb, hml, hown, hts⟩ (c_X0_isFallenAt l G cI cC cZ cG s.heap.size qb qp qs qr qf pr sb br fe fl pn (nI (b + 1)) (by omega)) (cf_RX0_52 hts ⟨Nat.le_of_ble_eq_true rfl, Nat.le_of_ble_eq_true rfl⟩) (pre_V hK hPc hDc (ci := 0) (q0 := 0) rfl rfl) rfl rfl hl.1 rfl (lv_room (Nat.le_of_ble_eq_true rfl)) dX0_target_35 ⟨Nat.le_of_ble_eq_true rfl, Nat.le_of_ble_eq_true rfl⟩)) (fun r79 hr79 => ?_)
                subst hr79
                refine zb_eq (tgt := 45) hx hb dX0_target_38 (by decide) (fun c_80 => ?_) (fun c_80 => ?_)
                · refine lv_iconst (v := 1) hx hb dX0_target_45 (by decide) ?_
                  refine lv_isub hx hb dX0_target_46 ?_
                  refine lv_istore (lv' := [(5, .int ((nI y) - 1)), (4, .int (nI (b + 1))), (0, .ref qb), (1, .int (nI pn)), (2, .int (nI a)), (3, .int (nI cn))]) hx hb dX0_target_47 hl (by decide) rfl (fun ls hl => ?_)
                  refine lv_goto (tgt := 14) hx hb dX0_target_49 (by decide) ?_
                  exact ih1 (b + 1) ((nI y) - 1) (by omega) (tgH_s c_71 hy he c_80) (by omega) _ (lv_sub hl [0, 1, 2, 3, 4, 5] rfl)
                · refine lv_iconst (v := 2) hx hb dX0_target_41 (by decide) ?_
                  refine lv_goto (tgt := 46) hx hb dX0_target_42 (by decide) ?_
                  refine lv_isub hx hb dX0_target_46 ?_
                  refine lv_istore (lv' := [(5, .int ((nI y) - 2)), (4, .int (nI (b + 1))), (0, .ref qb), (1, .int (nI pn)), (2, .int (nI a)), (3, .int (nI cn))]) hx hb dX0_target_47 hl (by decide) rfl (fun ls hl => ?_)
                  refine lv_goto (tgt := 14) hx hb dX0_target_49 (by decide) ?_
                  exact ih1 (b + 1) ((nI y) - 2) (by omega) (tgH_f c_71 hy he c_80) (by omega) _ (lv_sub hl [0, 1, 2, 3, 4, 5] rfl)
          · refine lv_iload hx hb dX0_target_14 (lv_at hl 0 rfl) ?_
            refine lv_if_le (tgt := 52) hx hb dX0_target_16 (by decide) (fun c_81 => ?_) (fun c_81 => ?_)
            · refine lv_iload hx hb dX0_target_52 (lv_at hl 0 rfl) ?_
              refine lv_if_ne (tgt := 67) hx hb dX0_target_54 (by decide) (fun c_82 => ?_) (fun c_82 => ?_)
              · refine lv_bipush (v := (-6)) hx hb dX0_target_67 (by decide) ?_
                refine lv_goto (tgt := 74) hx hb dX0_target_69 (by decide) ?_
                subst hQ
                exact W.iret (v := (-6)) hx hb hr (fun t ht hW => ⟨(-6), rfl, (by first | exact he.symm | exact (he.trans (tg_35 (by omega) hy (by omega) hb2)).symm | exact (tg_fal he (by omega) c_82).symm | (exfalso; omega)), ht⟩) (fun _ h => absurd h List.not_mem_nil) dX0_target_74
              · exact absurd c_82 (by decide)
            · exact absurd c_81 (by decide)
      exact L1 36 a (nI cn) ha (tgH_0 hc ha) (by omega) _ (lv_sub hl [0, 1, 2, 3, 4, 5] rfl)
    · exact absurd c_69 (nI_neg (by omega) (by decide))

abbrev rm_X0_isBlockedOnWay : Room := { frames := 2, cells := 0, slots := 0, locals := 46 }
set_option maxHeartbeats 1000000 in
set_option maxRecDepth 100000 in
theorem c_X0_isBlockedOnWay (l : Launch) (G : va_G) (cI cC cZ cG : ClassId) (sz : Nat) (qb qp qs qr qf : Nat) (pr sb br fe : IA) (fl : Int32) (pn : Nat) (v : Int32) (tn : Nat) (hp : pn < 4) (hv : okv v) (ht2 : tn ≤ 35) (hf0 : fst0 v ≤ tn + 1) : Met l yX0_isBlockedOnWay (.code yX0_isBlockedOnWay cX0_isBlockedOnWay 6 (some .boolean) :: wsL_law) rm_X0_isBlockedOnWay (va_Pc [.ref qb, .int (nI pn), .int v, .int (nI tn)] (bw G cI cC cZ cG false sz [(qb, .inr (0, [.ref qp, .ref qs, .ref qr, .ref qf, .int fl])), (qp, .inl (cI, 12, .inl pr)), (qs, .inl (cI, 12, .inl sb)), (qr, .inl (cI, 4, .inl br)), (qf, .inl (cI, 4, .inl fe))])) (vp_Si (fun r => r = bz (blQ pr pn v tn = true))) 0 0 (fun _ => False) := by
  refine met_bw rfl (Nat.le_of_ble_eq_true rfl) ?_
  intro p e s m below meth c ls hx hb hr hml hown hts hlocks hin hsz hP hK hD0 hX0 hl
  have hown : s.vm.findClass RX0 = some m.cls := hown
  have hl : lv_has ls 6 [(0, .ref qb), (1, .int (nI pn)), (2, .int v), (3, .int (nI tn))] := hl
  generalize hQ : MQ below (vp_Si (fun r => r = bz (blQ pr pn v tn = true))) ([.ref qb, .int (nI pn), .int v, .int (nI tn)] : List Value).toArray s 0 0 (fun _ => False) = Q
  generalize hag : ([.ref qb, .int (nI pn), .int v, .int (nI tn)] : List Value).toArray = ag at hts hQ ⊢
  rcases hv with rfl | ⟨a, ha, rfl⟩
  · refine lv_iload_n hx hb dX0_isBlockedOnWay_0 rfl (lv_at hl 2 rfl) ?_
    refine lv_bipush (v := (-6)) hx hb dX0_isBlockedOnWay_1 (by decide) ?_
    refine lv_icmp_ne (tgt := 10) hx hb dX0_isBlockedOnWay_3 (by decide) (fun c_83 => ?_) (fun c_83 => ?_)
    · exact absurd c_83 (by decide)
    · refine lv_iconst (v := 0) hx hb dX0_isBlockedOnWay_6 (by decide) ?_
      refine lv_goto (tgt := 13) hx hb dX0_isBlockedOnWay_7 (by decide) ?_
      refine lv_istore (lv' := [(4, .int 0), (0, .ref qb), (1, .int (nI pn)), (2, .int (-6)), (3, .int (nI tn))]) hx hb dX0_isBlockedOnWay_13 hl (by decide) rfl (fun ls hl => ?_)
      refine lv_iload hx hb dX0_isBlockedOnWay_15 (lv_at hl 0 rfl) ?_
      refine lv_istore (lv' := [(5, .int 0), (4, .int 0), (0, .ref qb), (1, .int (nI pn)), (2, .int (-6)), (3, .int (nI tn))]) hx hb dX0_isBlockedOnWay_17 hl (by decide) rfl (fun ls hl => ?_)
      have L1 : ∀ (n : Nat), ∀ (i : Nat), ∀ (hi : i ≤ tn + 1), ∀ (hf : blQ pr pn (-6) tn = anyp (blP pr pn) i (tn + 1 - i)), ∀ (hn : tn + 2 ≤ i + n), ∀ (ls : Array Slot), lv_has ls 6 [(5, .int (nI i)), (4, .int 0), (0, .ref qb), (1, .int (nI pn)), (2, .int (-6)), (3, .int (nI tn))] → W p l e rm_X0_isBlockedOnWay s m ag below meth c s.heap [] 0 0 Q (F0 m 19 ls []) := by
        intro n
        induction n with
        | zero =>
          intro i hi hf hn ls hl
          omega
        | succ n ih1 =>
          intro i hi hf hn ls hl
          have he : i ≤ tn → tn + 1 - i = (tn + 1 - (i + 1)) + 1 := fun h => by omega
          refine lv_iload hx hb dX0_isBlockedOnWay_19 (lv_at hl 0 rfl) ?_
          refine lv_iload_n hx hb dX0_isBlockedOnWay_21 rfl (lv_at hl 5 rfl) ?_
          refine zi_gt (tgt := 44) hx hb i tn dX0_isBlockedOnWay_22 (by decide) rfl rfl (by omega) (by omega) (fun c_85 => ?_) (fun c_85 => ?_)
          · refine lv_iconst (v := 0) hx hb dX0_isBlockedOnWay_44 (by decide) ?_
            subst hQ
            exact W.zret (v := 0) hx hb hr rfl (fun t ht hW => ⟨0, rfl, bz_f (by rw [hf, show tn + 1 - i = 0 by omega]; simp [anyp]), ht⟩) (fun _ h => absurd h List.not_mem_nil) dX0_isBlockedOnWay_45
          · refine lv_aload_n hx hb dX0_isBlockedOnWay_25 rfl (lv_at hl 2 rfl) ?_
            refine lv_iload_n hx hb dX0_isBlockedOnWay_26 rfl (lv_at hl 3 rfl) ?_
            refine lv_iload hx hb dX0_isBlockedOnWay_27 (lv_at hl 0 rfl) ?_
            have hPc : va_P G vwCl [(qb, .inr (0, [.ref qp, .ref qs, .ref qr, .ref qf, .int fl])), (qp, .inl (cI, 12, .inl pr)), (qs, .inl (cI, 12, .inl sb)), (qr, .inl (cI, 4, .inl br)), (qf, .inl (cI, 4, .inl fe))] s.heap := hP
            have hDc := hD0
            refine vp_callSi (va_Run.run (va_runV (As := [.int (nI pn), .int (nI i)]) (rest := []) ⟨hx, hb, hml, hown, hts⟩ (c_X0_rivalsAt l G cI cC cZ cG s.heap.size qb qp qs qr qf pr sb br fe fl pn (nI i) (by omega)) (cf_RX0_45 hts ⟨Nat.le_of_ble_eq_true rfl, Nat.le_of_ble_eq_true rfl⟩) (pre_V hK hPc hDc (ci := 0) (q0 := 0) rfl rfl) rfl rfl hl.1 rfl (lv_room (Nat.le_of_ble_eq_true rfl)) dX0_isBlockedOnWay_29 ⟨Nat.le_of_ble_eq_true rfl, Nat.le_of_ble_eq_true rfl⟩)) (fun r86 hr86 => ?_)
            subst hr86
            have hf87 := (show rv pr pn (nI i) ≤ 12 from cnt_le (rvP pr pn (rf pn (nI i))) 12)
            refine lv_iconst (v := 2) hx hb dX0_isBlockedOnWay_32 (by decide) ?_
            refine zi_lt (tgt := 38) hx hb (rv pr pn (nI i)) 2 dX0_isBlockedOnWay_33 (by decide) rfl rfl (by omega) (by decide) (fun c_88 => ?_) (fun c_88 => ?_)
            · refine lv_iinc (v := nI (i + 1)) (lv' := [(5, .int (nI (i + 1))), (4, .int 0), (0, .ref qb), (1, .int (nI pn)), (2, .int (-6)), (3, .int (nI tn))]) hx hb dX0_isBlockedOnWay_38 hl (k := 0) rfl (nI_inc i) (by decide) rfl (fun ls hl => ?_)
              refine lv_goto (tgt := 19) hx hb dX0_isBlockedOnWay_41 (by decide) ?_
              exact ih1 (i + 1) (by omega) (by rw [hf, he c_85]; simp [anyp, blP, Nat.not_le.mpr c_88]) (by omega) _ (lv_sub hl [0, 1, 2, 3, 4, 5] rfl)
            · refine lv_iconst (v := 1) hx hb dX0_isBlockedOnWay_36 (by decide) ?_
              subst hQ
              exact W.zret (v := 1) hx hb hr rfl (fun t ht hW => ⟨1, rfl, bz_t (by rw [hf, he c_85]; simp [anyp, blP, c_88]), ht⟩) (fun _ h => absurd h List.not_mem_nil) dX0_isBlockedOnWay_37
      exact L1 (tn + 2) 0 (by first | omega | (rw [fst_n (by omega)] at hf0; exact hf0)) (by first | rfl | rw [blQ, fst_n (by omega)]) (by omega) _ (lv_sub hl [0, 1, 2, 3, 4, 5] rfl)
  · refine lv_iload_n hx hb dX0_isBlockedOnWay_0 rfl (lv_at hl 2 rfl) ?_
    refine lv_bipush (v := (-6)) hx hb dX0_isBlockedOnWay_1 (by decide) ?_
    refine lv_icmp_ne (tgt := 10) hx hb dX0_isBlockedOnWay_3 (by decide) (fun c_89 => ?_) (fun c_89 => ?_)
    · refine lv_iload_n hx hb dX0_isBlockedOnWay_10 rfl (lv_at hl 2 rfl) ?_
      refine lv_iconst (v := 1) hx hb dX0_isBlockedOnWay_11 (by decide) ?_
      refine zi_add hx hb a 1 dX0_isBlockedOnWay_12 rfl rfl ?_
      refine lv_istore (lv' := [(4, .int (nI (a + 1))), (0, .ref qb), (1, .int (nI pn)), (2, .int (nI a)), (3, .int (nI tn))]) hx hb dX0_isBlockedOnWay_13 hl (by decide) rfl (fun ls hl => ?_)
      refine lv_iload hx hb dX0_isBlockedOnWay_15 (lv_at hl 0 rfl) ?_
      refine lv_istore (lv' := [(5, .int (nI (a + 1))), (4, .int (nI (a + 1))), (0, .ref qb), (1, .int (nI pn)), (2, .int (nI a)), (3, .int (nI tn))]) hx hb dX0_isBlockedOnWay_17 hl (by decide) rfl (fun ls hl => ?_)
      have L2 : ∀ (n : Nat), ∀ (i : Nat), ∀ (hi : i ≤ tn + 1), ∀ (hf : blQ pr pn (nI a) tn = anyp (blP pr pn) i (tn + 1 - i)), ∀ (hn : tn + 2 ≤ i + n), ∀ (ls : Array Slot), lv_has ls 6 [(5, .int (nI i)), (4, .int (nI (a + 1))), (0, .ref qb), (1, .int (nI pn)), (2, .int (nI a)), (3, .int (nI tn))] → W p l e rm_X0_isBlockedOnWay s m ag below meth c s.heap [] 0 0 Q (F0 m 19 ls []) := by
        intro n
        induction n with
        | zero =>
          intro i hi hf hn ls hl
          omega
        | succ n ih2 =>
          intro i hi hf hn ls hl
          have he : i ≤ tn → tn + 1 - i = (tn + 1 - (i + 1)) + 1 := fun h => by omega
          refine lv_iload hx hb dX0_isBlockedOnWay_19 (lv_at hl 0 rfl) ?_
          refine lv_iload_n hx hb dX0_isBlockedOnWay_21 rfl (lv_at hl 5 rfl) ?_
          refine zi_gt (tgt := 44) hx hb i tn dX0_isBlockedOnWay_22 (by decide) rfl rfl (by omega) (by omega) (fun c_91 => ?_) (fun c_91 => ?_)
          · refine lv_iconst (v := 0) hx hb dX0_isBlockedOnWay_44 (by decide) ?_
            subst hQ
            exact W.zret (v := 0) hx hb hr rfl (fun t ht hW => ⟨0, rfl, bz_f (by rw [hf, show tn + 1 - i = 0 by omega]; simp [anyp]), ht⟩) (fun _ h => absurd h List.not_mem_nil) dX0_isBlockedOnWay_45
          · refine lv_aload_n hx hb dX0_isBlockedOnWay_25 rfl (lv_at hl 2 rfl) ?_
            refine lv_iload_n hx hb dX0_isBlockedOnWay_26 rfl (lv_at hl 3 rfl) ?_
            refine lv_iload hx hb dX0_isBlockedOnWay_27 (lv_at hl 0 rfl) ?_
            have hPc : va_P G vwCl [(qb, .inr (0, [.ref qp, .ref qs, .ref qr, .ref qf, .int fl])), (qp, .inl (cI, 12, .inl pr)), (qs, .inl (cI, 12, .inl sb)), (qr, .inl (cI, 4, .inl br)), (qf, .inl (cI, 4, .inl fe))] s.heap := hP
            have hDc := hD0
            refine vp_callSi (va_Run.run (va_runV (As := [.int (nI pn), .int (nI i)]) (rest := []) ⟨hx, hb, hml, hown, hts⟩ (c_X0_rivalsAt l G cI cC cZ cG s.heap.size qb qp qs qr qf pr sb br fe fl pn (nI i) (by omega)) (cf_RX0_45 hts ⟨Nat.le_of_ble_eq_true rfl, Nat.le_of_ble_eq_true rfl⟩) (pre_V hK hPc hDc (ci := 0) (q0 := 0) rfl rfl) rfl rfl hl.1 rfl (lv_room (Nat.le_of_ble_eq_true rfl)) dX0_isBlockedOnWay_29 ⟨Nat.le_of_ble_eq_true rfl, Nat.le_of_ble_eq_true rfl⟩)) (fun r92 hr92 => ?_)
            subst hr92
            have hf93 := (show rv pr pn (nI i) ≤ 12 from cnt_le (rvP pr pn (rf pn (nI i))) 12)
            refine lv_iconst (v := 2) hx hb dX0_isBlockedOnWay_32 (by decide) ?_
            refine zi_lt (tgt := 38) hx hb (rv pr pn (nI i)) 2 dX0_isBlockedOnWay_33 (by decide) rfl rfl (by omega) (by decide) (fun c_94 => ?_) (fun c_94 => ?_)
            · refine lv_iinc (v := nI (i + 1)) (lv' := [(5, .int (nI (i + 1))), (4, .int (nI (a + 1))), (0, .ref qb), (1, .int (nI pn)), (2, .int (nI a)), (3, .int (nI tn))]) hx hb dX0_isBlockedOnWay_38 hl (k := 0) rfl (nI_inc i) (by decide) rfl (fun ls hl => ?_)
              refine lv_goto (tgt := 19) hx hb dX0_isBlockedOnWay_41 (by decide) ?_
              exact ih2 (i + 1) (by omega) (by rw [hf, he c_91]; simp [anyp, blP, Nat.not_le.mpr c_94]) (by omega) _ (lv_sub hl [0, 1, 2, 3, 4, 5] rfl)
            · refine lv_iconst (v := 1) hx hb dX0_isBlockedOnWay_36 (by decide) ?_
              subst hQ
              exact W.zret (v := 1) hx hb hr rfl (fun t ht hW => ⟨1, rfl, bz_t (by rw [hf, he c_91]; simp [anyp, blP, c_94]), ht⟩) (fun _ h => absurd h List.not_mem_nil) dX0_isBlockedOnWay_37
      exact L2 (tn + 2) (a + 1) (by first | omega | (rw [fst_n (by omega)] at hf0; exact hf0)) (by first | rfl | rw [blQ, fst_n (by omega)]) (by omega) _ (lv_sub hl [0, 1, 2, 3, 4, 5] rfl)
    · exact absurd c_89 (nI_neg (by omega) (by decide))

abbrev rm_X0_sendRivalsBack : Room := { frames := 1, cells := 0, slots := 0, locals := 21 }
set_option maxHeartbeats 1000000 in
set_option maxRecDepth 100000 in
theorem c_X0_sendRivalsBack (l : Launch) (G : va_G) (cI cC cZ cG : ClassId) (sz : Nat) (qb qp qs qr qf : Nat) (pr sb br fe : IA) (fl : Int32) (pn : Nat) (v : Int32) (hp : pn < 4) : Met l yX0_sendRivalsBack (.code yX0_sendRivalsBack cX0_sendRivalsBack 5 none :: wsL_law) rm_X0_sendRivalsBack (va_Pc [.ref qb, .int (nI pn), .int v] (bw G cI cC cZ cG false sz [(qb, .inr (0, [.ref qp, .ref qs, .ref qr, .ref qf, .int fl])), (qp, .inl (cI, 12, .inl pr)), (qs, .inl (cI, 12, .inl sb)), (qr, .inl (cI, 4, .inl br)), (qf, .inl (cI, 4, .inl fe))])) (va_Qv (fun (u : IA × IA) => u = srb pr sb pn (rf pn v) 12) (fun (u : IA × IA) t => va_P G vwCl [(qb, .inr (0, [.ref qp, .ref qs, .ref qr, .ref qf, .int fl])), (qp, .inl (cI, 12, .inl u.1)), (qs, .inl (cI, 12, .inl u.2)), (qr, .inl (cI, 4, .inl br)), (qf, .inl (cI, 4, .inl fe))] t.heap ∧ va_D (va_A [(qb, .inr (0, [.ref qp, .ref qs, .ref qr, .ref qf, .int fl])), (qp, .inl (cI, 12, .inl pr)), (qs, .inl (cI, 12, .inl sb)), (qr, .inl (cI, 4, .inl br)), (qf, .inl (cI, 4, .inl fe))] sz) [(qb, .inr (0, [.ref qp, .ref qs, .ref qr, .ref qf, .int fl])), (qp, .inl (cI, 12, .inl u.1)), (qs, .inl (cI, 12, .inl u.2)), (qr, .inl (cI, 4, .inl br)), (qf, .inl (cI, 4, .inl fe))]) (va_A [(qb, .inr (0, [.ref qp, .ref qs, .ref qr, .ref qf, .int fl])), (qp, .inl (cI, 12, .inl pr)), (qs, .inl (cI, 12, .inl sb)), (qr, .inl (cI, 4, .inl br)), (qf, .inl (cI, 4, .inl fe))] sz)) 0 0 (va_A [(qb, .inr (0, [.ref qp, .ref qs, .ref qr, .ref qf, .int fl])), (qp, .inl (cI, 12, .inl pr)), (qs, .inl (cI, 12, .inl sb)), (qr, .inl (cI, 4, .inl br)), (qf, .inl (cI, 4, .inl fe))] sz) := by
  refine met_bw rfl (Nat.le_of_ble_eq_true rfl) ?_
  intro p e s m below meth c ls hx hb hr hml hown hts hlocks hin hsz hP hK hD0 hX0 hl
  have hown : s.vm.findClass RX0 = some m.cls := hown
  have hl : lv_has ls 5 [(0, .ref qb), (1, .int (nI pn)), (2, .int v)] := hl
  subst hsz
  have hD := hD0.self (sz := s.heap.size)
  generalize hAe : va_A [(qb, .inr (0, [.ref qp, .ref qs, .ref qr, .ref qf, .int fl])), (qp, .inl (cI, 12, .inl pr)), (qs, .inl (cI, 12, .inl sb)), (qr, .inl (cI, 4, .inl br)), (qf, .inl (cI, 4, .inl fe))] s.heap.size = A at hD ⊢
  have hA : ∀ q : Nat, s.heap.size ≤ q → A q := fun q h => by rw [← hAe]; exact Or.inr h
  have hS : va_S A s.heap s.heap [] := va_S.rf
  generalize hQ : MQ below (va_Qv (fun (u : IA × IA) => u = srb pr sb pn (rf pn v) 12) (fun (u : IA × IA) t => va_P G vwCl [(qb, .inr (0, [.ref qp, .ref qs, .ref qr, .ref qf, .int fl])), (qp, .inl (cI, 12, .inl u.1)), (qs, .inl (cI, 12, .inl u.2)), (qr, .inl (cI, 4, .inl br)), (qf, .inl (cI, 4, .inl fe))] t.heap ∧ va_D A [(qb, .inr (0, [.ref qp, .ref qs, .ref qr, .ref qf, .int fl])), (qp, .inl (cI, 12, .inl u.1)), (qs, .inl (cI, 12, .inl u.2)), (qr, .inl (cI, 4, .inl br)), (qf, .inl (cI, 4, .inl fe))]) A) ([.ref qb, .int (nI pn), .int v] : List Value).toArray s 0 0 A = Q
  generalize hag : ([.ref qb, .int (nI pn), .int v] : List Value).toArray = ag at hts hQ ⊢
  refine lv_iload_n hx hb dX0_sendRivalsBack_0 rfl (lv_at hl 1 rfl) ?_
  refine lv_iload_n hx hb dX0_sendRivalsBack_1 rfl (lv_at hl 2 rfl) ?_
  refine vp_callSi (va_Run.run (va_runSN (As := [.int (nI pn), .int v]) (rest := []) ⟨hx, hb, hml, hown, hts⟩ (c_X5_ringField l pn v (by omega)) (cf_RX0_34 hts hK.2 ⟨Nat.le_of_ble_eq_true rfl, Nat.le_of_ble_eq_true rfl⟩) pre_P rfl rfl hl.1 rfl (lv_room (Nat.le_of_ble_eq_true rfl)) dX0_sendRivalsBack_2 ⟨Nat.le_of_ble_eq_true rfl, Nat.le_of_ble_eq_true rfl⟩)) (fun r95 hr95 => ?_)
  subst hr95
  refine lv_istore_n (lv' := [(3, .int (rf pn v)), (0, .ref qb), (1, .int (nI pn)), (2, .int v)]) hx hb dX0_sendRivalsBack_5 rfl hl (by decide) rfl (fun ls hl => ?_)
  refine lv_iconst (v := 0) hx hb dX0_sendRivalsBack_6 (by decide) ?_
  refine lv_istore (lv' := [(4, .int 0), (3, .int (rf pn v)), (0, .ref qb), (1, .int (nI pn)), (2, .int v)]) hx hb dX0_sendRivalsBack_7 hl (by decide) rfl (fun ls hl => ?_)
  have L1 : ∀ (n : Nat), ∀ (i : Nat), ∀ (a : IA), ∀ (b : IA), ∀ (hi : i ≤ 12), ∀ (hf : (a, b) = srb pr sb pn (rf pn v) i), ∀ (hn : 13 ≤ i + n), ∀ (H96 : Heap) (locs96 : List Loc), va_P G vwCl [(qb, .inr (0, [.ref qp, .ref qs, .ref qr, .ref qf, .int fl])), (qp, .inl (cI, 12, .inl a)), (qs, .inl (cI, 12, .inl b)), (qr, .inl (cI, 4, .inl br)), (qf, .inl (cI, 4, .inl fe))] H96 → va_D A [(qb, .inr (0, [.ref qp, .ref qs, .ref qr, .ref qf, .int fl])), (qp, .inl (cI, 12, .inl a)), (qs, .inl (cI, 12, .inl b)), (qr, .inl (cI, 4, .inl br)), (qf, .inl (cI, 4, .inl fe))] → va_S A s.heap H96 locs96 → ∀ (ls : Array Slot), lv_has ls 5 [(4, .int (nI i)), (3, .int (rf pn v)), (0, .ref qb), (1, .int (nI pn)), (2, .int v)] → W p l e rm_X0_sendRivalsBack s m ag below meth c H96 locs96 0 0 Q (F0 m 9 ls []) := by
    intro n
    induction n with
    | zero =>
      intro i a b hi hf hn H96 locs96 hP hD hS ls hl
      omega
    | succ n ih1 =>
      intro i a b hi hf hn H96 locs96 hP hD hS ls hl
      refine lv_iload hx hb dX0_sendRivalsBack_9 (lv_at hl 0 rfl) ?_
      refine lv_bipush (v := 12) hx hb dX0_sendRivalsBack_11 (by decide) ?_
      refine zi_ge (tgt := 74) hx hb i 12 dX0_sendRivalsBack_13 (by decide) rfl rfl (by omega) (by decide) (fun c_97 => ?_) (fun c_97 => ?_)
      · subst hQ
        exact W.vret hx hb hr (fun t ht hW => ⟨⟨(a, b), rfl, by rw [hf, show i = 12 by omega], by rw [ht]; exact hP, hD⟩, hS.F ht⟩) hS.2.2 dX0_sendRivalsBack_74
      · refine lv_iload_n hx hb dX0_sendRivalsBack_16 rfl (lv_at hl 1 rfl) ?_
        refine lv_bipush (v := (-6)) hx hb dX0_sendRivalsBack_17 (by decide) ?_
        refine lv_icmp_eq (tgt := 74) hx hb dX0_sendRivalsBack_19 (by decide) (fun c_98 => ?_) (fun c_98 => ?_)
        · subst hQ
          exact W.vret hx hb hr (fun t ht hW => ⟨⟨(a, b), rfl, by rw [hf, srb_no c_98, srb_no c_98], by rw [ht]; exact hP, hD⟩, hS.F ht⟩) hS.2.2 dX0_sendRivalsBack_74
        · refine lv_iload hx hb dX0_sendRivalsBack_22 (lv_at hl 0 rfl) ?_
          refine lv_iconst (v := 3) hx hb dX0_sendRivalsBack_24 (by decide) ?_
          refine zi_div hx hb i 3 dX0_sendRivalsBack_25 rfl rfl (by omega) (by decide) (by decide) ?_
          refine lv_iload_n hx hb dX0_sendRivalsBack_26 rfl (lv_at hl 3 rfl) ?_
          refine zi_eq (tgt := 68) hx hb (i / 3) pn dX0_sendRivalsBack_27 (by decide) rfl rfl (by omega) (by omega) (fun c_99 => ?_) (fun c_99 => ?_)
          · refine lv_iinc (v := nI (i + 1)) (lv' := [(4, .int (nI (i + 1))), (3, .int (rf pn v)), (0, .ref qb), (1, .int (nI pn)), (2, .int v)]) hx hb dX0_sendRivalsBack_68 hl (k := 0) rfl (nI_inc i) (by decide) rfl (fun ls hl => ?_)
            refine lv_goto (tgt := 9) hx hb dX0_sendRivalsBack_71 (by decide) ?_
            exact ih1 (i + 1) a b (by omega) (by rw [srb, ← hf, if_neg (by simp [rvP, c_97, c_98, c_99])]) (by omega) H96 locs96 hP hD hS _ (lv_sub hl [0, 1, 2, 3, 4] rfl)
          · refine lv_iload hx hb dX0_sendRivalsBack_30 (lv_at hl 0 rfl) ?_
            refine lv_iconst (v := 3) hx hb dX0_sendRivalsBack_32 (by decide) ?_
            refine zi_div hx hb i 3 dX0_sendRivalsBack_33 rfl rfl (by omega) (by decide) (by decide) ?_
            refine lv_aload_n hx hb dX0_sendRivalsBack_34 rfl (lv_at hl 2 rfl) ?_
            refine va_get (D := G) (ci := 0) (v := .ref qp) (C := RX0) (T := TX0) (N := 5) hx hb hts inlX0 hown hK.1 hP 0 rfl rfl 0 (by decide) (hts _ wd48) (fun _ h9 => h9) rfl dX0_sendRivalsBack_35 ?_
            refine lv_iload hx hb dX0_sendRivalsBack_38 (lv_at hl 0 rfl) ?_
            refine za_ld hx hb hK.1 hP 1 0 rfl rfl i rfl (by omega) (by decide) dX0_sendRivalsBack_40 ?_
            refine vp_callSi (va_Run.run (va_runSN (As := [.int (nI (i / 3)), .int (a i)]) (rest := []) ⟨hx, hb, hml, hown, hts⟩ (c_X5_ringField l (i / 3) (a i) (by omega)) (cf_RX0_34 hts hK.2 ⟨Nat.le_of_ble_eq_true rfl, Nat.le_of_ble_eq_true rfl⟩) pre_P rfl rfl hl.1 rfl (lv_room (Nat.le_of_ble_eq_true rfl)) dX0_sendRivalsBack_41 ⟨Nat.le_of_ble_eq_true rfl, Nat.le_of_ble_eq_true rfl⟩)) (fun r100 hr100 => ?_)
            subst hr100
            refine lv_iload_n hx hb dX0_sendRivalsBack_44 rfl (lv_at hl 1 rfl) ?_
            refine lv_icmp_ne (tgt := 68) hx hb dX0_sendRivalsBack_45 (by decide) (fun c_101 => ?_) (fun c_101 => ?_)
            · refine lv_iinc (v := nI (i + 1)) (lv' := [(4, .int (nI (i + 1))), (3, .int (rf pn v)), (0, .ref qb), (1, .int (nI pn)), (2, .int v)]) hx hb dX0_sendRivalsBack_68 hl (k := 0) rfl (nI_inc i) (by decide) rfl (fun ls hl => ?_)
              refine lv_goto (tgt := 9) hx hb dX0_sendRivalsBack_71 (by decide) ?_
              exact ih1 (i + 1) a b (by omega) (by rw [srb, ← hf, if_neg (by simp [rvP, c_97, c_98, c_99, c_101])]) (by omega) H96 locs96 hP hD hS _ (lv_sub hl [0, 1, 2, 3, 4] rfl)
            · refine lv_aload_n hx hb dX0_sendRivalsBack_48 rfl (lv_at hl 2 rfl) ?_
              refine va_get (D := G) (ci := 0) (v := .ref qp) (C := RX0) (T := TX0) (N := 5) hx hb hts inlX0 hown hK.1 hP 0 rfl rfl 0 (by decide) (hts _ wd48) (fun _ h9 => h9) rfl dX0_sendRivalsBack_49 ?_
              refine lv_iload hx hb dX0_sendRivalsBack_52 (lv_at hl 0 rfl) ?_
              refine lv_bipush (v := (-6)) hx hb dX0_sendRivalsBack_54 (by decide) ?_
              refine za_st hx hb hK.1 hP hD hS 1 0 rfl rfl i rfl (by omega) (by decide) dX0_sendRivalsBack_56 (fun H102 locs102 hP hD hS => ?_)
              have hP : va_P G vwCl [(qb, .inr (0, [.ref qp, .ref qs, .ref qr, .ref qf, .int fl])), (qp, .inl (cI, 12, .inl (upd a i (-6)))), (qs, .inl (cI, 12, .inl b)), (qr, .inl (cI, 4, .inl br)), (qf, .inl (cI, 4, .inl fe))] H102 := hP
              have hD : va_D A [(qb, .inr (0, [.ref qp, .ref qs, .ref qr, .ref qf, .int fl])), (qp, .inl (cI, 12, .inl (upd a i (-6)))), (qs, .inl (cI, 12, .inl b)), (qr, .inl (cI, 4, .inl br)), (qf, .inl (cI, 4, .inl fe))] := hD
              refine lv_aload_n hx hb dX0_sendRivalsBack_57 rfl (lv_at hl 2 rfl) ?_
              refine va_get (D := G) (ci := 0) (v := .ref qs) (C := RX0) (T := TX0) (N := 5) hx hb hts inlX0 hown hK.1 hP 0 rfl rfl 1 (by decide) (hts _ wd49) (fun _ h9 => h9) rfl dX0_sendRivalsBack_58 ?_
              refine lv_iload hx hb dX0_sendRivalsBack_61 (lv_at hl 0 rfl) ?_
              refine lv_dup2_11 hx hb dX0_sendRivalsBack_63 rfl rfl ?_
              refine za_ld hx hb hK.1 hP 2 0 rfl rfl i rfl (by omega) (by decide) dX0_sendRivalsBack_64 ?_
              refine lv_iconst (v := 1) hx hb dX0_sendRivalsBack_65 (by decide) ?_
              refine lv_iadd hx hb dX0_sendRivalsBack_66 ?_
              refine za_st hx hb hK.1 hP hD hS 2 0 rfl rfl i rfl (by omega) (by decide) dX0_sendRivalsBack_67 (fun H103 locs103 hP hD hS => ?_)
              have hP : va_P G vwCl [(qb, .inr (0, [.ref qp, .ref qs, .ref qr, .ref qf, .int fl])), (qp, .inl (cI, 12, .inl (upd a i (-6)))), (qs, .inl (cI, 12, .inl (upd b i ((b i) + 1)))), (qr, .inl (cI, 4, .inl br)), (qf, .inl (cI, 4, .inl fe))] H103 := hP
              have hD : va_D A [(qb, .inr (0, [.ref qp, .ref qs, .ref qr, .ref qf, .int fl])), (qp, .inl (cI, 12, .inl (upd a i (-6)))), (qs, .inl (cI, 12, .inl (upd b i ((b i) + 1)))), (qr, .inl (cI, 4, .inl br)), (qf, .inl (cI, 4, .inl fe))] := hD
              refine lv_iinc (v := nI (i + 1)) (lv' := [(4, .int (nI (i + 1))), (3, .int (rf pn v)), (0, .ref qb), (1, .int (nI pn)), (2, .int v)]) hx hb dX0_sendRivalsBack_68 hl (k := 0) rfl (nI_inc i) (by decide) rfl (fun ls hl => ?_)
              refine lv_goto (tgt := 9) hx hb dX0_sendRivalsBack_71 (by decide) ?_
              exact ih1 (i + 1) (upd a i (-6)) (upd b i ((b i) + 1)) (by omega) (by rw [srb, ← hf, if_pos (by simp [rvP, c_97, c_98, c_99, c_101])]) (by omega) H103 locs103 hP hD hS _ (lv_sub hl [0, 1, 2, 3, 4] rfl)
  exact L1 13 0 pr sb (by decide) rfl (by decide) s.heap [] hP hD hS _ (lv_sub hl [0, 1, 2, 3, 4] rfl)

abbrev rm_X0_strainAndFall : Room := { frames := 2, cells := 0, slots := 0, locals := 44 }
theorem cf_RX0_66 {R : Room} {s : State} {args : Array Value} (ht : ∀ w ∈ wsL_law, w.before args s = true) (hR : rm_X0_piecesOn.frames + 1 ≤ R.frames ∧ 8 + (4 + 11) + rm_X0_piecesOn.locals ≤ R.locals) : CallW R s args RX0 RX0 66 yX0_piecesOn cX0_piecesOn 4 (some .int) (.code yX0_piecesOn cX0_piecesOn 4 (some .int) :: wsL_law) rm_X0_piecesOn 0 0 1 := ⟨cw_B 1 ht wd311 wd33 wd107 (by decide +kernel) rfl rfl hR, ht _ wd105, ht _ wd106⟩
set_option maxHeartbeats 1000000 in
set_option maxRecDepth 100000 in
theorem c_X0_strainAndFall (l : Launch) (G : va_G) (cI cC cZ cG : ClassId) (sz : Nat) (qb qp qs qr qf : Nat) (pr sb br fe : IA) (fl : Int32) (tu : Int32) : Met l yX0_strainAndFall (.code yX0_strainAndFall cX0_strainAndFall 4 none :: wsL_law) rm_X0_strainAndFall (va_Pc [.ref qb, .int tu] (bw G cI cC cZ cG false sz [(qb, .inr (0, [.ref qp, .ref qs, .ref qr, .ref qf, .int fl])), (qp, .inl (cI, 12, .inl pr)), (qs, .inl (cI, 12, .inl sb)), (qr, .inl (cI, 4, .inl br)), (qf, .inl (cI, 4, .inl fe))])) (va_Qv (fun (u : IA × IA × Int32) => u = sf pr tu br fe fl 4) (fun (u : IA × IA × Int32) t => va_P G vwCl [(qb, .inr (0, [.ref qp, .ref qs, .ref qr, .ref qf, .int u.2.2])), (qp, .inl (cI, 12, .inl pr)), (qs, .inl (cI, 12, .inl sb)), (qr, .inl (cI, 4, .inl u.1)), (qf, .inl (cI, 4, .inl u.2.1))] t.heap ∧ va_D (va_A [(qb, .inr (0, [.ref qp, .ref qs, .ref qr, .ref qf, .int fl])), (qp, .inl (cI, 12, .inl pr)), (qs, .inl (cI, 12, .inl sb)), (qr, .inl (cI, 4, .inl br)), (qf, .inl (cI, 4, .inl fe))] sz) [(qb, .inr (0, [.ref qp, .ref qs, .ref qr, .ref qf, .int u.2.2])), (qp, .inl (cI, 12, .inl pr)), (qs, .inl (cI, 12, .inl sb)), (qr, .inl (cI, 4, .inl u.1)), (qf, .inl (cI, 4, .inl u.2.1))]) (va_A [(qb, .inr (0, [.ref qp, .ref qs, .ref qr, .ref qf, .int fl])), (qp, .inl (cI, 12, .inl pr)), (qs, .inl (cI, 12, .inl sb)), (qr, .inl (cI, 4, .inl br)), (qf, .inl (cI, 4, .inl fe))] sz)) 0 0 (va_A [(qb, .inr (0, [.ref qp, .ref qs, .ref qr, .ref qf, .int fl])), (qp, .inl (cI, 12, .inl pr)), (qs, .inl (cI, 12, .inl sb)), (qr, .inl (cI, 4, .inl br)), (qf, .inl (cI, 4, .inl fe))] sz) := by
  refine met_bw rfl (Nat.le_of_ble_eq_true rfl) ?_
  intro p e s m below meth c ls hx hb hr hml hown hts hlocks hin hsz hP hK hD0 hX0 hl
  have hown : s.vm.findClass RX0 = some m.cls := hown
  have hl : lv_has ls 4 [(0, .ref qb), (1, .int tu)] := hl
  subst hsz
  have hD := hD0.self (sz := s.heap.size)
  generalize hAe : va_A [(qb, .inr (0, [.ref qp, .ref qs, .ref qr, .ref qf, .int fl])), (qp, .inl (cI, 12, .inl pr)), (qs, .inl (cI, 12, .inl sb)), (qr, .inl (cI, 4, .inl br)), (qf, .inl (cI, 4, .inl fe))] s.heap.size = A at hD ⊢
  have hA : ∀ q : Nat, s.heap.size ≤ q → A q := fun q h => by rw [← hAe]; exact Or.inr h
  have hS : va_S A s.heap s.heap [] := va_S.rf
  generalize hQ : MQ below (va_Qv (fun (u : IA × IA × Int32) => u = sf pr tu br fe fl 4) (fun (u : IA × IA × Int32) t => va_P G vwCl [(qb, .inr (0, [.ref qp, .ref qs, .ref qr, .ref qf, .int u.2.2])), (qp, .inl (cI, 12, .inl pr)), (qs, .inl (cI, 12, .inl sb)), (qr, .inl (cI, 4, .inl u.1)), (qf, .inl (cI, 4, .inl u.2.1))] t.heap ∧ va_D A [(qb, .inr (0, [.ref qp, .ref qs, .ref qr, .ref qf, .int u.2.2])), (qp, .inl (cI, 12, .inl pr)), (qs, .inl (cI, 12, .inl sb)), (qr, .inl (cI, 4, .inl u.1)), (qf, .inl (cI, 4, .inl u.2.1))]) A) ([.ref qb, .int tu] : List Value).toArray s 0 0 A = Q
  generalize hag : ([.ref qb, .int tu] : List Value).toArray = ag at hts hQ ⊢
  refine lv_iconst (v := 0) hx hb dX0_strainAndFall_0 (by decide) ?_
  refine lv_istore_n (lv' := [(2, .int 0), (0, .ref qb), (1, .int tu)]) hx hb dX0_strainAndFall_1 rfl hl (by decide) rfl (fun ls hl => ?_)
  have L1 : ∀ (n : Nat), ∀ (i : Nat), ∀ (a : IA), ∀ (b : IA), ∀ (d : Int32), ∀ (hi : i ≤ 4), ∀ (hf : (a, b, d) = sf pr tu br fe fl i), ∀ (hn : 5 ≤ i + n), ∀ (H104 : Heap) (locs104 : List Loc), va_P G vwCl [(qb, .inr (0, [.ref qp, .ref qs, .ref qr, .ref qf, .int d])), (qp, .inl (cI, 12, .inl pr)), (qs, .inl (cI, 12, .inl sb)), (qr, .inl (cI, 4, .inl a)), (qf, .inl (cI, 4, .inl b))] H104 → va_D A [(qb, .inr (0, [.ref qp, .ref qs, .ref qr, .ref qf, .int d])), (qp, .inl (cI, 12, .inl pr)), (qs, .inl (cI, 12, .inl sb)), (qr, .inl (cI, 4, .inl a)), (qf, .inl (cI, 4, .inl b))] → va_S A s.heap H104 locs104 → ∀ (ls : Array Slot), lv_has ls 4 [(2, .int (nI i)), (0, .ref qb), (1, .int tu)] → W p l e rm_X0_strainAndFall s m ag below meth c H104 locs104 0 0 Q (F0 m 2 ls []) := by
    intro n
    induction n with
    | zero =>
      intro i a b d hi hf hn H104 locs104 hP hD hS ls hl
      omega
    | succ n ih1 =>
      intro i a b d hi hf hn H104 locs104 hP hD hS ls hl
      refine lv_iload_n hx hb dX0_strainAndFall_2 rfl (lv_at hl 0 rfl) ?_
      refine lv_iconst (v := 4) hx hb dX0_strainAndFall_3 (by decide) ?_
      refine zi_ge (tgt := 87) hx hb i 4 dX0_strainAndFall_4 (by decide) rfl rfl (by omega) (by decide) (fun c_105 => ?_) (fun c_105 => ?_)
      · subst hQ
        exact W.vret hx hb hr (fun t ht hW => ⟨⟨(a, b, d), rfl, by rw [hf, show i = 4 by omega], by rw [ht]; exact hP, hD⟩, hS.F ht⟩) hS.2.2 dX0_strainAndFall_87
      · refine lv_aload_n hx hb dX0_strainAndFall_7 rfl (lv_at hl 1 rfl) ?_
        refine lv_bipush (v := 8) hx hb dX0_strainAndFall_8 (by decide) ?_
        refine lv_iload_n hx hb dX0_strainAndFall_10 rfl (lv_at hl 0 rfl) ?_
        refine zi_mul hx hb 8 i dX0_strainAndFall_11 rfl rfl ?_
        refine lv_iconst (v := 4) hx hb dX0_strainAndFall_12 (by decide) ?_
        refine zi_add hx hb (8 * i) 4 dX0_strainAndFall_13 rfl rfl ?_
        have hPc : va_P G vwCl [(qb, .inr (0, [.ref qp, .ref qs, .ref qr, .ref qf, .int d])), (qp, .inl (cI, 12, .inl pr)), (qs, .inl (cI, 12, .inl sb)), (qr, .inl (cI, 4, .inl a)), (qf, .inl (cI, 4, .inl b))] H104 := hP
        have hDc := hD.tt
        refine vp_callSi (va_Run.run (va_runV (As := [.int (nI ((8 * i) + 4))]) (rest := []) ⟨hx, hb, hml, hown, hts⟩ (c_X0_piecesOn l G cI cC cZ cG H104.size qb qp qs qr qf pr sb a b d (nI ((8 * i) + 4))) (cf_RX0_66 hts ⟨Nat.le_of_ble_eq_true rfl, Nat.le_of_ble_eq_true rfl⟩) (pre_V hK hPc hDc (ci := 0) (q0 := 0) rfl rfl) rfl rfl hl.1 rfl (lv_room (Nat.le_of_ble_eq_true rfl)) dX0_strainAndFall_14 ⟨Nat.le_of_ble_eq_true rfl, Nat.le_of_ble_eq_true rfl⟩)) (fun r106 hr106 => ?_)
        subst hr106
        have hf107 := cnt_le (pcP pr (nI ((8 * i) + 4))) 12
        refine lv_istore_n (lv' := [(3, .int (nI (cnt (pcP pr (nI ((8 * i) + 4))) 12))), (2, .int (nI i)), (0, .ref qb), (1, .int tu)]) hx hb dX0_strainAndFall_17 rfl hl (by decide) rfl (fun ls hl => ?_)
        refine lv_aload_n hx hb dX0_strainAndFall_18 rfl (lv_at hl 2 rfl) ?_
        refine va_get (D := G) (ci := 0) (v := .ref qr) (C := RX0) (T := TX0) (N := 5) hx hb hts inlX0 hown hK.1 hP 0 rfl rfl 2 (by decide) (hts _ wd50) (fun _ h9 => h9) rfl dX0_strainAndFall_19 ?_
        refine lv_iload_n hx hb dX0_strainAndFall_22 rfl (lv_at hl 1 rfl) ?_
        refine za_ld hx hb hK.1 hP 3 0 rfl rfl i rfl (by omega) (by decide) dX0_strainAndFall_23 ?_
        refine lv_iconst (v := 1) hx hb dX0_strainAndFall_24 (by decide) ?_
        refine lv_icmp_ne (tgt := 43) hx hb dX0_strainAndFall_25 (by decide) (fun c_108 => ?_) (fun c_108 => ?_)
        · refine lv_aload_n hx hb dX0_strainAndFall_43 rfl (lv_at hl 2 rfl) ?_
          refine va_get (D := G) (ci := 0) (v := .ref qr) (C := RX0) (T := TX0) (N := 5) hx hb hts inlX0 hown hK.1 hP 0 rfl rfl 2 (by decide) (hts _ wd50) (fun _ h9 => h9) rfl dX0_strainAndFall_44 ?_
          refine lv_iload_n hx hb dX0_strainAndFall_47 rfl (lv_at hl 1 rfl) ?_
          refine za_ld hx hb hK.1 hP 3 0 rfl rfl i rfl (by omega) (by decide) dX0_strainAndFall_48 ?_
          refine lv_iconst (v := 2) hx hb dX0_strainAndFall_49 (by decide) ?_
          refine lv_icmp_ne (tgt := 81) hx hb dX0_strainAndFall_50 (by decide) (fun c_109 => ?_) (fun c_109 => ?_)
          · refine lv_iinc (v := nI (i + 1)) (lv' := [(2, .int (nI (i + 1))), (3, .int (nI (cnt (pcP pr (nI ((8 * i) + 4))) 12))), (0, .ref qb), (1, .int tu)]) hx hb dX0_strainAndFall_81 hl (k := 1) rfl (nI_inc i) (by decide) rfl (fun ls hl => ?_)
            refine lv_goto (tgt := 2) hx hb dX0_strainAndFall_84 (by decide) ?_
            exact ih1 (i + 1) a b d (by omega) (by first | done | rw [sf, ← hf, if_neg (by simp [pcN, c_105, c_108, c_109]), if_neg (by simp [pcN, c_105, c_108, c_109])]) (by omega) H104 locs104 hP hD hS _ (lv_sub hl [0, 2, 3] rfl)
          · refine lv_iload_n hx hb dX0_strainAndFall_53 rfl (lv_at hl 0 rfl) ?_
            refine z0_ne (tgt := 81) hx hb (cnt (pcP pr (nI ((8 * i) + 4))) 12) dX0_strainAndFall_54 (by decide) rfl (by omega) (fun c_110 => ?_) (fun c_110 => ?_)
            · refine lv_iinc (v := nI (i + 1)) (lv' := [(2, .int (nI (i + 1))), (3, .int (nI (cnt (pcP pr (nI ((8 * i) + 4))) 12))), (0, .ref qb), (1, .int tu)]) hx hb dX0_strainAndFall_81 hl (k := 1) rfl (nI_inc i) (by decide) rfl (fun ls hl => ?_)
              refine lv_goto (tgt := 2) hx hb dX0_strainAndFall_84 (by decide) ?_
              exact ih1 (i + 1) a b d (by omega) (by first | exact absurd (c_108.symm.trans c_110) (by decide) | rw [sf, ← hf, if_neg (by simp [pcN, c_105, c_108, c_109, c_110]), if_neg (by simp [pcN, c_105, c_108, c_109, c_110])]) (by omega) H104 locs104 hP hD hS _ (lv_sub hl [0, 2, 3] rfl)
            · refine lv_aload_n hx hb dX0_strainAndFall_57 rfl (lv_at hl 2 rfl) ?_
              refine va_get (D := G) (ci := 0) (v := .ref qr) (C := RX0) (T := TX0) (N := 5) hx hb hts inlX0 hown hK.1 hP 0 rfl rfl 2 (by decide) (hts _ wd50) (fun _ h9 => h9) rfl dX0_strainAndFall_58 ?_
              refine lv_iload_n hx hb dX0_strainAndFall_61 rfl (lv_at hl 1 rfl) ?_
              refine lv_iconst (v := 3) hx hb dX0_strainAndFall_62 (by decide) ?_
              refine za_st hx hb hK.1 hP hD hS 3 0 rfl rfl i rfl (by omega) (by decide) dX0_strainAndFall_63 (fun H111 locs111 hP hD hS => ?_)
              have hP : va_P G vwCl [(qb, .inr (0, [.ref qp, .ref qs, .ref qr, .ref qf, .int d])), (qp, .inl (cI, 12, .inl pr)), (qs, .inl (cI, 12, .inl sb)), (qr, .inl (cI, 4, .inl (upd a i 3))), (qf, .inl (cI, 4, .inl b))] H111 := hP
              have hD : va_D A [(qb, .inr (0, [.ref qp, .ref qs, .ref qr, .ref qf, .int d])), (qp, .inl (cI, 12, .inl pr)), (qs, .inl (cI, 12, .inl sb)), (qr, .inl (cI, 4, .inl (upd a i 3))), (qf, .inl (cI, 4, .inl b))] := hD
              refine lv_aload_n hx hb dX0_strainAndFall_64 rfl (lv_at hl 2 rfl) ?_
              refine va_get (D := G) (ci := 0) (v := .ref qf) (C := RX0) (T := TX0) (N := 5) hx hb hts inlX0 hown hK.1 hP 0 rfl rfl 3 (by decide) (hts _ wd51) (fun _ h9 => h9) rfl dX0_strainAndFall_65 ?_
              refine lv_iload_n hx hb dX0_strainAndFall_68 rfl (lv_at hl 1 rfl) ?_
              refine lv_iload_n hx hb dX0_strainAndFall_69 rfl (lv_at hl 3 rfl) ?_
              refine za_st hx hb hK.1 hP hD hS 4 0 rfl rfl i rfl (by omega) (by decide) dX0_strainAndFall_70 (fun H112 locs112 hP hD hS => ?_)
              have hP : va_P G vwCl [(qb, .inr (0, [.ref qp, .ref qs, .ref qr, .ref qf, .int d])), (qp, .inl (cI, 12, .inl pr)), (qs, .inl (cI, 12, .inl sb)), (qr, .inl (cI, 4, .inl (upd a i 3))), (qf, .inl (cI, 4, .inl (upd b i tu)))] H112 := hP
              have hD : va_D A [(qb, .inr (0, [.ref qp, .ref qs, .ref qr, .ref qf, .int d])), (qp, .inl (cI, 12, .inl pr)), (qs, .inl (cI, 12, .inl sb)), (qr, .inl (cI, 4, .inl (upd a i 3))), (qf, .inl (cI, 4, .inl (upd b i tu)))] := hD
              refine lv_aload_n hx hb dX0_strainAndFall_71 rfl (lv_at hl 2 rfl) ?_
              refine lv_dup hx hb dX0_strainAndFall_72 rfl ?_
              refine va_get (D := G) (ci := 0) (v := .int d) (C := RX0) (T := TX0) (N := 5) hx hb hts inlX0 hown hK.1 hP 0 rfl rfl 4 (by decide) (hts _ wd52) (fun _ h9 => h9) rfl dX0_strainAndFall_73 ?_
              refine lv_iconst (v := 1) hx hb dX0_strainAndFall_76 (by decide) ?_
              refine lv_iadd hx hb dX0_strainAndFall_77 ?_
              refine va_put (D := G) (ci := 0) (v := .int (d + 1)) (ty := .int) (C := RX0) (T := TX0) (N := 5) hx hb hts inlX0 tyX0 tyX0_ok nmX0 hown hK.1 hP hD hS 0 rfl rfl 4 (by decide) (hts _ wd52) (fun _ h9 => h9) rfl (by decide +kernel) rfl rfl (Nat.le_of_ble_eq_true rfl) dX0_strainAndFall_78 (fun H113 locs113 hP hD hS => ?_)
              have hP : va_P G vwCl [(qb, .inr (0, [.ref qp, .ref qs, .ref qr, .ref qf, .int (d + 1)])), (qp, .inl (cI, 12, .inl pr)), (qs, .inl (cI, 12, .inl sb)), (qr, .inl (cI, 4, .inl (upd a i 3))), (qf, .inl (cI, 4, .inl (upd b i tu)))] H113 := hP
              have hD : va_D A [(qb, .inr (0, [.ref qp, .ref qs, .ref qr, .ref qf, .int (d + 1)])), (qp, .inl (cI, 12, .inl pr)), (qs, .inl (cI, 12, .inl sb)), (qr, .inl (cI, 4, .inl (upd a i 3))), (qf, .inl (cI, 4, .inl (upd b i tu)))] := hD
              refine lv_iinc (v := nI (i + 1)) (lv' := [(2, .int (nI (i + 1))), (3, .int (nI (cnt (pcP pr (nI ((8 * i) + 4))) 12))), (0, .ref qb), (1, .int tu)]) hx hb dX0_strainAndFall_81 hl (k := 1) rfl (nI_inc i) (by decide) rfl (fun ls hl => ?_)
              refine lv_goto (tgt := 2) hx hb dX0_strainAndFall_84 (by decide) ?_
              exact ih1 (i + 1) (upd a i 3) (upd b i tu) (d + 1) (by omega) (by first | exact absurd (c_108.symm.trans c_110) (by decide) | rw [sf, ← hf, if_neg (by simp [pcN, c_105, c_108, c_109, c_110]), if_pos (by simp [pcN, c_105, c_108, c_109, c_110])]) (by omega) H113 locs113 hP hD hS _ (lv_sub hl [0, 2, 3] rfl)
        · refine lv_iload_n hx hb dX0_strainAndFall_28 rfl (lv_at hl 0 rfl) ?_
          refine lv_iconst (v := 2) hx hb dX0_strainAndFall_29 (by decide) ?_
          refine zi_lt (tgt := 43) hx hb (cnt (pcP pr (nI ((8 * i) + 4))) 12) 2 dX0_strainAndFall_30 (by decide) rfl rfl (by omega) (by decide) (fun c_114 => ?_) (fun c_114 => ?_)
          · refine lv_aload_n hx hb dX0_strainAndFall_43 rfl (lv_at hl 2 rfl) ?_
            refine va_get (D := G) (ci := 0) (v := .ref qr) (C := RX0) (T := TX0) (N := 5) hx hb hts inlX0 hown hK.1 hP 0 rfl rfl 2 (by decide) (hts _ wd50) (fun _ h9 => h9) rfl dX0_strainAndFall_44 ?_
            refine lv_iload_n hx hb dX0_strainAndFall_47 rfl (lv_at hl 1 rfl) ?_
            refine za_ld hx hb hK.1 hP 3 0 rfl rfl i rfl (by omega) (by decide) dX0_strainAndFall_48 ?_
            refine lv_iconst (v := 2) hx hb dX0_strainAndFall_49 (by decide) ?_
            refine lv_icmp_ne (tgt := 81) hx hb dX0_strainAndFall_50 (by decide) (fun c_115 => ?_) (fun c_115 => ?_)
            · refine lv_iinc (v := nI (i + 1)) (lv' := [(2, .int (nI (i + 1))), (3, .int (nI (cnt (pcP pr (nI ((8 * i) + 4))) 12))), (0, .ref qb), (1, .int tu)]) hx hb dX0_strainAndFall_81 hl (k := 1) rfl (nI_inc i) (by decide) rfl (fun ls hl => ?_)
              refine lv_goto (tgt := 2) hx hb dX0_strainAndFall_84 (by decide) ?_
              exact ih1 (i + 1) a b d (by omega) (by first | exact absurd (c_108.symm.trans c_115) (by decide) | rw [sf, ← hf, if_neg (by simp [pcN, c_105, c_108, c_114, c_115]), if_neg (by simp [pcN, c_105, c_108, c_114, c_115])]) (by omega) H104 locs104 hP hD hS _ (lv_sub hl [0, 2, 3] rfl)
            · refine lv_iload_n hx hb dX0_strainAndFall_53 rfl (lv_at hl 0 rfl) ?_
              refine z0_ne (tgt := 81) hx hb (cnt (pcP pr (nI ((8 * i) + 4))) 12) dX0_strainAndFall_54 (by decide) rfl (by omega) (fun c_116 => ?_) (fun c_116 => ?_)
              · refine lv_iinc (v := nI (i + 1)) (lv' := [(2, .int (nI (i + 1))), (3, .int (nI (cnt (pcP pr (nI ((8 * i) + 4))) 12))), (0, .ref qb), (1, .int tu)]) hx hb dX0_strainAndFall_81 hl (k := 1) rfl (nI_inc i) (by decide) rfl (fun ls hl => ?_)
                refine lv_goto (tgt := 2) hx hb dX0_strainAndFall_84 (by decide) ?_
                exact ih1 (i + 1) a b d (by omega) (by first | exact absurd (c_108.symm.trans c_115) (by decide) | rw [sf, ← hf, if_neg (by simp [pcN, c_105, c_108, c_114, c_115, c_116]), if_neg (by simp [pcN, c_105, c_108, c_114, c_115, c_116])]) (by omega) H104 locs104 hP hD hS _ (lv_sub hl [0, 2, 3] rfl)
              · refine lv_aload_n hx hb dX0_strainAndFall_57 rfl (lv_at hl 2 rfl) ?_
                refine va_get (D := G) (ci := 0) (v := .ref qr) (C := RX0) (T := TX0) (N := 5) hx hb hts inlX0 hown hK.1 hP 0 rfl rfl 2 (by decide) (hts _ wd50) (fun _ h9 => h9) rfl dX0_strainAndFall_58 ?_
                refine lv_iload_n hx hb dX0_strainAndFall_61 rfl (lv_at hl 1 rfl) ?_
                refine lv_iconst (v := 3) hx hb dX0_strainAndFall_62 (by decide) ?_
                refine za_st hx hb hK.1 hP hD hS 3 0 rfl rfl i rfl (by omega) (by decide) dX0_strainAndFall_63 (fun H117 locs117 hP hD hS => ?_)
                have hP : va_P G vwCl [(qb, .inr (0, [.ref qp, .ref qs, .ref qr, .ref qf, .int d])), (qp, .inl (cI, 12, .inl pr)), (qs, .inl (cI, 12, .inl sb)), (qr, .inl (cI, 4, .inl (upd a i 3))), (qf, .inl (cI, 4, .inl b))] H117 := hP
                have hD : va_D A [(qb, .inr (0, [.ref qp, .ref qs, .ref qr, .ref qf, .int d])), (qp, .inl (cI, 12, .inl pr)), (qs, .inl (cI, 12, .inl sb)), (qr, .inl (cI, 4, .inl (upd a i 3))), (qf, .inl (cI, 4, .inl b))] := hD
                refine lv_aload_n hx hb dX0_strainAndFall_64 rfl (lv_at hl 2 rfl) ?_
                refine va_get (D := G) (ci := 0) (v := .ref qf) (C := RX0) (T := TX0) (N := 5) hx hb hts inlX0 hown hK.1 hP 0 rfl rfl 3 (by decide) (hts _ wd51) (fun _ h9 => h9) rfl dX0_strainAndFall_65 ?_
                refine lv_iload_n hx hb dX0_strainAndFall_68 rfl (lv_at hl 1 rfl) ?_
                refine lv_iload_n hx hb dX0_strainAndFall_69 rfl (lv_at hl 3 rfl) ?_
                refine za_st hx hb hK.1 hP hD hS 4 0 rfl rfl i rfl (by omega) (by decide) dX0_strainAndFall_70 (fun H118 locs118 hP hD hS => ?_)
                have hP : va_P G vwCl [(qb, .inr (0, [.ref qp, .ref qs, .ref qr, .ref qf, .int d])), (qp, .inl (cI, 12, .inl pr)), (qs, .inl (cI, 12, .inl sb)), (qr, .inl (cI, 4, .inl (upd a i 3))), (qf, .inl (cI, 4, .inl (upd b i tu)))] H118 := hP
                have hD : va_D A [(qb, .inr (0, [.ref qp, .ref qs, .ref qr, .ref qf, .int d])), (qp, .inl (cI, 12, .inl pr)), (qs, .inl (cI, 12, .inl sb)), (qr, .inl (cI, 4, .inl (upd a i 3))), (qf, .inl (cI, 4, .inl (upd b i tu)))] := hD
                refine lv_aload_n hx hb dX0_strainAndFall_71 rfl (lv_at hl 2 rfl) ?_
                refine lv_dup hx hb dX0_strainAndFall_72 rfl ?_
                refine va_get (D := G) (ci := 0) (v := .int d) (C := RX0) (T := TX0) (N := 5) hx hb hts inlX0 hown hK.1 hP 0 rfl rfl 4 (by decide) (hts _ wd52) (fun _ h9 => h9) rfl dX0_strainAndFall_73 ?_
                refine lv_iconst (v := 1) hx hb dX0_strainAndFall_76 (by decide) ?_
                refine lv_iadd hx hb dX0_strainAndFall_77 ?_
                refine va_put (D := G) (ci := 0) (v := .int (d + 1)) (ty := .int) (C := RX0) (T := TX0) (N := 5) hx hb hts inlX0 tyX0 tyX0_ok nmX0 hown hK.1 hP hD hS 0 rfl rfl 4 (by decide) (hts _ wd52) (fun _ h9 => h9) rfl (by decide +kernel) rfl rfl (Nat.le_of_ble_eq_true rfl) dX0_strainAndFall_78 (fun H119 locs119 hP hD hS => ?_)
                have hP : va_P G vwCl [(qb, .inr (0, [.ref qp, .ref qs, .ref qr, .ref qf, .int (d + 1)])), (qp, .inl (cI, 12, .inl pr)), (qs, .inl (cI, 12, .inl sb)), (qr, .inl (cI, 4, .inl (upd a i 3))), (qf, .inl (cI, 4, .inl (upd b i tu)))] H119 := hP
                have hD : va_D A [(qb, .inr (0, [.ref qp, .ref qs, .ref qr, .ref qf, .int (d + 1)])), (qp, .inl (cI, 12, .inl pr)), (qs, .inl (cI, 12, .inl sb)), (qr, .inl (cI, 4, .inl (upd a i 3))), (qf, .inl (cI, 4, .inl (upd b i tu)))] := hD
                refine lv_iinc (v := nI (i + 1)) (lv' := [(2, .int (nI (i + 1))), (3, .int (nI (cnt (pcP pr (nI ((8 * i) + 4))) 12))), (0, .ref qb), (1, .int tu)]) hx hb dX0_strainAndFall_81 hl (k := 1) rfl (nI_inc i) (by decide) rfl (fun ls hl => ?_)
                refine lv_goto (tgt := 2) hx hb dX0_strainAndFall_84 (by decide) ?_
                exact ih1 (i + 1) (upd a i 3) (upd b i tu) (d + 1) (by omega) (by first | exact absurd (c_108.symm.trans c_115) (by decide) | rw [sf, ← hf, if_neg (by simp [pcN, c_105, c_108, c_114, c_115, c_116]), if_pos (by simp [pcN, c_105, c_108, c_114, c_115, c_116])]) (by omega) H119 locs119 hP hD hS _ (lv_sub hl [0, 2, 3] rfl)
          · refine lv_aload_n hx hb dX0_strainAndFall_33 rfl (lv_at hl 2 rfl) ?_
            refine va_get (D := G) (ci := 0) (v := .ref qr) (C := RX0) (T := TX0) (N := 5) hx hb hts inlX0 hown hK.1 hP 0 rfl rfl 2 (by decide) (hts _ wd50) (fun _ h9 => h9) rfl dX0_strainAndFall_34 ?_
            refine lv_iload_n hx hb dX0_strainAndFall_37 rfl (lv_at hl 1 rfl) ?_
            refine lv_iconst (v := 2) hx hb dX0_strainAndFall_38 (by decide) ?_
            refine za_st hx hb hK.1 hP hD hS 3 0 rfl rfl i rfl (by omega) (by decide) dX0_strainAndFall_39 (fun H120 locs120 hP hD hS => ?_)
            have hP : va_P G vwCl [(qb, .inr (0, [.ref qp, .ref qs, .ref qr, .ref qf, .int d])), (qp, .inl (cI, 12, .inl pr)), (qs, .inl (cI, 12, .inl sb)), (qr, .inl (cI, 4, .inl (upd a i 2))), (qf, .inl (cI, 4, .inl b))] H120 := hP
            have hD : va_D A [(qb, .inr (0, [.ref qp, .ref qs, .ref qr, .ref qf, .int d])), (qp, .inl (cI, 12, .inl pr)), (qs, .inl (cI, 12, .inl sb)), (qr, .inl (cI, 4, .inl (upd a i 2))), (qf, .inl (cI, 4, .inl b))] := hD
            refine lv_goto (tgt := 81) hx hb dX0_strainAndFall_40 (by decide) ?_
            refine lv_iinc (v := nI (i + 1)) (lv' := [(2, .int (nI (i + 1))), (3, .int (nI (cnt (pcP pr (nI ((8 * i) + 4))) 12))), (0, .ref qb), (1, .int tu)]) hx hb dX0_strainAndFall_81 hl (k := 1) rfl (nI_inc i) (by decide) rfl (fun ls hl => ?_)
            refine lv_goto (tgt := 2) hx hb dX0_strainAndFall_84 (by decide) ?_
            exact ih1 (i + 1) (upd a i 2) b d (by omega) (by first | done | rw [sf, ← hf, if_pos (by simp [pcN, c_105, c_108, c_114])]) (by omega) H120 locs120 hP hD hS _ (lv_sub hl [0, 2, 3] rfl)
  exact L1 5 0 br fe fl (by decide) rfl (by decide) s.heap [] hP hD hS _ (lv_sub hl [0, 1, 2] rfl)

abbrev rm_X0_place : Room := { frames := 3, cells := 0, slots := 0, locals := 67 }
theorem cf_RX0_62 {R : Room} {s : State} {args : Array Value} (ht : ∀ w ∈ wsL_law, w.before args s = true) (hR : rm_X0_strainAndFall.frames + 1 ≤ R.frames ∧ 8 + (4 + 11) + rm_X0_strainAndFall.locals ≤ R.locals) : CallW R s args RX0 RX0 62 yX0_strainAndFall cX0_strainAndFall 4 none (.code yX0_strainAndFall cX0_strainAndFall 4 none :: wsL_law) rm_X0_strainAndFall 0 0 1 := ⟨cw_B 1 ht wd307 wd33 wd310 (by decide +kernel) rfl rfl hR, ht _ wd308, ht _ wd309⟩
set_option maxHeartbeats 1000000 in
set_option maxRecDepth 100000 in
theorem c_X0_place (l : Launch) (G : va_G) (cI cC cZ cG : ClassId) (sz : Nat) (qb qp qs qr qf : Nat) (pr sb br fe : IA) (fl : Int32) (k : Nat) (v : Int32) (tu : Int32) (hk : k < 12) : Met l yX0_place (.code yX0_place cX0_place 4 none :: wsL_law) rm_X0_place (va_Pc [.ref qb, .int (nI k), .int v, .int tu] (bw G cI cC cZ cG false sz [(qb, .inr (0, [.ref qp, .ref qs, .ref qr, .ref qf, .int fl])), (qp, .inl (cI, 12, .inl pr)), (qs, .inl (cI, 12, .inl sb)), (qr, .inl (cI, 4, .inl br)), (qf, .inl (cI, 4, .inl fe))])) (va_Qv (fun (u : IA × IA × Int32) => u = sf (upd pr k v) tu br fe fl 4) (fun (u : IA × IA × Int32) t => va_P G vwCl [(qb, .inr (0, [.ref qp, .ref qs, .ref qr, .ref qf, .int u.2.2])), (qp, .inl (cI, 12, .inl (upd pr k v))), (qs, .inl (cI, 12, .inl sb)), (qr, .inl (cI, 4, .inl u.1)), (qf, .inl (cI, 4, .inl u.2.1))] t.heap ∧ va_D (va_A [(qb, .inr (0, [.ref qp, .ref qs, .ref qr, .ref qf, .int fl])), (qp, .inl (cI, 12, .inl pr)), (qs, .inl (cI, 12, .inl sb)), (qr, .inl (cI, 4, .inl br)), (qf, .inl (cI, 4, .inl fe))] sz) [(qb, .inr (0, [.ref qp, .ref qs, .ref qr, .ref qf, .int u.2.2])), (qp, .inl (cI, 12, .inl (upd pr k v))), (qs, .inl (cI, 12, .inl sb)), (qr, .inl (cI, 4, .inl u.1)), (qf, .inl (cI, 4, .inl u.2.1))]) (va_A [(qb, .inr (0, [.ref qp, .ref qs, .ref qr, .ref qf, .int fl])), (qp, .inl (cI, 12, .inl pr)), (qs, .inl (cI, 12, .inl sb)), (qr, .inl (cI, 4, .inl br)), (qf, .inl (cI, 4, .inl fe))] sz)) 0 0 (va_A [(qb, .inr (0, [.ref qp, .ref qs, .ref qr, .ref qf, .int fl])), (qp, .inl (cI, 12, .inl pr)), (qs, .inl (cI, 12, .inl sb)), (qr, .inl (cI, 4, .inl br)), (qf, .inl (cI, 4, .inl fe))] sz) := by
  refine met_bw rfl (Nat.le_of_ble_eq_true rfl) ?_
  intro p e s m below meth c ls hx hb hr hml hown hts hlocks hin hsz hP hK hD0 hX0 hl
  have hown : s.vm.findClass RX0 = some m.cls := hown
  have hl : lv_has ls 4 [(0, .ref qb), (1, .int (nI k)), (2, .int v), (3, .int tu)] := hl
  subst hsz
  have hD := hD0.self (sz := s.heap.size)
  generalize hAe : va_A [(qb, .inr (0, [.ref qp, .ref qs, .ref qr, .ref qf, .int fl])), (qp, .inl (cI, 12, .inl pr)), (qs, .inl (cI, 12, .inl sb)), (qr, .inl (cI, 4, .inl br)), (qf, .inl (cI, 4, .inl fe))] s.heap.size = A at hD ⊢
  have hA : ∀ q : Nat, s.heap.size ≤ q → A q := fun q h => by rw [← hAe]; exact Or.inr h
  have hS : va_S A s.heap s.heap [] := va_S.rf
  refine lv_aload_n hx hb dX0_place_0 rfl (lv_at hl 0 rfl) ?_
  refine va_get (D := G) (ci := 0) (v := .ref qp) (C := RX0) (T := TX0) (N := 5) hx hb hts inlX0 hown hK.1 hP 0 rfl rfl 0 (by decide) (hts _ wd48) (fun _ h9 => h9) rfl dX0_place_1 ?_
  refine lv_iload_n hx hb dX0_place_4 rfl (lv_at hl 1 rfl) ?_
  refine lv_iload_n hx hb dX0_place_5 rfl (lv_at hl 2 rfl) ?_
  refine za_st hx hb hK.1 hP hD hS 1 0 rfl rfl k rfl (by omega) (by decide) dX0_place_6 (fun H121 locs121 hP hD hS => ?_)
  have hP : va_P G vwCl [(qb, .inr (0, [.ref qp, .ref qs, .ref qr, .ref qf, .int fl])), (qp, .inl (cI, 12, .inl (upd pr k v))), (qs, .inl (cI, 12, .inl sb)), (qr, .inl (cI, 4, .inl br)), (qf, .inl (cI, 4, .inl fe))] H121 := hP
  have hD : va_D A [(qb, .inr (0, [.ref qp, .ref qs, .ref qr, .ref qf, .int fl])), (qp, .inl (cI, 12, .inl (upd pr k v))), (qs, .inl (cI, 12, .inl sb)), (qr, .inl (cI, 4, .inl br)), (qf, .inl (cI, 4, .inl fe))] := hD
  refine lv_aload_n hx hb dX0_place_7 rfl (lv_at hl 0 rfl) ?_
  refine lv_iload_n hx hb dX0_place_8 rfl (lv_at hl 3 rfl) ?_
  have hPc : va_P G vwCl [(qb, .inr (0, [.ref qp, .ref qs, .ref qr, .ref qf, .int fl])), (qp, .inl (cI, 12, .inl (upd pr k v))), (qs, .inl (cI, 12, .inl sb)), (qr, .inl (cI, 4, .inl br)), (qf, .inl (cI, 4, .inl fe))] H121 := hP
  have hDc := hD.tt
  have hFc := va_free (wc := [(qb, .inr (0, [.ref qp, .ref qs, .ref qr, .ref qf, .int fl])), (qp, .inl (cI, 12, .inl (upd pr k v))), (qs, .inl (cI, 12, .inl sb)), (qr, .inl (cI, 4, .inl br)), (qf, .inl (cI, 4, .inl fe))]) hD hS hA [0, 1, 2, 3, 4] rfl
  refine va_callv (va_runV (As := [.int tu]) (rest := []) ⟨hx, hb, hml, hown, hts⟩ (c_X0_strainAndFall l G cI cC cZ cG H121.size qb qp qs qr qf (upd pr k v) sb br fe fl tu) (cf_RX0_62 hts ⟨Nat.le_of_ble_eq_true rfl, Nat.le_of_ble_eq_true rfl⟩) (pre_V hK hPc hDc (ci := 0) (q0 := 0) rfl rfl) rfl rfl hl.1 rfl (lv_room (Nat.le_of_ble_eq_true rfl)) dX0_place_9 ⟨Nat.le_of_ble_eq_true rfl, Nat.le_of_ble_eq_true rfl⟩) hS (fun q _ h => hFc q h) hFc (fun u122 t122 H122 locs122 ht122 hvm122 hw122 hB122 hz122 hk122 hS => ?_)
  obtain ⟨br122, fe122, fl122⟩ := u122
  obtain ⟨hP1, hD1⟩ := hB122
  rw [ht122] at hP1
  try dsimp only at hw122
  obtain ⟨hP, hD⟩ := va_join (wr := []) (w1 := [(qb, .inr (0, [.ref qp, .ref qs, .ref qr, .ref qf, .int fl122])), (qp, .inl (cI, 12, .inl (upd pr k v))), (qs, .inl (cI, 12, .inl sb)), (qr, .inl (cI, 4, .inl br122)), (qf, .inl (cI, 4, .inl fe122))]) hP hD [0, 1, 2, 3, 4] [] rfl rfl (by decide) (by decide) hk122 hFc hP1 hD1
  have hP : va_P G vwCl [(qb, .inr (0, [.ref qp, .ref qs, .ref qr, .ref qf, .int fl122])), (qp, .inl (cI, 12, .inl (upd pr k v))), (qs, .inl (cI, 12, .inl sb)), (qr, .inl (cI, 4, .inl br122)), (qf, .inl (cI, 4, .inl fe122))] H122 := hP
  have hD : va_D A [(qb, .inr (0, [.ref qp, .ref qs, .ref qr, .ref qf, .int fl122])), (qp, .inl (cI, 12, .inl (upd pr k v))), (qs, .inl (cI, 12, .inl sb)), (qr, .inl (cI, 4, .inl br122)), (qf, .inl (cI, 4, .inl fe122))] := hD
  exact W.vret hx hb hr (fun t ht hW => ⟨⟨(br122, fe122, fl122), rfl, hw122, by rw [ht]; exact hP, hD⟩, hS.F ht⟩) hS.2.2 dX0_place_12

abbrev rm_X0_mend : Room := { frames := 0, cells := 0, slots := 0, locals := 0 }
set_option maxHeartbeats 1000000 in
set_option maxRecDepth 100000 in
theorem c_X0_mend (l : Launch) (G : va_G) (cI cC cZ cG : ClassId) (sz : Nat) (qb qp qs qr qf : Nat) (pr sb br fe : IA) (fl : Int32) (tu : Int32) (me : Int32) : Met l yX0_mend (.code yX0_mend cX0_mend 4 none :: wsL_law) rm_X0_mend (va_Pc [.ref qb, .int tu, .int me] (bw G cI cC cZ cG false sz [(qb, .inr (0, [.ref qp, .ref qs, .ref qr, .ref qf, .int fl])), (qp, .inl (cI, 12, .inl pr)), (qs, .inl (cI, 12, .inl sb)), (qr, .inl (cI, 4, .inl br)), (qf, .inl (cI, 4, .inl fe))])) (va_Qv (fun (u : IA) => u = md fe tu me br 4) (fun (u : IA) t => va_P G vwCl [(qb, .inr (0, [.ref qp, .ref qs, .ref qr, .ref qf, .int fl])), (qp, .inl (cI, 12, .inl pr)), (qs, .inl (cI, 12, .inl sb)), (qr, .inl (cI, 4, .inl u)), (qf, .inl (cI, 4, .inl fe))] t.heap ∧ va_D (va_A [(qb, .inr (0, [.ref qp, .ref qs, .ref qr, .ref qf, .int fl])), (qp, .inl (cI, 12, .inl pr)), (qs, .inl (cI, 12, .inl sb)), (qr, .inl (cI, 4, .inl br)), (qf, .inl (cI, 4, .inl fe))] sz) [(qb, .inr (0, [.ref qp, .ref qs, .ref qr, .ref qf, .int fl])), (qp, .inl (cI, 12, .inl pr)), (qs, .inl (cI, 12, .inl sb)), (qr, .inl (cI, 4, .inl u)), (qf, .inl (cI, 4, .inl fe))]) (va_A [(qb, .inr (0, [.ref qp, .ref qs, .ref qr, .ref qf, .int fl])), (qp, .inl (cI, 12, .inl pr)), (qs, .inl (cI, 12, .inl sb)), (qr, .inl (cI, 4, .inl br)), (qf, .inl (cI, 4, .inl fe))] sz)) 0 0 (va_A [(qb, .inr (0, [.ref qp, .ref qs, .ref qr, .ref qf, .int fl])), (qp, .inl (cI, 12, .inl pr)), (qs, .inl (cI, 12, .inl sb)), (qr, .inl (cI, 4, .inl br)), (qf, .inl (cI, 4, .inl fe))] sz) := by
  refine met_bw rfl (Nat.le_of_ble_eq_true rfl) ?_
  intro p e s m below meth c ls hx hb hr hml hown hts hlocks hin hsz hP hK hD0 hX0 hl
  have hown : s.vm.findClass RX0 = some m.cls := hown
  have hl : lv_has ls 4 [(0, .ref qb), (1, .int tu), (2, .int me)] := hl
  subst hsz
  have hD := hD0.self (sz := s.heap.size)
  generalize hAe : va_A [(qb, .inr (0, [.ref qp, .ref qs, .ref qr, .ref qf, .int fl])), (qp, .inl (cI, 12, .inl pr)), (qs, .inl (cI, 12, .inl sb)), (qr, .inl (cI, 4, .inl br)), (qf, .inl (cI, 4, .inl fe))] s.heap.size = A at hD ⊢
  have hA : ∀ q : Nat, s.heap.size ≤ q → A q := fun q h => by rw [← hAe]; exact Or.inr h
  have hS : va_S A s.heap s.heap [] := va_S.rf
  generalize hQ : MQ below (va_Qv (fun (u : IA) => u = md fe tu me br 4) (fun (u : IA) t => va_P G vwCl [(qb, .inr (0, [.ref qp, .ref qs, .ref qr, .ref qf, .int fl])), (qp, .inl (cI, 12, .inl pr)), (qs, .inl (cI, 12, .inl sb)), (qr, .inl (cI, 4, .inl u)), (qf, .inl (cI, 4, .inl fe))] t.heap ∧ va_D A [(qb, .inr (0, [.ref qp, .ref qs, .ref qr, .ref qf, .int fl])), (qp, .inl (cI, 12, .inl pr)), (qs, .inl (cI, 12, .inl sb)), (qr, .inl (cI, 4, .inl u)), (qf, .inl (cI, 4, .inl fe))]) A) ([.ref qb, .int tu, .int me] : List Value).toArray s 0 0 A = Q
  generalize hag : ([.ref qb, .int tu, .int me] : List Value).toArray = ag at hts hQ ⊢
  refine lv_iconst (v := 0) hx hb dX0_mend_0 (by decide) ?_
  refine lv_istore_n (lv' := [(3, .int 0), (0, .ref qb), (1, .int tu), (2, .int me)]) hx hb dX0_mend_1 rfl hl (by decide) rfl (fun ls hl => ?_)
  have L1 : ∀ (n : Nat), ∀ (i : Nat), ∀ (a : IA), ∀ (hi : i ≤ 4), ∀ (hf : a = md fe tu me br i), ∀ (hn : 5 ≤ i + n), ∀ (H123 : Heap) (locs123 : List Loc), va_P G vwCl [(qb, .inr (0, [.ref qp, .ref qs, .ref qr, .ref qf, .int fl])), (qp, .inl (cI, 12, .inl pr)), (qs, .inl (cI, 12, .inl sb)), (qr, .inl (cI, 4, .inl a)), (qf, .inl (cI, 4, .inl fe))] H123 → va_D A [(qb, .inr (0, [.ref qp, .ref qs, .ref qr, .ref qf, .int fl])), (qp, .inl (cI, 12, .inl pr)), (qs, .inl (cI, 12, .inl sb)), (qr, .inl (cI, 4, .inl a)), (qf, .inl (cI, 4, .inl fe))] → va_S A s.heap H123 locs123 → ∀ (ls : Array Slot), lv_has ls 4 [(3, .int (nI i)), (0, .ref qb), (1, .int tu), (2, .int me)] → W p l e rm_X0_mend s m ag below meth c H123 locs123 0 0 Q (F0 m 2 ls []) := by
    intro n
    induction n with
    | zero =>
      intro i a hi hf hn H123 locs123 hP hD hS ls hl
      omega
    | succ n ih1 =>
      intro i a hi hf hn H123 locs123 hP hD hS ls hl
      refine lv_iload_n hx hb dX0_mend_2 rfl (lv_at hl 0 rfl) ?_
      refine lv_iconst (v := 4) hx hb dX0_mend_3 (by decide) ?_
      refine zi_ge (tgt := 46) hx hb i 4 dX0_mend_4 (by decide) rfl rfl (by omega) (by decide) (fun c_124 => ?_) (fun c_124 => ?_)
      · subst hQ
        exact W.vret hx hb hr (fun t ht hW => ⟨⟨a, rfl, by rw [hf, show i = 4 by omega], by rw [ht]; exact hP, hD⟩, hS.F ht⟩) hS.2.2 dX0_mend_46
      · refine lv_aload_n hx hb dX0_mend_7 rfl (lv_at hl 1 rfl) ?_
        refine va_get (D := G) (ci := 0) (v := .ref qr) (C := RX0) (T := TX0) (N := 5) hx hb hts inlX0 hown hK.1 hP 0 rfl rfl 2 (by decide) (hts _ wd50) (fun _ h9 => h9) rfl dX0_mend_8 ?_
        refine lv_iload_n hx hb dX0_mend_11 rfl (lv_at hl 0 rfl) ?_
        refine za_ld hx hb hK.1 hP 3 0 rfl rfl i rfl (by omega) (by decide) dX0_mend_12 ?_
        refine lv_iconst (v := 3) hx hb dX0_mend_13 (by decide) ?_
        refine lv_icmp_ne (tgt := 40) hx hb dX0_mend_14 (by decide) (fun c_125 => ?_) (fun c_125 => ?_)
        · refine lv_iinc (v := nI (i + 1)) (lv' := [(3, .int (nI (i + 1))), (0, .ref qb), (1, .int tu), (2, .int me)]) hx hb dX0_mend_40 hl (k := 0) rfl (nI_inc i) (by decide) rfl (fun ls hl => ?_)
          refine lv_goto (tgt := 2) hx hb dX0_mend_43 (by decide) ?_
          exact ih1 (i + 1) a (by omega) (by rw [md, ← hf, if_neg (by simp [c_125])]) (by omega) H123 locs123 hP hD hS _ (lv_sub hl [0, 1, 2, 3] rfl)
        · refine lv_iload_n hx hb dX0_mend_17 rfl (lv_at hl 3 rfl) ?_
          refine lv_if_eq (tgt := 40) hx hb dX0_mend_18 (by decide) (fun c_126 => ?_) (fun c_126 => ?_)
          · refine lv_iinc (v := nI (i + 1)) (lv' := [(3, .int (nI (i + 1))), (0, .ref qb), (1, .int tu), (2, .int me)]) hx hb dX0_mend_40 hl (k := 0) rfl (nI_inc i) (by decide) rfl (fun ls hl => ?_)
            refine lv_goto (tgt := 2) hx hb dX0_mend_43 (by decide) ?_
            exact ih1 (i + 1) a (by omega) (by rw [md, ← hf, if_neg (by simp [c_125, c_126])]) (by omega) H123 locs123 hP hD hS _ (lv_sub hl [0, 1, 2, 3] rfl)
          · refine lv_iload_n hx hb dX0_mend_21 rfl (lv_at hl 2 rfl) ?_
            refine lv_aload_n hx hb dX0_mend_22 rfl (lv_at hl 1 rfl) ?_
            refine va_get (D := G) (ci := 0) (v := .ref qf) (C := RX0) (T := TX0) (N := 5) hx hb hts inlX0 hown hK.1 hP 0 rfl rfl 3 (by decide) (hts _ wd51) (fun _ h9 => h9) rfl dX0_mend_23 ?_
            refine lv_iload_n hx hb dX0_mend_26 rfl (lv_at hl 0 rfl) ?_
            refine za_ld hx hb hK.1 hP 4 0 rfl rfl i rfl (by omega) (by decide) dX0_mend_27 ?_
            refine lv_isub hx hb dX0_mend_28 ?_
            refine lv_iload_n hx hb dX0_mend_29 rfl (lv_at hl 3 rfl) ?_
            refine lv_icmp_lt (tgt := 40) hx hb dX0_mend_30 (by decide) (fun c_127 => ?_) (fun c_127 => ?_)
            · refine lv_iinc (v := nI (i + 1)) (lv' := [(3, .int (nI (i + 1))), (0, .ref qb), (1, .int tu), (2, .int me)]) hx hb dX0_mend_40 hl (k := 0) rfl (nI_inc i) (by decide) rfl (fun ls hl => ?_)
              refine lv_goto (tgt := 2) hx hb dX0_mend_43 (by decide) ?_
              exact ih1 (i + 1) a (by omega) (by rw [md, ← hf, if_neg (by simp [c_125, c_126, c_127])]) (by omega) H123 locs123 hP hD hS _ (lv_sub hl [0, 1, 2, 3] rfl)
            · refine lv_aload_n hx hb dX0_mend_33 rfl (lv_at hl 1 rfl) ?_
              refine va_get (D := G) (ci := 0) (v := .ref qr) (C := RX0) (T := TX0) (N := 5) hx hb hts inlX0 hown hK.1 hP 0 rfl rfl 2 (by decide) (hts _ wd50) (fun _ h9 => h9) rfl dX0_mend_34 ?_
              refine lv_iload_n hx hb dX0_mend_37 rfl (lv_at hl 0 rfl) ?_
              refine lv_iconst (v := 1) hx hb dX0_mend_38 (by decide) ?_
              refine za_st hx hb hK.1 hP hD hS 3 0 rfl rfl i rfl (by omega) (by decide) dX0_mend_39 (fun H128 locs128 hP hD hS => ?_)
              have hP : va_P G vwCl [(qb, .inr (0, [.ref qp, .ref qs, .ref qr, .ref qf, .int fl])), (qp, .inl (cI, 12, .inl pr)), (qs, .inl (cI, 12, .inl sb)), (qr, .inl (cI, 4, .inl (upd a i 1))), (qf, .inl (cI, 4, .inl fe))] H128 := hP
              have hD : va_D A [(qb, .inr (0, [.ref qp, .ref qs, .ref qr, .ref qf, .int fl])), (qp, .inl (cI, 12, .inl pr)), (qs, .inl (cI, 12, .inl sb)), (qr, .inl (cI, 4, .inl (upd a i 1))), (qf, .inl (cI, 4, .inl fe))] := hD
              refine lv_iinc (v := nI (i + 1)) (lv' := [(3, .int (nI (i + 1))), (0, .ref qb), (1, .int tu), (2, .int me)]) hx hb dX0_mend_40 hl (k := 0) rfl (nI_inc i) (by decide) rfl (fun ls hl => ?_)
              refine lv_goto (tgt := 2) hx hb dX0_mend_43 (by decide) ?_
              exact ih1 (i + 1) (upd a i 1) (by omega) (by rw [md, ← hf, if_pos ⟨c_125, c_126, c_127⟩]) (by omega) H128 locs128 hP hD hS _ (lv_sub hl [0, 1, 2, 3] rfl)
  exact L1 5 0 br (by decide) rfl (by decide) s.heap [] hP hD hS _ (lv_sub hl [0, 1, 2, 3] rfl)

abbrev rm_X0_copyFrom : Room := { frames := 1, cells := 0, slots := 0, locals := 30 }
set_option maxHeartbeats 1000000 in
set_option maxRecDepth 100000 in
theorem c_X0_copyFrom (l : Launch) (G : va_G) (cI cC cZ cG : ClassId) (sz : Nat) (qb qp qs qr qf : Nat) (pr sb br fe : IA) (fl : Int32) (rb rp rs rr rf0 : Nat) (op os oR oe : IA) (ol : Int32) : Met l yX0_copyFrom (.code yX0_copyFrom cX0_copyFrom 2 none :: wsL_law) rm_X0_copyFrom (va_Pc [.ref qb, .ref rb] (bw G cI cC cZ cG false sz [(qb, .inr (0, [.ref qp, .ref qs, .ref qr, .ref qf, .int fl])), (qp, .inl (cI, 12, .inl pr)), (qs, .inl (cI, 12, .inl sb)), (qr, .inl (cI, 4, .inl br)), (qf, .inl (cI, 4, .inl fe)), (rb, .inr (0, [.ref rp, .ref rs, .ref rr, .ref rf0, .int ol])), (rp, .inl (cI, 12, .inl op)), (rs, .inl (cI, 12, .inl os)), (rr, .inl (cI, 4, .inl oR)), (rf0, .inl (cI, 4, .inl oe))])) (va_Qv (fun (u : Unit) => True) (fun (u : Unit) t => va_P G vwCl [(qb, .inr (0, [.ref qp, .ref qs, .ref qr, .ref qf, .int ol])), (qp, .inl (cI, 12, .inl (va_cpy op pr 0 0 12))), (qs, .inl (cI, 12, .inl (va_cpy os sb 0 0 12))), (qr, .inl (cI, 4, .inl (va_cpy oR br 0 0 4))), (qf, .inl (cI, 4, .inl (va_cpy oe fe 0 0 4))), (rb, .inr (0, [.ref rp, .ref rs, .ref rr, .ref rf0, .int ol])), (rp, .inl (cI, 12, .inl op)), (rs, .inl (cI, 12, .inl os)), (rr, .inl (cI, 4, .inl oR)), (rf0, .inl (cI, 4, .inl oe))] t.heap ∧ va_D (va_A [(qb, .inr (0, [.ref qp, .ref qs, .ref qr, .ref qf, .int fl])), (qp, .inl (cI, 12, .inl pr)), (qs, .inl (cI, 12, .inl sb)), (qr, .inl (cI, 4, .inl br)), (qf, .inl (cI, 4, .inl fe)), (rb, .inr (0, [.ref rp, .ref rs, .ref rr, .ref rf0, .int ol])), (rp, .inl (cI, 12, .inl op)), (rs, .inl (cI, 12, .inl os)), (rr, .inl (cI, 4, .inl oR)), (rf0, .inl (cI, 4, .inl oe))] sz) [(qb, .inr (0, [.ref qp, .ref qs, .ref qr, .ref qf, .int ol])), (qp, .inl (cI, 12, .inl (va_cpy op pr 0 0 12))), (qs, .inl (cI, 12, .inl (va_cpy os sb 0 0 12))), (qr, .inl (cI, 4, .inl (va_cpy oR br 0 0 4))), (qf, .inl (cI, 4, .inl (va_cpy oe fe 0 0 4))), (rb, .inr (0, [.ref rp, .ref rs, .ref rr, .ref rf0, .int ol])), (rp, .inl (cI, 12, .inl op)), (rs, .inl (cI, 12, .inl os)), (rr, .inl (cI, 4, .inl oR)), (rf0, .inl (cI, 4, .inl oe))]) (va_A [(qb, .inr (0, [.ref qp, .ref qs, .ref qr, .ref qf, .int fl])), (qp, .inl (cI, 12, .inl pr)), (qs, .inl (cI, 12, .inl sb)), (qr, .inl (cI, 4, .inl br)), (qf, .inl (cI, 4, .inl fe)), (rb, .inr (0, [.ref rp, .ref rs, .ref rr, .ref rf0, .int ol])), (rp, .inl (cI, 12, .inl op)), (rs, .inl (cI, 12, .inl os)), (rr, .inl (cI, 4, .inl oR)), (rf0, .inl (cI, 4, .inl oe))] sz)) 0 0 (va_A [(qb, .inr (0, [.ref qp, .ref qs, .ref qr, .ref qf, .int fl])), (qp, .inl (cI, 12, .inl pr)), (qs, .inl (cI, 12, .inl sb)), (qr, .inl (cI, 4, .inl br)), (qf, .inl (cI, 4, .inl fe)), (rb, .inr (0, [.ref rp, .ref rs, .ref rr, .ref rf0, .int ol])), (rp, .inl (cI, 12, .inl op)), (rs, .inl (cI, 12, .inl os)), (rr, .inl (cI, 4, .inl oR)), (rf0, .inl (cI, 4, .inl oe))] sz) := by
  refine met_bw rfl (Nat.le_of_ble_eq_true rfl) ?_
  intro p e s m below meth c ls hx hb hr hml hown hts hlocks hin hsz hP hK hD0 hX0 hl
  have hown : s.vm.findClass RX0 = some m.cls := hown
  have hl : lv_has ls 2 [(0, .ref qb), (1, .ref rb)] := hl
  subst hsz
  have hD := hD0.self (sz := s.heap.size)
  generalize hAe : va_A [(qb, .inr (0, [.ref qp, .ref qs, .ref qr, .ref qf, .int fl])), (qp, .inl (cI, 12, .inl pr)), (qs, .inl (cI, 12, .inl sb)), (qr, .inl (cI, 4, .inl br)), (qf, .inl (cI, 4, .inl fe)), (rb, .inr (0, [.ref rp, .ref rs, .ref rr, .ref rf0, .int ol])), (rp, .inl (cI, 12, .inl op)), (rs, .inl (cI, 12, .inl os)), (rr, .inl (cI, 4, .inl oR)), (rf0, .inl (cI, 4, .inl oe))] s.heap.size = A at hD ⊢
  have hA : ∀ q : Nat, s.heap.size ≤ q → A q := fun q h => by rw [← hAe]; exact Or.inr h
  have hS : va_S A s.heap s.heap [] := va_S.rf
  refine lv_aload_n hx hb dX0_copyFrom_0 rfl (lv_at hl 1 rfl) ?_
  refine va_get (D := G) (ci := 0) (v := .ref rp) (C := RX0) (T := TX0) (N := 5) hx hb hts inlX0 hown hK.1 hP 5 rfl rfl 0 (by decide) (hts _ wd48) (fun _ h9 => h9) rfl dX0_copyFrom_1 ?_
  refine lv_iconst (v := 0) hx hb dX0_copyFrom_4 (by decide) ?_
  refine lv_aload_n hx hb dX0_copyFrom_5 rfl (lv_at hl 0 rfl) ?_
  refine va_get (D := G) (ci := 0) (v := .ref qp) (C := RX0) (T := TX0) (N := 5) hx hb hts inlX0 hown hK.1 hP 0 rfl rfl 0 (by decide) (hts _ wd48) (fun _ h9 => h9) rfl dX0_copyFrom_6 ?_
  refine lv_iconst (v := 0) hx hb dX0_copyFrom_9 (by decide) ?_
  refine lv_bipush (v := 12) hx hb dX0_copyFrom_10 (by decide) ?_
  refine va_copyi (ty := .int) hx hb (by rw [hml]; exact hl.1.symm) hown (hts _ wd269) (hts _ wd42) (hts _ wd43) (hts _ wd44) hK.1 hP hD hS 6 1 0 0 rfl rfl rfl rfl rfl (by decide) (by decide) (by decide) (by decide) (by decide) (fun _ _ => rfl) (Nat.le_of_ble_eq_true rfl) (Nat.le_of_ble_eq_true rfl) dX0_copyFrom_12 (fun H129 locs129 hP hD hS => ?_)
  have hP : va_P G vwCl [(qb, .inr (0, [.ref qp, .ref qs, .ref qr, .ref qf, .int fl])), (qp, .inl (cI, 12, .inl (va_cpy op pr 0 0 12))), (qs, .inl (cI, 12, .inl sb)), (qr, .inl (cI, 4, .inl br)), (qf, .inl (cI, 4, .inl fe)), (rb, .inr (0, [.ref rp, .ref rs, .ref rr, .ref rf0, .int ol])), (rp, .inl (cI, 12, .inl op)), (rs, .inl (cI, 12, .inl os)), (rr, .inl (cI, 4, .inl oR)), (rf0, .inl (cI, 4, .inl oe))] H129 := hP
  have hD : va_D A [(qb, .inr (0, [.ref qp, .ref qs, .ref qr, .ref qf, .int fl])), (qp, .inl (cI, 12, .inl (va_cpy op pr 0 0 12))), (qs, .inl (cI, 12, .inl sb)), (qr, .inl (cI, 4, .inl br)), (qf, .inl (cI, 4, .inl fe)), (rb, .inr (0, [.ref rp, .ref rs, .ref rr, .ref rf0, .int ol])), (rp, .inl (cI, 12, .inl op)), (rs, .inl (cI, 12, .inl os)), (rr, .inl (cI, 4, .inl oR)), (rf0, .inl (cI, 4, .inl oe))] := hD
  refine lv_aload_n hx hb dX0_copyFrom_15 rfl (lv_at hl 1 rfl) ?_
  refine va_get (D := G) (ci := 0) (v := .ref rs) (C := RX0) (T := TX0) (N := 5) hx hb hts inlX0 hown hK.1 hP 5 rfl rfl 1 (by decide) (hts _ wd49) (fun _ h9 => h9) rfl dX0_copyFrom_16 ?_
  refine lv_iconst (v := 0) hx hb dX0_copyFrom_19 (by decide) ?_
  refine lv_aload_n hx hb dX0_copyFrom_20 rfl (lv_at hl 0 rfl) ?_
  refine va_get (D := G) (ci := 0) (v := .ref qs) (C := RX0) (T := TX0) (N := 5) hx hb hts inlX0 hown hK.1 hP 0 rfl rfl 1 (by decide) (hts _ wd49) (fun _ h9 => h9) rfl dX0_copyFrom_21 ?_
  refine lv_iconst (v := 0) hx hb dX0_copyFrom_24 (by decide) ?_
  refine lv_bipush (v := 12) hx hb dX0_copyFrom_25 (by decide) ?_
  refine va_copyi (ty := .int) hx hb (by rw [hml]; exact hl.1.symm) hown (hts _ wd269) (hts _ wd42) (hts _ wd43) (hts _ wd44) hK.1 hP hD hS 7 2 0 0 rfl rfl rfl rfl rfl (by decide) (by decide) (by decide) (by decide) (by decide) (fun _ _ => rfl) (Nat.le_of_ble_eq_true rfl) (Nat.le_of_ble_eq_true rfl) dX0_copyFrom_27 (fun H130 locs130 hP hD hS => ?_)
  have hP : va_P G vwCl [(qb, .inr (0, [.ref qp, .ref qs, .ref qr, .ref qf, .int fl])), (qp, .inl (cI, 12, .inl (va_cpy op pr 0 0 12))), (qs, .inl (cI, 12, .inl (va_cpy os sb 0 0 12))), (qr, .inl (cI, 4, .inl br)), (qf, .inl (cI, 4, .inl fe)), (rb, .inr (0, [.ref rp, .ref rs, .ref rr, .ref rf0, .int ol])), (rp, .inl (cI, 12, .inl op)), (rs, .inl (cI, 12, .inl os)), (rr, .inl (cI, 4, .inl oR)), (rf0, .inl (cI, 4, .inl oe))] H130 := hP
  have hD : va_D A [(qb, .inr (0, [.ref qp, .ref qs, .ref qr, .ref qf, .int fl])), (qp, .inl (cI, 12, .inl (va_cpy op pr 0 0 12))), (qs, .inl (cI, 12, .inl (va_cpy os sb 0 0 12))), (qr, .inl (cI, 4, .inl br)), (qf, .inl (cI, 4, .inl fe)), (rb, .inr (0, [.ref rp, .ref rs, .ref rr, .ref rf0, .int ol])), (rp, .inl (cI, 12, .inl op)), (rs, .inl (cI, 12, .inl os)), (rr, .inl (cI, 4, .inl oR)), (rf0, .inl (cI, 4, .inl oe))] := hD
  refine lv_aload_n hx hb dX0_copyFrom_30 rfl (lv_at hl 1 rfl) ?_
  refine va_get (D := G) (ci := 0) (v := .ref rr) (C := RX0) (T := TX0) (N := 5) hx hb hts inlX0 hown hK.1 hP 5 rfl rfl 2 (by decide) (hts _ wd50) (fun _ h9 => h9) rfl dX0_copyFrom_31 ?_
  refine lv_iconst (v := 0) hx hb dX0_copyFrom_34 (by decide) ?_
  refine lv_aload_n hx hb dX0_copyFrom_35 rfl (lv_at hl 0 rfl) ?_
  refine va_get (D := G) (ci := 0) (v := .ref qr) (C := RX0) (T := TX0) (N := 5) hx hb hts inlX0 hown hK.1 hP 0 rfl rfl 2 (by decide) (hts _ wd50) (fun _ h9 => h9) rfl dX0_copyFrom_36 ?_
  refine lv_iconst (v := 0) hx hb dX0_copyFrom_39 (by decide) ?_
  refine lv_iconst (v := 4) hx hb dX0_copyFrom_40 (by decide) ?_
  refine va_copyi (ty := .int) hx hb (by rw [hml]; exact hl.1.symm) hown (hts _ wd269) (hts _ wd42) (hts _ wd43) (hts _ wd44) hK.1 hP hD hS 8 3 0 0 rfl rfl rfl rfl rfl (by decide) (by decide) (by decide) (by decide) (by decide) (fun _ _ => rfl) (Nat.le_of_ble_eq_true rfl) (Nat.le_of_ble_eq_true rfl) dX0_copyFrom_41 (fun H131 locs131 hP hD hS => ?_)
  have hP : va_P G vwCl [(qb, .inr (0, [.ref qp, .ref qs, .ref qr, .ref qf, .int fl])), (qp, .inl (cI, 12, .inl (va_cpy op pr 0 0 12))), (qs, .inl (cI, 12, .inl (va_cpy os sb 0 0 12))), (qr, .inl (cI, 4, .inl (va_cpy oR br 0 0 4))), (qf, .inl (cI, 4, .inl fe)), (rb, .inr (0, [.ref rp, .ref rs, .ref rr, .ref rf0, .int ol])), (rp, .inl (cI, 12, .inl op)), (rs, .inl (cI, 12, .inl os)), (rr, .inl (cI, 4, .inl oR)), (rf0, .inl (cI, 4, .inl oe))] H131 := hP
  have hD : va_D A [(qb, .inr (0, [.ref qp, .ref qs, .ref qr, .ref qf, .int fl])), (qp, .inl (cI, 12, .inl (va_cpy op pr 0 0 12))), (qs, .inl (cI, 12, .inl (va_cpy os sb 0 0 12))), (qr, .inl (cI, 4, .inl (va_cpy oR br 0 0 4))), (qf, .inl (cI, 4, .inl fe)), (rb, .inr (0, [.ref rp, .ref rs, .ref rr, .ref rf0, .int ol])), (rp, .inl (cI, 12, .inl op)), (rs, .inl (cI, 12, .inl os)), (rr, .inl (cI, 4, .inl oR)), (rf0, .inl (cI, 4, .inl oe))] := hD
  refine lv_aload_n hx hb dX0_copyFrom_44 rfl (lv_at hl 1 rfl) ?_
  refine va_get (D := G) (ci := 0) (v := .ref rf0) (C := RX0) (T := TX0) (N := 5) hx hb hts inlX0 hown hK.1 hP 5 rfl rfl 3 (by decide) (hts _ wd51) (fun _ h9 => h9) rfl dX0_copyFrom_45 ?_
  refine lv_iconst (v := 0) hx hb dX0_copyFrom_48 (by decide) ?_
  refine lv_aload_n hx hb dX0_copyFrom_49 rfl (lv_at hl 0 rfl) ?_
  refine va_get (D := G) (ci := 0) (v := .ref qf) (C := RX0) (T := TX0) (N := 5) hx hb hts inlX0 hown hK.1 hP 0 rfl rfl 3 (by decide) (hts _ wd51) (fun _ h9 => h9) rfl dX0_copyFrom_50 ?_
  refine lv_iconst (v := 0) hx hb dX0_copyFrom_53 (by decide) ?_
  refine lv_iconst (v := 4) hx hb dX0_copyFrom_54 (by decide) ?_
  refine va_copyi (ty := .int) hx hb (by rw [hml]; exact hl.1.symm) hown (hts _ wd269) (hts _ wd42) (hts _ wd43) (hts _ wd44) hK.1 hP hD hS 9 4 0 0 rfl rfl rfl rfl rfl (by decide) (by decide) (by decide) (by decide) (by decide) (fun _ _ => rfl) (Nat.le_of_ble_eq_true rfl) (Nat.le_of_ble_eq_true rfl) dX0_copyFrom_55 (fun H132 locs132 hP hD hS => ?_)
  have hP : va_P G vwCl [(qb, .inr (0, [.ref qp, .ref qs, .ref qr, .ref qf, .int fl])), (qp, .inl (cI, 12, .inl (va_cpy op pr 0 0 12))), (qs, .inl (cI, 12, .inl (va_cpy os sb 0 0 12))), (qr, .inl (cI, 4, .inl (va_cpy oR br 0 0 4))), (qf, .inl (cI, 4, .inl (va_cpy oe fe 0 0 4))), (rb, .inr (0, [.ref rp, .ref rs, .ref rr, .ref rf0, .int ol])), (rp, .inl (cI, 12, .inl op)), (rs, .inl (cI, 12, .inl os)), (rr, .inl (cI, 4, .inl oR)), (rf0, .inl (cI, 4, .inl oe))] H132 := hP
  have hD : va_D A [(qb, .inr (0, [.ref qp, .ref qs, .ref qr, .ref qf, .int fl])), (qp, .inl (cI, 12, .inl (va_cpy op pr 0 0 12))), (qs, .inl (cI, 12, .inl (va_cpy os sb 0 0 12))), (qr, .inl (cI, 4, .inl (va_cpy oR br 0 0 4))), (qf, .inl (cI, 4, .inl (va_cpy oe fe 0 0 4))), (rb, .inr (0, [.ref rp, .ref rs, .ref rr, .ref rf0, .int ol])), (rp, .inl (cI, 12, .inl op)), (rs, .inl (cI, 12, .inl os)), (rr, .inl (cI, 4, .inl oR)), (rf0, .inl (cI, 4, .inl oe))] := hD
  refine lv_aload_n hx hb dX0_copyFrom_58 rfl (lv_at hl 0 rfl) ?_
  refine lv_aload_n hx hb dX0_copyFrom_59 rfl (lv_at hl 1 rfl) ?_
  refine va_get (D := G) (ci := 0) (v := .int ol) (C := RX0) (T := TX0) (N := 5) hx hb hts inlX0 hown hK.1 hP 5 rfl rfl 4 (by decide) (hts _ wd52) (fun _ h9 => h9) rfl dX0_copyFrom_60 ?_
  refine va_put (D := G) (ci := 0) (v := .int ol) (ty := .int) (C := RX0) (T := TX0) (N := 5) hx hb hts inlX0 tyX0 tyX0_ok nmX0 hown hK.1 hP hD hS 0 rfl rfl 4 (by decide) (hts _ wd52) (fun _ h9 => h9) rfl (by decide +kernel) rfl rfl (Nat.le_of_ble_eq_true rfl) dX0_copyFrom_63 (fun H133 locs133 hP hD hS => ?_)
  have hP : va_P G vwCl [(qb, .inr (0, [.ref qp, .ref qs, .ref qr, .ref qf, .int ol])), (qp, .inl (cI, 12, .inl (va_cpy op pr 0 0 12))), (qs, .inl (cI, 12, .inl (va_cpy os sb 0 0 12))), (qr, .inl (cI, 4, .inl (va_cpy oR br 0 0 4))), (qf, .inl (cI, 4, .inl (va_cpy oe fe 0 0 4))), (rb, .inr (0, [.ref rp, .ref rs, .ref rr, .ref rf0, .int ol])), (rp, .inl (cI, 12, .inl op)), (rs, .inl (cI, 12, .inl os)), (rr, .inl (cI, 4, .inl oR)), (rf0, .inl (cI, 4, .inl oe))] H133 := hP
  have hD : va_D A [(qb, .inr (0, [.ref qp, .ref qs, .ref qr, .ref qf, .int ol])), (qp, .inl (cI, 12, .inl (va_cpy op pr 0 0 12))), (qs, .inl (cI, 12, .inl (va_cpy os sb 0 0 12))), (qr, .inl (cI, 4, .inl (va_cpy oR br 0 0 4))), (qf, .inl (cI, 4, .inl (va_cpy oe fe 0 0 4))), (rb, .inr (0, [.ref rp, .ref rs, .ref rr, .ref rf0, .int ol])), (rp, .inl (cI, 12, .inl op)), (rs, .inl (cI, 12, .inl os)), (rr, .inl (cI, 4, .inl oR)), (rf0, .inl (cI, 4, .inl oe))] := hD
  exact W.vret hx hb hr (fun t ht hW => ⟨⟨(), rfl, trivial, by rw [ht]; exact hP, hD⟩, hS.F ht⟩) hS.2.2 dX0_copyFrom_66
