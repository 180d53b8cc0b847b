abbrev rm_X5_piece : Room := { frames := 2, cells := 0, slots := 0, locals := 46 }
theorem cf_RX5_116 {R : Room} {s : State} {args : Array Value} (ht : ∀ w ∈ wsL_law, w.before args s = true) (hR : rm_X5_isNoPiece.frames + 1 ≤ R.frames ∧ 8 + (1 + 11) + rm_X5_isNoPiece.locals ≤ R.locals) : CallB R s args RX5 116 yX5_isNoPiece cX5_isNoPiece 1 (some .boolean) (.code yX5_isNoPiece cX5_isNoPiece 1 (some .boolean) :: wsL_law) rm_X5_isNoPiece 0 0 1 ∧ (Cond.static yX5_isNoPiece).before args s = true := ⟨cw_B 1 ht wd81 wd2 wd83 (by decide +kernel) rfl rfl hR, ht _ wd82⟩
theorem cf_RX5_138 {R : Room} {s : State} {args : Array Value} (ht : ∀ w ∈ wsL_law, w.before args s = true) (hN : ∀ w ∈ nestW, va_Nw w s) (hR : rm_X0_fieldOf.frames + 1 ≤ R.frames ∧ 8 + (2 + 11) + rm_X0_fieldOf.locals ≤ R.locals) : va_CN R s args RX5 138 yX0_fieldOf "BridgedPachisi" cX0_fieldOf 2 (some .int) (.code yX0_fieldOf cX0_fieldOf 2 (some .int) :: wsL_law) rm_X0_fieldOf 0 0 1 ∧ (Cond.instanceMethod yX0_fieldOf).before args s = true ∧ (Cond.selects RX0 yX0_fieldOf yX0_fieldOf).before args s = true := ⟨cw_N 1 ht hN nw21 wd33 wd86 (by decide +kernel) rfl rfl hR, ht _ wd84, ht _ wd85⟩
theorem cf_RX5_141 {R : Room} {s : State} {args : Array Value} (ht : ∀ w ∈ wsL_law, w.before args s = true) (hN : ∀ w ∈ nestW, va_Nw w s) (hR : rm_X0_isInPair.frames + 1 ≤ R.frames ∧ 8 + (2 + 11) + rm_X0_isInPair.locals ≤ R.locals) : va_CN R s args RX5 141 yX0_isInPair "BridgedPachisi" cX0_isInPair 2 (some .boolean) (.code yX0_isInPair cX0_isInPair 2 (some .boolean) :: wsL_law) rm_X0_isInPair 0 0 1 ∧ (Cond.instanceMethod yX0_isInPair).before args s = true ∧ (Cond.selects RX0 yX0_isInPair yX0_isInPair).before args s = true := ⟨cw_N 1 ht hN nw23 wd33 wd91 (by decide +kernel) rfl rfl hR, ht _ wd89, ht _ wd90⟩
set_option maxHeartbeats 1000000 in
set_option maxRecDepth 100000 in
theorem c_X5_piece (l : Launch) (G : va_G) (cI cC cZ cG : ClassId) (sz : Nat) (qX wg qR qd qh qk : Nat) (qg qt qb qp qs qr qf : Nat) (pr sb br fe se : IA) (fl x : Int32) (pl : Nat) (th tu ca : Int32) (k0 w0 : Int32) : Met l yX5_piece (.code yX5_piece cX5_piece 3 (some .int) :: wsL_law) rm_X5_piece (va_Pc [.ref qX, .int k0, .int w0] (bw G cI cC cZ cG false sz [(qX, .inr (5, [.ref qg, .ref wg, .ref qR, .ref qd, .ref qh, .ref qk])), (qg, .inr (1, [.ref qb, .ref qt, .int x, .int (nI pl), .int th, .int tu, .int ca])), (qt, .inl (cI, 3, .inl se)), (qb, .inr (0, [.ref qp, .ref qs, .ref qr, .ref qf, .int fl])), (qp, .inl (cI, 12, .inl pr)), (qs, .inl (cI, 12, .inl sb)), (qr, .inl (cI, 4, .inl br)), (qf, .inl (cI, 4, .inl fe))])) (vp_Si (fun r => r = p_piece k0 w0 pr sb)) 0 0 (fun _ => False) := by
  refine met_bw rfl (Nat.le_of_ble_eq_true rfl) ?_
  intro p e s m below meth c ls hx hb hr hml hown hts hlocks hin hsz hP hK hD0 hX0 hl
  have hown : s.vm.findClass RX5 = some m.cls := hown
  have hl : lv_has ls 3 [(0, .ref qX), (1, .int k0), (2, .int w0)] := hl
  refine lv_iload_n hx hb dX5_piece_0 rfl (lv_at hl 1 rfl) ?_
  refine vp_callSi (va_Run.run (va_runS (As := [.int k0]) (rest := []) ⟨hx, hb, hml, hown, hts⟩ (c_X5_isNoPiece l k0) (cf_RX5_116 hts ⟨Nat.le_of_ble_eq_true rfl, Nat.le_of_ble_eq_true rfl⟩) pre_P rfl rfl hl.1 rfl (lv_room (Nat.le_of_ble_eq_true rfl)) dX5_piece_1 ⟨Nat.le_of_ble_eq_true rfl, Nat.le_of_ble_eq_true rfl⟩)) (fun r309 hr309 => ?_)
  subst hr309
  refine zb_eq (tgt := 9) hx hb dX5_piece_4 (by decide) (fun c_310 => ?_) (fun c_310 => ?_)
  · obtain ⟨j, hj, rfl⟩ := np_ok c_310
    refine lv_iload_n hx hb dX5_piece_9 rfl (lv_at hl 2 rfl) ?_
    rcases sw_cases2 0 3 w0 with hsw311 | ⟨j311, hg311, hj311, hsw311⟩
    · refine lv_tableOut (tgt := 98) hx hb dX5_piece_10 hsw311 (by decide) ?_
      refine lv_bipush (v := (-2)) hx hb dX5_piece_98 (by decide) ?_
      exact W.iret (v := (-2)) hx hb hr (fun t ht hW => ⟨(-2), rfl, by rw [p_piece, if_neg (c_310), (show (nI j).toNatClampNeg = j from nI_clamp (by omega)), if_neg (show ¬ w0 = 0 from sw_ne hsw311 (by decide)), if_neg (show ¬ w0 = 1 from sw_ne hsw311 (by decide)), if_neg (show ¬ w0 = 2 from sw_ne hsw311 (by decide)), if_neg (show ¬ w0 = 3 from sw_ne hsw311 (by decide))], ht⟩) (fun _ h => absurd h List.not_mem_nil) dX5_piece_100
    · rcases (show j311 = 0 ∨ j311 = 1 ∨ j311 = 2 ∨ j311 = 3 by omega) with rfl | rfl | rfl | rfl
      · refine lv_tableIn (off := 30) (tgt := 40) hx hb dX5_piece_10 (by rw [hsw311]; decide) (by rw [hsw311]; decide) (by rw [hsw311]; rfl) (by decide) ?_
        refine lv_aload_n hx hb dX5_piece_40 rfl (lv_at hl 0 rfl) ?_
        refine va_get (D := G) (ci := 5) (v := .ref qg) (C := RX5) (T := TX5) (N := 6) hx hb hts inlX5 hown hK.1 hP 0 rfl rfl 0 (by decide) (hts _ wd13) (fun _ h9 => h9) rfl dX5_piece_41 ?_
        refine va_getN (D := G) (ci := 1) (v := .ref qb) (C := RX1) (T := TX1) (N := 7) hx hb hts inlX1 hown hK.1 hP 1 rfl rfl 0 (by decide) (va_Nw.use rfl (hK.2 _ nw9)) (fun _ h9 => h9) rfl dX5_piece_44 ?_
        refine va_getN (D := G) (ci := 0) (v := .ref qp) (C := RX0) (T := TX0) (N := 5) hx hb hts inlX0 hown hK.1 hP 3 rfl rfl 0 (by decide) (va_Nw.use rfl (hK.2 _ nw3)) (fun _ h9 => h9) rfl dX5_piece_47 ?_
        refine lv_iload_n hx hb dX5_piece_50 rfl (lv_at hl 1 rfl) ?_
        refine za_ld hx hb hK.1 hP 4 0 rfl rfl j rfl (by omega) (by decide) dX5_piece_51 ?_
        exact W.iret (v := pr j) hx hb hr (fun t ht hW => ⟨pr j, rfl, by rw [p_piece, if_neg (c_310), (show (nI j).toNatClampNeg = j from nI_clamp (by omega)), if_pos (show w0 = 0 from hsw311)], ht⟩) (fun _ h => absurd h List.not_mem_nil) dX5_piece_52
      · refine lv_tableIn (off := 43) (tgt := 53) hx hb dX5_piece_10 (by rw [hsw311]; decide) (by rw [hsw311]; decide) (by rw [hsw311]; rfl) (by decide) ?_
        refine lv_aload_n hx hb dX5_piece_53 rfl (lv_at hl 0 rfl) ?_
        refine va_get (D := G) (ci := 5) (v := .ref qg) (C := RX5) (T := TX5) (N := 6) hx hb hts inlX5 hown hK.1 hP 0 rfl rfl 0 (by decide) (hts _ wd13) (fun _ h9 => h9) rfl dX5_piece_54 ?_
        refine va_getN (D := G) (ci := 1) (v := .ref qb) (C := RX1) (T := TX1) (N := 7) hx hb hts inlX1 hown hK.1 hP 1 rfl rfl 0 (by decide) (va_Nw.use rfl (hK.2 _ nw9)) (fun _ h9 => h9) rfl dX5_piece_57 ?_
        refine lv_iload_n hx hb dX5_piece_60 rfl (lv_at hl 1 rfl) ?_
        have hPc := hP.sub (ws' := [(qb, .inr (0, [.ref qp, .ref qs, .ref qr, .ref qf, .int fl])), (qp, .inl (cI, 12, .inl pr)), (qs, .inl (cI, 12, .inl sb)), (qr, .inl (cI, 4, .inl br)), (qf, .inl (cI, 4, .inl fe))]) [3, 4, 5, 6, 7] rfl
        have hDc := (hD0.sub (ws' := [(qb, .inr (0, [.ref qp, .ref qs, .ref qr, .ref qf, .int fl])), (qp, .inl (cI, 12, .inl pr)), (qs, .inl (cI, 12, .inl sb)), (qr, .inl (cI, 4, .inl br)), (qf, .inl (cI, 4, .inl fe))]) [3, 4, 5, 6, 7] (by decide) rfl).tt
        refine vp_callSi (va_Run.run (va_runVN (As := [.int (nI j)]) (rest := []) ⟨hx, hb, hml, hown, hts⟩ (c_X0_fieldOf l G cI cC cZ cG s.heap.size qb qp qs qr qf pr sb br fe fl j (by omega)) (cf_RX5_138 hts hK.2 ⟨Nat.le_of_ble_eq_true rfl, Nat.le_of_ble_eq_true rfl⟩) (pre_V hK hPc hDc (ci := 0) (q0 := 0) rfl rfl) rfl rfl hl.1 rfl (lv_room (Nat.le_of_ble_eq_true rfl)) dX5_piece_61 ⟨Nat.le_of_ble_eq_true rfl, Nat.le_of_ble_eq_true rfl⟩)) (fun r312 hr312 => ?_)
        subst hr312
        exact W.iret (v := rf (j / 3) (pr j)) hx hb hr (fun t ht hW => ⟨rf (j / 3) (pr j), rfl, by rw [p_piece, if_neg (c_310), (show (nI j).toNatClampNeg = j from nI_clamp (by omega)), if_neg (show ¬ w0 = 0 by rw [hsw311]; decide), if_pos (show w0 = 1 from hsw311)], ht⟩) (fun _ h => absurd h List.not_mem_nil) dX5_piece_64
      · refine lv_tableIn (off := 55) (tgt := 65) hx hb dX5_piece_10 (by rw [hsw311]; decide) (by rw [hsw311]; decide) (by rw [hsw311]; rfl) (by decide) ?_
        refine lv_aload_n hx hb dX5_piece_65 rfl (lv_at hl 0 rfl) ?_
        refine va_get (D := G) (ci := 5) (v := .ref qg) (C := RX5) (T := TX5) (N := 6) hx hb hts inlX5 hown hK.1 hP 0 rfl rfl 0 (by decide) (hts _ wd13) (fun _ h9 => h9) rfl dX5_piece_66 ?_
        refine va_getN (D := G) (ci := 1) (v := .ref qb) (C := RX1) (T := TX1) (N := 7) hx hb hts inlX1 hown hK.1 hP 1 rfl rfl 0 (by decide) (va_Nw.use rfl (hK.2 _ nw9)) (fun _ h9 => h9) rfl dX5_piece_69 ?_
        refine lv_iload_n hx hb dX5_piece_72 rfl (lv_at hl 1 rfl) ?_
        have hPc := hP.sub (ws' := [(qb, .inr (0, [.ref qp, .ref qs, .ref qr, .ref qf, .int fl])), (qp, .inl (cI, 12, .inl pr)), (qs, .inl (cI, 12, .inl sb)), (qr, .inl (cI, 4, .inl br)), (qf, .inl (cI, 4, .inl fe))]) [3, 4, 5, 6, 7] rfl
        have hDc := (hD0.sub (ws' := [(qb, .inr (0, [.ref qp, .ref qs, .ref qr, .ref qf, .int fl])), (qp, .inl (cI, 12, .inl pr)), (qs, .inl (cI, 12, .inl sb)), (qr, .inl (cI, 4, .inl br)), (qf, .inl (cI, 4, .inl fe))]) [3, 4, 5, 6, 7] (by decide) rfl).tt
        refine vp_callSi (va_Run.run (va_runVN (As := [.int (nI j)]) (rest := []) ⟨hx, hb, hml, hown, hts⟩ (c_X0_isInPair l G cI cC cZ cG s.heap.size qb qp qs qr qf pr sb br fe fl j (by omega)) (cf_RX5_141 hts hK.2 ⟨Nat.le_of_ble_eq_true rfl, Nat.le_of_ble_eq_true rfl⟩) (pre_V hK hPc hDc (ci := 0) (q0 := 0) rfl rfl) rfl rfl hl.1 rfl (lv_room (Nat.le_of_ble_eq_true rfl)) dX5_piece_73 ⟨Nat.le_of_ble_eq_true rfl, Nat.le_of_ble_eq_true rfl⟩)) (fun r313 hr313 => ?_)
        subst hr313
        refine zb_eq (tgt := 83) hx hb dX5_piece_76 (by decide) (fun c_314 => ?_) (fun c_314 => ?_)
        · refine lv_iconst (v := 0) hx hb dX5_piece_83 (by decide) ?_
          exact W.iret (v := 0) hx hb hr (fun t ht hW => ⟨0, rfl, by rw [p_piece, if_neg (c_310), (show (nI j).toNatClampNeg = j from nI_clamp (by omega)), if_neg (show ¬ w0 = 0 by rw [hsw311]; decide), if_neg (show ¬ w0 = 1 by rw [hsw311]; decide), if_pos (show w0 = 2 from hsw311), if_neg c_314], ht⟩) (fun _ h => absurd h List.not_mem_nil) dX5_piece_84
        · refine lv_iconst (v := 1) hx hb dX5_piece_79 (by decide) ?_
          refine lv_goto (tgt := 84) hx hb dX5_piece_80 (by decide) ?_
          exact W.iret (v := 1) hx hb hr (fun t ht hW => ⟨1, rfl, by rw [p_piece, if_neg (c_310), (show (nI j).toNatClampNeg = j from nI_clamp (by omega)), if_neg (show ¬ w0 = 0 by rw [hsw311]; decide), if_neg (show ¬ w0 = 1 by rw [hsw311]; decide), if_pos (show w0 = 2 from hsw311), if_pos c_314], ht⟩) (fun _ h => absurd h List.not_mem_nil) dX5_piece_84
      · refine lv_tableIn (off := 75) (tgt := 85) hx hb dX5_piece_10 (by rw [hsw311]; decide) (by rw [hsw311]; decide) (by rw [hsw311]; rfl) (by decide) ?_
        refine lv_aload_n hx hb dX5_piece_85 rfl (lv_at hl 0 rfl) ?_
        refine va_get (D := G) (ci := 5) (v := .ref qg) (C := RX5) (T := TX5) (N := 6) hx hb hts inlX5 hown hK.1 hP 0 rfl rfl 0 (by decide) (hts _ wd13) (fun _ h9 => h9) rfl dX5_piece_86 ?_
        refine va_getN (D := G) (ci := 1) (v := .ref qb) (C := RX1) (T := TX1) (N := 7) hx hb hts inlX1 hown hK.1 hP 1 rfl rfl 0 (by decide) (va_Nw.use rfl (hK.2 _ nw9)) (fun _ h9 => h9) rfl dX5_piece_89 ?_
        refine va_getN (D := G) (ci := 0) (v := .ref qs) (C := RX0) (T := TX0) (N := 5) hx hb hts inlX0 hown hK.1 hP 3 rfl rfl 1 (by decide) (va_Nw.use rfl (hK.2 _ nw4)) (fun _ h9 => h9) rfl dX5_piece_92 ?_
        refine lv_iload_n hx hb dX5_piece_95 rfl (lv_at hl 1 rfl) ?_
        refine za_ld hx hb hK.1 hP 5 0 rfl rfl j rfl (by omega) (by decide) dX5_piece_96 ?_
        exact W.iret (v := sb j) hx hb hr (fun t ht hW => ⟨sb j, rfl, by rw [p_piece, if_neg (c_310), (show (nI j).toNatClampNeg = j from nI_clamp (by omega)), if_neg (show ¬ w0 = 0 by rw [hsw311]; decide), if_neg (show ¬ w0 = 1 by rw [hsw311]; decide), if_neg (show ¬ w0 = 2 by rw [hsw311]; decide), if_pos (show w0 = 3 from hsw311)], ht⟩) (fun _ h => absurd h List.not_mem_nil) dX5_piece_97
  · refine lv_iconst (v := (-1)) hx hb dX5_piece_7 (by decide) ?_
    exact W.iret (v := (-1)) hx hb hr (fun t ht hW => ⟨(-1), rfl, by rw [p_piece, if_pos (c_310)], ht⟩) (fun _ h => absurd h List.not_mem_nil) dX5_piece_8

abbrev rm_X5_field : Room := { frames := 2, cells := 0, slots := 0, locals := 52 }
theorem cf_RX5_147 {R : Room} {s : State} {args : Array Value} (ht : ∀ w ∈ wsL_law, w.before args s = true) (hN : ∀ w ∈ nestW, va_Nw w s) (hR : rm_X0_piecesOn.frames + 1 ≤ R.frames ∧ 8 + (4 + 11) + rm_X0_piecesOn.locals ≤ R.locals) : va_CN R s args RX5 147 yX0_piecesOn "BridgedPachisi" cX0_piecesOn 4 (some .int) (.code yX0_piecesOn cX0_piecesOn 4 (some .int) :: wsL_law) rm_X0_piecesOn 0 0 1 ∧ (Cond.instanceMethod yX0_piecesOn).before args s = true ∧ (Cond.selects RX0 yX0_piecesOn yX0_piecesOn).before args s = true := ⟨cw_N 1 ht hN nw25 wd33 wd107 (by decide +kernel) rfl rfl hR, ht _ wd105, ht _ wd106⟩
theorem cf_RX5_150 {R : Room} {s : State} {args : Array Value} (ht : ∀ w ∈ wsL_law, w.before args s = true) (hN : ∀ w ∈ nestW, va_Nw w s) (hR : rm_X0_lowestOn.frames + 1 ≤ R.frames ∧ 8 + (3 + 11) + rm_X0_lowestOn.locals ≤ R.locals) : va_CN R s args RX5 150 yX0_lowestOn "BridgedPachisi" cX0_lowestOn 3 (some .int) (.code yX0_lowestOn cX0_lowestOn 3 (some .int) :: wsL_law) rm_X0_lowestOn 0 0 1 ∧ (Cond.instanceMethod yX0_lowestOn).before args s = true ∧ (Cond.selects RX0 yX0_lowestOn yX0_lowestOn).before args s = true := ⟨cw_N 1 ht hN nw26 wd33 wd110 (by decide +kernel) rfl rfl hR, ht _ wd108, ht _ wd109⟩
theorem cf_RX5_153 {R : Room} {s : State} {args : Array Value} (ht : ∀ w ∈ wsL_law, w.before args s = true) (hR : rm_X5_isSafe.frames + 1 ≤ R.frames ∧ 8 + (1 + 11) + rm_X5_isSafe.locals ≤ R.locals) : CallB R s args RX5 153 yX5_isSafe cX5_isSafe 1 (some .boolean) (.code yX5_isSafe cX5_isSafe 1 (some .boolean) :: wsL_law) rm_X5_isSafe 0 0 1 ∧ (Cond.static yX5_isSafe).before args s = true := ⟨cw_B 1 ht wd111 wd2 wd113 (by decide +kernel) rfl rfl hR, ht _ wd112⟩
theorem cf_RX5_156 {R : Room} {s : State} {args : Array Value} (ht : ∀ w ∈ wsL_law, w.before args s = true) (hN : ∀ w ∈ nestW, va_Nw w s) (hR : rm_X0_bridgeState.frames + 1 ≤ R.frames ∧ 8 + (3 + 11) + rm_X0_bridgeState.locals ≤ R.locals) : va_CN R s args RX5 156 yX0_bridgeState "BridgedPachisi" cX0_bridgeState 3 (some .int) (.code yX0_bridgeState cX0_bridgeState 3 (some .int) :: wsL_law) rm_X0_bridgeState 0 0 1 ∧ (Cond.instanceMethod yX0_bridgeState).before args s = true ∧ (Cond.selects RX0 yX0_bridgeState yX0_bridgeState).before args s = true := ⟨cw_N 1 ht hN nw27 wd33 wd116 (by decide +kernel) rfl rfl hR, ht _ wd114, ht _ wd115⟩
theorem cf_RX5_159 {R : Room} {s : State} {args : Array Value} (ht : ∀ w ∈ wsL_law, w.before args s = true) (hN : ∀ w ∈ nestW, va_Nw w s) (hR : rm_X1_turnsUntilMended.frames + 1 ≤ R.frames ∧ 8 + (3 + 11) + rm_X1_turnsUntilMended.locals ≤ R.locals) : va_CN R s args RX5 159 yX1_turnsUntilMended "BridgedPachisi" cX1_turnsUntilMended 3 (some .int) (.code yX1_turnsUntilMended cX1_turnsUntilMended 3 (some .int) :: wsL_law) rm_X1_turnsUntilMended 0 0 1 ∧ (Cond.instanceMethod yX1_turnsUntilMended).before args s = true ∧ (Cond.selects RX1 yX1_turnsUntilMended yX1_turnsUntilMended).before args s = true := ⟨cw_N 1 ht hN nw29 wd12 wd121 (by decide +kernel) rfl rfl hR, ht _ wd119, ht _ wd120⟩
set_option maxHeartbeats 1000000 in
set_option maxRecDepth 100000 in
theorem c_X5_field (l : Launch) (G : va_G) (cI cC cZ cG : ClassId) (sz : Nat) (qX wg qR qd qh qk : Nat) (qg qt qb qp qs qr qf : Nat) (pr sb br fe se : IA) (fl x : Int32) (pl : Nat) (th tu ca : Int32) (k0 w0 : Int32) : Met l yX5_field (.code yX5_field cX5_field 3 (some .int) :: wsL_law) rm_X5_field (va_Pc [.ref qX, .int k0, .int w0] (bw G cI cC cZ cG false sz [(qX, .inr (5, [.ref qg, .ref wg, .ref qR, .ref qd, .ref qh, .ref qk])), (qg, .inr (1, [.ref qb, .ref qt, .int x, .int (nI pl), .int th, .int tu, .int ca])), (qt, .inl (cI, 3, .inl se)), (qb, .inr (0, [.ref qp, .ref qs, .ref qr, .ref qf, .int fl])), (qp, .inl (cI, 12, .inl pr)), (qs, .inl (cI, 12, .inl sb)), (qr, .inl (cI, 4, .inl br)), (qf, .inl (cI, 4, .inl fe))])) (vp_Si (fun r => r = p_field k0 w0 pr br fe se tu)) 0 0 (fun _ => False) := by
  refine met_bw rfl (Nat.le_of_ble_eq_true rfl) ?_
  intro p e s m below meth c ls hx hb hr hml hown hts hlocks hin hsz hP hK hD0 hX0 hl
  have hown : s.vm.findClass RX5 = some m.cls := hown
  have hl : lv_has ls 3 [(0, .ref qX), (1, .int k0), (2, .int w0)] := hl
  refine lv_iload_n hx hb dX5_field_0 rfl (lv_at hl 1 rfl) ?_
  refine lv_if_lt (tgt := 10) hx hb dX5_field_1 (by decide) (fun c_315 => ?_) (fun c_315 => ?_)
  · refine lv_iconst (v := (-1)) hx hb dX5_field_10 (by decide) ?_
    exact W.iret (v := (-1)) hx hb hr (fun t ht hW => ⟨(-1), rfl, by rw [p_field, if_pos (Or.inl c_315)], ht⟩) (fun _ h => absurd h List.not_mem_nil) dX5_field_11
  · refine lv_iload_n hx hb dX5_field_4 rfl (lv_at hl 1 rfl) ?_
    refine lv_bipush (v := 32) hx hb dX5_field_5 (by decide) ?_
    refine lv_icmp_lt (tgt := 12) hx hb dX5_field_7 (by decide) (fun c_316 => ?_) (fun c_316 => ?_)
    · have hkj := rg_ok (c := 32) (by decide) (by decide) c_315 c_316
      obtain ⟨j, hj, rfl⟩ := hkj
      refine lv_iload_n hx hb dX5_field_12 rfl (lv_at hl 2 rfl) ?_
      rcases sw_cases2 0 4 w0 with hsw317 | ⟨j317, hg317, hj317, hsw317⟩
      · refine lv_tableOut (tgt := 106) hx hb dX5_field_13 hsw317 (by decide) ?_
        refine lv_bipush (v := (-2)) hx hb dX5_field_106 (by decide) ?_
        exact W.iret (v := (-2)) hx hb hr (fun t ht hW => ⟨(-2), rfl, by rw [p_field, if_neg (fun q => q.elim c_315 (fun r => r c_316)), if_neg (show ¬ w0 = 0 from sw_ne hsw317 (by decide)), if_neg (show ¬ w0 = 1 from sw_ne hsw317 (by decide)), if_neg (show ¬ w0 = 2 from sw_ne hsw317 (by decide)), if_neg (show ¬ w0 = 3 from sw_ne hsw317 (by decide)), if_neg (show ¬ w0 = 4 from sw_ne hsw317 (by decide))], ht⟩) (fun _ h => absurd h List.not_mem_nil) dX5_field_108
      · rcases (show j317 = 0 ∨ j317 = 1 ∨ j317 = 2 ∨ j317 = 3 ∨ j317 = 4 by omega) with rfl | rfl | rfl | rfl | rfl
        · refine lv_tableIn (off := 35) (tgt := 48) hx hb dX5_field_13 (by rw [hsw317]; decide) (by rw [hsw317]; decide) (by rw [hsw317]; rfl) (by decide) ?_
          refine lv_aload_n hx hb dX5_field_48 rfl (lv_at hl 0 rfl) ?_
          refine va_get (D := G) (ci := 5) (v := .ref qg) (C := RX5) (T := TX5) (N := 6) hx hb hts inlX5 hown hK.1 hP 0 rfl rfl 0 (by decide) (hts _ wd13) (fun _ h9 => h9) rfl dX5_field_49 ?_
          refine va_getN (D := G) (ci := 1) (v := .ref qb) (C := RX1) (T := TX1) (N := 7) hx hb hts inlX1 hown hK.1 hP 1 rfl rfl 0 (by decide) (va_Nw.use rfl (hK.2 _ nw9)) (fun _ h9 => h9) rfl dX5_field_52 ?_
          refine lv_iload_n hx hb dX5_field_55 rfl (lv_at hl 1 rfl) ?_
          have hPc := hP.sub (ws' := [(qb, .inr (0, [.ref qp, .ref qs, .ref qr, .ref qf, .int fl])), (qp, .inl (cI, 12, .inl pr)), (qs, .inl (cI, 12, .inl sb)), (qr, .inl (cI, 4, .inl br)), (qf, .inl (cI, 4, .inl fe))]) [3, 4, 5, 6, 7] rfl
          have hDc := (hD0.sub (ws' := [(qb, .inr (0, [.ref qp, .ref qs, .ref qr, .ref qf, .int fl])), (qp, .inl (cI, 12, .inl pr)), (qs, .inl (cI, 12, .inl sb)), (qr, .inl (cI, 4, .inl br)), (qf, .inl (cI, 4, .inl fe))]) [3, 4, 5, 6, 7] (by decide) rfl).tt
          refine vp_callSi (va_Run.run (va_runVN (As := [.int (nI j)]) (rest := []) ⟨hx, hb, hml, hown, hts⟩ (c_X0_piecesOn l G cI cC cZ cG s.heap.size qb qp qs qr qf pr sb br fe fl (nI j)) (cf_RX5_147 hts hK.2 ⟨Nat.le_of_ble_eq_true rfl, Nat.le_of_ble_eq_true rfl⟩) (pre_V hK hPc hDc (ci := 0) (q0 := 0) rfl rfl) rfl rfl hl.1 rfl (lv_room (Nat.le_of_ble_eq_true rfl)) dX5_field_56 ⟨Nat.le_of_ble_eq_true rfl, Nat.le_of_ble_eq_true rfl⟩)) (fun r318 hr318 => ?_)
          subst hr318
          have hf319 := cnt_le (pcP pr (nI j)) 12
          exact W.iret (v := nI (cnt (pcP pr (nI j)) 12)) hx hb hr (fun t ht hW => ⟨nI (cnt (pcP pr (nI j)) 12), rfl, by rw [p_field, if_neg (fun q => q.elim c_315 (fun r => r c_316)), if_pos (show w0 = 0 from hsw317)], ht⟩) (fun _ h => absurd h List.not_mem_nil) dX5_field_59
        · refine lv_tableIn (off := 47) (tgt := 60) hx hb dX5_field_13 (by rw [hsw317]; decide) (by rw [hsw317]; decide) (by rw [hsw317]; rfl) (by decide) ?_
          refine lv_aload_n hx hb dX5_field_60 rfl (lv_at hl 0 rfl) ?_
          refine va_get (D := G) (ci := 5) (v := .ref qg) (C := RX5) (T := TX5) (N := 6) hx hb hts inlX5 hown hK.1 hP 0 rfl rfl 0 (by decide) (hts _ wd13) (fun _ h9 => h9) rfl dX5_field_61 ?_
          refine va_getN (D := G) (ci := 1) (v := .ref qb) (C := RX1) (T := TX1) (N := 7) hx hb hts inlX1 hown hK.1 hP 1 rfl rfl 0 (by decide) (va_Nw.use rfl (hK.2 _ nw9)) (fun _ h9 => h9) rfl dX5_field_64 ?_
          refine lv_iload_n hx hb dX5_field_67 rfl (lv_at hl 1 rfl) ?_
          have hPc := hP.sub (ws' := [(qb, .inr (0, [.ref qp, .ref qs, .ref qr, .ref qf, .int fl])), (qp, .inl (cI, 12, .inl pr)), (qs, .inl (cI, 12, .inl sb)), (qr, .inl (cI, 4, .inl br)), (qf, .inl (cI, 4, .inl fe))]) [3, 4, 5, 6, 7] rfl
          have hDc := (hD0.sub (ws' := [(qb, .inr (0, [.ref qp, .ref qs, .ref qr, .ref qf, .int fl])), (qp, .inl (cI, 12, .inl pr)), (qs, .inl (cI, 12, .inl sb)), (qr, .inl (cI, 4, .inl br)), (qf, .inl (cI, 4, .inl fe))]) [3, 4, 5, 6, 7] (by decide) rfl).tt
          refine vp_callSi (va_Run.run (va_runVN (As := [.int (nI j)]) (rest := []) ⟨hx, hb, hml, hown, hts⟩ (c_X0_lowestOn l G cI cC cZ cG s.heap.size qb qp qs qr qf pr sb br fe fl (nI j)) (cf_RX5_150 hts hK.2 ⟨Nat.le_of_ble_eq_true rfl, Nat.le_of_ble_eq_true rfl⟩) (pre_V hK hPc hDc (ci := 0) (q0 := 0) rfl rfl) rfl rfl hl.1 rfl (lv_room (Nat.le_of_ble_eq_true rfl)) dX5_field_68 ⟨Nat.le_of_ble_eq_true rfl, Nat.le_of_ble_eq_true rfl⟩)) (fun r320 hr320 => ?_)
          subst hr320
          exact W.iret (v := low (pcP pr (nI j)) 0 12) hx hb hr (fun t ht hW => ⟨low (pcP pr (nI j)) 0 12, rfl, by rw [p_field, if_neg (fun q => q.elim c_315 (fun r => r c_316)), if_neg (show ¬ w0 = 0 by rw [hsw317]; decide), if_pos (show w0 = 1 from hsw317)], ht⟩) (fun _ h => absurd h List.not_mem_nil) dX5_field_71
        · refine lv_tableIn (off := 59) (tgt := 72) hx hb dX5_field_13 (by rw [hsw317]; decide) (by rw [hsw317]; decide) (by rw [hsw317]; rfl) (by decide) ?_
          refine lv_iload_n hx hb dX5_field_72 rfl (lv_at hl 1 rfl) ?_
          refine vp_callSi (va_Run.run (va_runS (As := [.int (nI j)]) (rest := []) ⟨hx, hb, hml, hown, hts⟩ (c_X5_isSafe l (nI j)) (cf_RX5_153 hts ⟨Nat.le_of_ble_eq_true rfl, Nat.le_of_ble_eq_true rfl⟩) pre_P rfl rfl hl.1 rfl (lv_room (Nat.le_of_ble_eq_true rfl)) dX5_field_73 ⟨Nat.le_of_ble_eq_true rfl, Nat.le_of_ble_eq_true rfl⟩)) (fun r321 hr321 => ?_)
          subst hr321
          refine zb_eq (tgt := 83) hx hb dX5_field_76 (by decide) (fun c_322 => ?_) (fun c_322 => ?_)
          · refine lv_iconst (v := 0) hx hb dX5_field_83 (by decide) ?_
            exact W.iret (v := 0) hx hb hr (fun t ht hW => ⟨0, rfl, by rw [p_field, if_neg (fun q => q.elim c_315 (fun r => r c_316)), if_neg (show ¬ w0 = 0 by rw [hsw317]; decide), if_neg (show ¬ w0 = 1 by rw [hsw317]; decide), if_pos (show w0 = 2 from hsw317), if_neg c_322], ht⟩) (fun _ h => absurd h List.not_mem_nil) dX5_field_84
          · refine lv_iconst (v := 1) hx hb dX5_field_79 (by decide) ?_
            refine lv_goto (tgt := 84) hx hb dX5_field_80 (by decide) ?_
            exact W.iret (v := 1) hx hb hr (fun t ht hW => ⟨1, rfl, by rw [p_field, if_neg (fun q => q.elim c_315 (fun r => r c_316)), if_neg (show ¬ w0 = 0 by rw [hsw317]; decide), if_neg (show ¬ w0 = 1 by rw [hsw317]; decide), if_pos (show w0 = 2 from hsw317), if_pos c_322], ht⟩) (fun _ h => absurd h List.not_mem_nil) dX5_field_84
        · refine lv_tableIn (off := 72) (tgt := 85) hx hb dX5_field_13 (by rw [hsw317]; decide) (by rw [hsw317]; decide) (by rw [hsw317]; rfl) (by decide) ?_
          refine lv_aload_n hx hb dX5_field_85 rfl (lv_at hl 0 rfl) ?_
          refine va_get (D := G) (ci := 5) (v := .ref qg) (C := RX5) (T := TX5) (N := 6) hx hb hts inlX5 hown hK.1 hP 0 rfl rfl 0 (by decide) (hts _ wd13) (fun _ h9 => h9) rfl dX5_field_86 ?_
          refine va_getN (D := G) (ci := 1) (v := .ref qb) (C := RX1) (T := TX1) (N := 7) hx hb hts inlX1 hown hK.1 hP 1 rfl rfl 0 (by decide) (va_Nw.use rfl (hK.2 _ nw9)) (fun _ h9 => h9) rfl dX5_field_89 ?_
          refine lv_iload_n hx hb dX5_field_92 rfl (lv_at hl 1 rfl) ?_
          have hPc := hP.sub (ws' := [(qb, .inr (0, [.ref qp, .ref qs, .ref qr, .ref qf, .int fl])), (qp, .inl (cI, 12, .inl pr)), (qs, .inl (cI, 12, .inl sb)), (qr, .inl (cI, 4, .inl br)), (qf, .inl (cI, 4, .inl fe))]) [3, 4, 5, 6, 7] rfl
          have hDc := (hD0.sub (ws' := [(qb, .inr (0, [.ref qp, .ref qs, .ref qr, .ref qf, .int fl])), (qp, .inl (cI, 12, .inl pr)), (qs, .inl (cI, 12, .inl sb)), (qr, .inl (cI, 4, .inl br)), (qf, .inl (cI, 4, .inl fe))]) [3, 4, 5, 6, 7] (by decide) rfl).tt
          refine vp_callSi (va_Run.run (va_runVN (As := [.int (nI j)]) (rest := []) ⟨hx, hb, hml, hown, hts⟩ (c_X0_bridgeState l G cI cC cZ cG s.heap.size qb qp qs qr qf pr sb br fe fl (nI j)) (cf_RX5_156 hts hK.2 ⟨Nat.le_of_ble_eq_true rfl, Nat.le_of_ble_eq_true rfl⟩) (pre_V hK hPc hDc (ci := 0) (q0 := 0) rfl rfl) rfl rfl hl.1 rfl (lv_room (Nat.le_of_ble_eq_true rfl)) dX5_field_93 ⟨Nat.le_of_ble_eq_true rfl, Nat.le_of_ble_eq_true rfl⟩)) (fun r323 hr323 => ?_)
          subst hr323
          exact W.iret (v := bs br (nI j)) hx hb hr (fun t ht hW => ⟨bs br (nI j), rfl, by rw [p_field, if_neg (fun q => q.elim c_315 (fun r => r c_316)), if_neg (show ¬ w0 = 0 by rw [hsw317]; decide), if_neg (show ¬ w0 = 1 by rw [hsw317]; decide), if_neg (show ¬ w0 = 2 by rw [hsw317]; decide), if_pos (show w0 = 3 from hsw317)], ht⟩) (fun _ h => absurd h List.not_mem_nil) dX5_field_96
        · refine lv_tableIn (off := 84) (tgt := 97) hx hb dX5_field_13 (by rw [hsw317]; decide) (by rw [hsw317]; decide) (by rw [hsw317]; rfl) (by decide) ?_
          refine lv_aload_n hx hb dX5_field_97 rfl (lv_at hl 0 rfl) ?_
          refine va_get (D := G) (ci := 5) (v := .ref qg) (C := RX5) (T := TX5) (N := 6) hx hb hts inlX5 hown hK.1 hP 0 rfl rfl 0 (by decide) (hts _ wd13) (fun _ h9 => h9) rfl dX5_field_98 ?_
          refine lv_iload_n hx hb dX5_field_101 rfl (lv_at hl 1 rfl) ?_
          have hPc := hP.sub (ws' := [(qg, .inr (1, [.ref qb, .ref qt, .int x, .int (nI pl), .int th, .int tu, .int ca])), (qt, .inl (cI, 3, .inl se)), (qb, .inr (0, [.ref qp, .ref qs, .ref qr, .ref qf, .int fl])), (qp, .inl (cI, 12, .inl pr)), (qs, .inl (cI, 12, .inl sb)), (qr, .inl (cI, 4, .inl br)), (qf, .inl (cI, 4, .inl fe))]) [1, 2, 3, 4, 5, 6, 7] rfl
          have hDc := (hD0.sub (ws' := [(qg, .inr (1, [.ref qb, .ref qt, .int x, .int (nI pl), .int th, .int tu, .int ca])), (qt, .inl (cI, 3, .inl se)), (qb, .inr (0, [.ref qp, .ref qs, .ref qr, .ref qf, .int fl])), (qp, .inl (cI, 12, .inl pr)), (qs, .inl (cI, 12, .inl sb)), (qr, .inl (cI, 4, .inl br)), (qf, .inl (cI, 4, .inl fe))]) [1, 2, 3, 4, 5, 6, 7] (by decide) rfl).tt
          refine vp_callSi (va_Run.run (va_runVN (As := [.int (nI j)]) (rest := []) ⟨hx, hb, hml, hown, hts⟩ (c_X1_turnsUntilMended l G cI cC cZ cG s.heap.size qg qt qb qp qs qr qf pr sb br fe se fl x pl th tu ca (nI j)) (cf_RX5_159 hts hK.2 ⟨Nat.le_of_ble_eq_true rfl, Nat.le_of_ble_eq_true rfl⟩) (pre_V hK hPc hDc (ci := 1) (q0 := 0) rfl rfl) rfl rfl hl.1 rfl (lv_room (Nat.le_of_ble_eq_true rfl)) dX5_field_102 ⟨Nat.le_of_ble_eq_true rfl, Nat.le_of_ble_eq_true rfl⟩)) (fun r324 hr324 => ?_)
          subst hr324
          exact W.iret (v := tum br fe se tu (nI j)) hx hb hr (fun t ht hW => ⟨tum br fe se tu (nI j), rfl, by rw [p_field, if_neg (fun q => q.elim c_315 (fun r => r c_316)), if_neg (show ¬ w0 = 0 by rw [hsw317]; decide), if_neg (show ¬ w0 = 1 by rw [hsw317]; decide), if_neg (show ¬ w0 = 2 by rw [hsw317]; decide), if_neg (show ¬ w0 = 3 by rw [hsw317]; decide), if_pos (show w0 = 4 from hsw317)], ht⟩) (fun _ h => absurd h List.not_mem_nil) dX5_field_105
    · refine lv_iconst (v := (-1)) hx hb dX5_field_10 (by decide) ?_
      exact W.iret (v := (-1)) hx hb hr (fun t ht hW => ⟨(-1), rfl, by rw [p_field, if_pos (Or.inr c_316)], ht⟩) (fun _ h => absurd h List.not_mem_nil) dX5_field_11

abbrev rm_X5_why : Room := { frames := 4, cells := 0, slots := 0, locals := 96 }
theorem cf_RX5_78 {R : Room} {s : State} {args : Array Value} (ht : ∀ w ∈ wsL_law, w.before args s = true) (hN : ∀ w ∈ nestW, va_Nw w s) (hR : rm_X1_reason.frames + 1 ≤ R.frames ∧ 8 + (6 + 11) + rm_X1_reason.locals ≤ R.locals) : va_CN R s args RX5 78 yX1_reason "BridgedPachisi" cX1_reason 6 (some .int) (.code yX1_reason cX1_reason 6 (some .int) :: wsL_law) rm_X1_reason 0 0 2 ∧ (Cond.instanceMethod yX1_reason).before args s = true ∧ (Cond.selects RX1 yX1_reason yX1_reason).before args s = true := ⟨cw_N 2 ht hN nw31 wd12 wd162 (by decide +kernel) rfl rfl hR, ht _ wd160, ht _ wd161⟩
set_option maxHeartbeats 1000000 in
set_option maxRecDepth 100000 in
theorem c_X5_why (l : Launch) (G : va_G) (cI cC cZ cG : ClassId) (sz : Nat) (qX wg qR qd qh qk : Nat) (qg qt qb qp qs qr qf : Nat) (pr sb br fe se : IA) (fl x : Int32) (pl : Nat) (th tu ca : Int32) (k0 c0 : Int32) (hpr : ∀ k, k < 12 → okv (pr k)) : Met l yX5_why (.code yX5_why cX5_why 3 (some .int) :: wsL_law) rm_X5_why (va_Pc [.ref qX, .int k0, .int c0] (bw G cI cC cZ cG false sz [(qX, .inr (5, [.ref qg, .ref wg, .ref qR, .ref qd, .ref qh, .ref qk])), (qg, .inr (1, [.ref qb, .ref qt, .int x, .int (nI pl), .int th, .int tu, .int ca])), (qt, .inl (cI, 3, .inl se)), (qb, .inr (0, [.ref qp, .ref qs, .ref qr, .ref qf, .int fl])), (qp, .inl (cI, 12, .inl pr)), (qs, .inl (cI, 12, .inl sb)), (qr, .inl (cI, 4, .inl br)), (qf, .inl (cI, 4, .inl fe))])) (vp_Si (fun r => r = p_why k0 c0 pr br se)) 0 0 (fun _ => False) := by
  refine met_bw rfl (Nat.le_of_ble_eq_true rfl) ?_
  intro p e s m below meth c ls hx hb hr hml hown hts hlocks hin hsz hP hK hD0 hX0 hl
  have hown : s.vm.findClass RX5 = some m.cls := hown
  have hl : lv_has ls 3 [(0, .ref qX), (1, .int k0), (2, .int c0)] := hl
  refine lv_iload_n hx hb dX5_why_0 rfl (lv_at hl 1 rfl) ?_
  refine vp_callSi (va_Run.run (va_runS (As := [.int k0]) (rest := []) ⟨hx, hb, hml, hown, hts⟩ (c_X5_isNoPiece l k0) (cf_RX5_116 hts ⟨Nat.le_of_ble_eq_true rfl, Nat.le_of_ble_eq_true rfl⟩) pre_P rfl rfl hl.1 rfl (lv_room (Nat.le_of_ble_eq_true rfl)) dX5_why_1 ⟨Nat.le_of_ble_eq_true rfl, Nat.le_of_ble_eq_true rfl⟩)) (fun r325 hr325 => ?_)
  subst hr325
  refine zb_eq (tgt := 9) hx hb dX5_why_4 (by decide) (fun c_326 => ?_) (fun c_326 => ?_)
  · obtain ⟨j, hj, rfl⟩ := np_ok c_326
    refine lv_iload_n hx hb dX5_why_9 rfl (lv_at hl 2 rfl) ?_
    refine lv_iconst (v := 1) hx hb dX5_why_10 (by decide) ?_
    refine lv_icmp_lt (tgt := 20) hx hb dX5_why_11 (by decide) (fun c_327 => ?_) (fun c_327 => ?_)
    · refine lv_bipush (v := (-2)) hx hb dX5_why_20 (by decide) ?_
      exact W.iret (v := (-2)) hx hb hr (fun t ht hW => ⟨(-2), rfl, by rw [p_why, if_neg c_326, if_pos (Or.inl c_327)], ht⟩) (fun _ h => absurd h List.not_mem_nil) dX5_why_22
    · refine lv_iload_n hx hb dX5_why_14 rfl (lv_at hl 2 rfl) ?_
      refine lv_bipush (v := 6) hx hb dX5_why_15 (by decide) ?_
      refine lv_icmp_le (tgt := 23) hx hb dX5_why_17 (by decide) (fun c_328 => ?_) (fun c_328 => ?_)
      · obtain ⟨j2, hj2, hj3, rfl⟩ := rg_1 (c := 6) (by decide) (by decide) c_327 c_328
        refine lv_aload_n hx hb dX5_why_23 rfl (lv_at hl 0 rfl) ?_
        refine va_get (D := G) (ci := 5) (v := .ref qg) (C := RX5) (T := TX5) (N := 6) hx hb hts inlX5 hown hK.1 hP 0 rfl rfl 0 (by decide) (hts _ wd13) (fun _ h9 => h9) rfl dX5_why_24 ?_
        refine lv_iload_n hx hb dX5_why_27 rfl (lv_at hl 1 rfl) ?_
        refine lv_iload_n hx hb dX5_why_28 rfl (lv_at hl 2 rfl) ?_
        have hPc := hP.sub (ws' := [(qg, .inr (1, [.ref qb, .ref qt, .int x, .int (nI pl), .int th, .int tu, .int ca])), (qt, .inl (cI, 3, .inl se)), (qb, .inr (0, [.ref qp, .ref qs, .ref qr, .ref qf, .int fl])), (qp, .inl (cI, 12, .inl pr)), (qs, .inl (cI, 12, .inl sb)), (qr, .inl (cI, 4, .inl br)), (qf, .inl (cI, 4, .inl fe))]) [1, 2, 3, 4, 5, 6, 7] rfl
        have hDc := (hD0.sub (ws' := [(qg, .inr (1, [.ref qb, .ref qt, .int x, .int (nI pl), .int th, .int tu, .int ca])), (qt, .inl (cI, 3, .inl se)), (qb, .inr (0, [.ref qp, .ref qs, .ref qr, .ref qf, .int fl])), (qp, .inl (cI, 12, .inl pr)), (qs, .inl (cI, 12, .inl sb)), (qr, .inl (cI, 4, .inl br)), (qf, .inl (cI, 4, .inl fe))]) [1, 2, 3, 4, 5, 6, 7] (by decide) rfl).tt
        refine vp_callSi (va_Run.run (va_runVN (As := [.int (nI j), .int (nI j2)]) (rest := []) ⟨hx, hb, hml, hown, hts⟩ (c_X1_reason l G cI cC cZ cG s.heap.size qg qt qb qp qs qr qf pr sb br fe se fl x pl th tu ca j j2 hpr (by omega) hj3) (cf_RX5_78 hts hK.2 ⟨Nat.le_of_ble_eq_true rfl, Nat.le_of_ble_eq_true rfl⟩) (pre_V hK hPc hDc (ci := 1) (q0 := 0) rfl rfl) rfl rfl hl.1 rfl (lv_room (Nat.le_of_ble_eq_true rfl)) dX5_why_29 ⟨Nat.le_of_ble_eq_true rfl, Nat.le_of_ble_eq_true rfl⟩)) (fun r329 hr329 => ?_)
        subst hr329
        exact W.iret (v := rs pr br se j j2) hx hb hr (fun t ht hW => ⟨rs pr br se j j2, rfl, by rw [p_why, if_neg c_326, if_neg (fun q => q.elim c_327 (fun r => r c_328)), (show (nI j).toNatClampNeg = j from nI_clamp (by omega)), (show (nI j2).toNatClampNeg = j2 from nI_clamp (by omega))], ht⟩) (fun _ h => absurd h List.not_mem_nil) dX5_why_32
      · refine lv_bipush (v := (-2)) hx hb dX5_why_20 (by decide) ?_
        exact W.iret (v := (-2)) hx hb hr (fun t ht hW => ⟨(-2), rfl, by rw [p_why, if_neg c_326, if_pos (Or.inr c_328)], ht⟩) (fun _ h => absurd h List.not_mem_nil) dX5_why_22
  · refine lv_iconst (v := (-1)) hx hb dX5_why_7 (by decide) ?_
    exact W.iret (v := (-1)) hx hb hr (fun t ht hW => ⟨(-1), rfl, by rw [p_why, if_pos c_326], ht⟩) (fun _ h => absurd h List.not_mem_nil) dX5_why_8

abbrev rm_X5_best : Room := { frames := 5, cells := 0, slots := 0, locals := 120 }
theorem cf_RX5_66 {R : Room} {s : State} {args : Array Value} (ht : ∀ w ∈ wsL_law, w.before args s = true) (hN : ∀ w ∈ nestW, va_Nw w s) (hR : rm_X1_hasThrow.frames + 1 ≤ R.frames ∧ 8 + (1 + 11) + rm_X1_hasThrow.locals ≤ R.locals) : va_CN R s args RX5 66 yX1_hasThrow "BridgedPachisi" cX1_hasThrow 1 (some .boolean) (.code yX1_hasThrow cX1_hasThrow 1 (some .boolean) :: wsL_law) rm_X1_hasThrow 0 0 0 ∧ (Cond.instanceMethod yX1_hasThrow).before args s = true ∧ (Cond.selects RX1 yX1_hasThrow yX1_hasThrow).before args s = true := ⟨cw_N 0 ht hN nw51 wd12 wd155 (by decide +kernel) rfl rfl hR, ht _ wd153, ht _ wd154⟩
theorem cf_RX5_183 {R : Room} {s : State} {args : Array Value} (ht : ∀ w ∈ wsL_law, w.before args s = true) (hN : ∀ w ∈ nestW, va_Nw w s) (hR : rm_X1_bestPiece.frames + 1 ≤ R.frames ∧ 8 + (5 + 11) + rm_X1_bestPiece.locals ≤ R.locals) : va_CN R s args RX5 183 yX1_bestPiece "BridgedPachisi" cX1_bestPiece 5 (some .int) (.code yX1_bestPiece cX1_bestPiece 5 (some .int) :: wsL_law) rm_X1_bestPiece 0 0 0 ∧ (Cond.instanceMethod yX1_bestPiece).before args s = true ∧ (Cond.selects RX1 yX1_bestPiece yX1_bestPiece).before args s = true := ⟨cw_N 0 ht hN nw52 wd12 wd158 (by decide +kernel) rfl rfl hR, ht _ wd156, ht _ wd157⟩
set_option maxHeartbeats 1000000 in
set_option maxRecDepth 100000 in
theorem c_X5_best (l : Launch) (G : va_G) (cI cC cZ cG : ClassId) (sz : Nat) (qX wg qR qd qh qk : Nat) (qg qt qb qp qs qr qf : Nat) (pr sb br fe se : IA) (fl x : Int32) (pl : Nat) (th tu ca : Int32) (hpr : ∀ k, k < 12 → okv (pr k)) (hx0 : ¬ x < 0) (hpl : pl < 4) (hth : okc th) : Met l yX5_best (.code yX5_best cX5_best 2 (some .int) :: wsL_law) rm_X5_best (va_Pc [.ref qX] (bw G cI cC cZ cG false sz [(qX, .inr (5, [.ref qg, .ref wg, .ref qR, .ref qd, .ref qh, .ref qk])), (qg, .inr (1, [.ref qb, .ref qt, .int x, .int (nI pl), .int th, .int tu, .int ca])), (qt, .inl (cI, 3, .inl se)), (qb, .inr (0, [.ref qp, .ref qs, .ref qr, .ref qf, .int fl])), (qp, .inl (cI, 12, .inl pr)), (qs, .inl (cI, 12, .inl sb)), (qr, .inl (cI, 4, .inl br)), (qf, .inl (cI, 4, .inl fe))])) (vp_Si (fun r => r = p_best pr br se pl th)) 0 0 (fun _ => False) := by
  refine met_bw rfl (Nat.le_of_ble_eq_true rfl) ?_
  intro p e s m below meth c ls hx hb hr hml hown hts hlocks hin hsz hP hK hD0 hX0 hl
  have hown : s.vm.findClass RX5 = some m.cls := hown
  have hl : lv_has ls 2 [(0, .ref qX)] := hl
  refine lv_aload_n hx hb dX5_best_0 rfl (lv_at hl 0 rfl) ?_
  refine va_get (D := G) (ci := 5) (v := .ref qg) (C := RX5) (T := TX5) (N := 6) hx hb hts inlX5 hown hK.1 hP 0 rfl rfl 0 (by decide) (hts _ wd13) (fun _ h9 => h9) rfl dX5_best_1 ?_
  have hPc := hP.sub (ws' := [(qg, .inr (1, [.ref qb, .ref qt, .int x, .int (nI pl), .int th, .int tu, .int ca])), (qt, .inl (cI, 3, .inl se)), (qb, .inr (0, [.ref qp, .ref qs, .ref qr, .ref qf, .int fl])), (qp, .inl (cI, 12, .inl pr)), (qs, .inl (cI, 12, .inl sb)), (qr, .inl (cI, 4, .inl br)), (qf, .inl (cI, 4, .inl fe))]) [1, 2, 3, 4, 5, 6, 7] rfl
  have hDc := (hD0.sub (ws' := [(qg, .inr (1, [.ref qb, .ref qt, .int x, .int (nI pl), .int th, .int tu, .int ca])), (qt, .inl (cI, 3, .inl se)), (qb, .inr (0, [.ref qp, .ref qs, .ref qr, .ref qf, .int fl])), (qp, .inl (cI, 12, .inl pr)), (qs, .inl (cI, 12, .inl sb)), (qr, .inl (cI, 4, .inl br)), (qf, .inl (cI, 4, .inl fe))]) [1, 2, 3, 4, 5, 6, 7] (by decide) rfl).tt
  refine vp_callSi (va_Run.run (va_runVN (As := []) (rest := []) ⟨hx, hb, hml, hown, hts⟩ (c_X1_hasThrow l G cI cC cZ cG s.heap.size qg qt qb qp qs qr qf pr sb br fe se fl x pl th tu ca) (cf_RX5_66 hts hK.2 ⟨Nat.le_of_ble_eq_true rfl, Nat.le_of_ble_eq_true rfl⟩) (pre_V hK hPc hDc (ci := 1) (q0 := 0) rfl rfl) rfl rfl hl.1 rfl (lv_room (Nat.le_of_ble_eq_true rfl)) dX5_best_4 ⟨Nat.le_of_ble_eq_true rfl, Nat.le_of_ble_eq_true rfl⟩)) (fun r330 hr330 => ?_)
  subst hr330
  refine zb_ne (tgt := 13) hx hb dX5_best_7 (by decide) (fun c_331 => ?_) (fun c_331 => ?_)
  · obtain ⟨cn, hc1, hc, rfl⟩ := okc_ne hth c_331
    refine lv_aload_n hx hb dX5_best_13 rfl (lv_at hl 0 rfl) ?_
    refine va_get (D := G) (ci := 5) (v := .ref qg) (C := RX5) (T := TX5) (N := 6) hx hb hts inlX5 hown hK.1 hP 0 rfl rfl 0 (by decide) (hts _ wd13) (fun _ h9 => h9) rfl dX5_best_14 ?_
    have hPc := hP.sub (ws' := [(qg, .inr (1, [.ref qb, .ref qt, .int x, .int (nI pl), .int (nI cn), .int tu, .int ca])), (qt, .inl (cI, 3, .inl se)), (qb, .inr (0, [.ref qp, .ref qs, .ref qr, .ref qf, .int fl])), (qp, .inl (cI, 12, .inl pr)), (qs, .inl (cI, 12, .inl sb)), (qr, .inl (cI, 4, .inl br)), (qf, .inl (cI, 4, .inl fe))]) [1, 2, 3, 4, 5, 6, 7] rfl
    have hDc := (hD0.sub (ws' := [(qg, .inr (1, [.ref qb, .ref qt, .int x, .int (nI pl), .int (nI cn), .int tu, .int ca])), (qt, .inl (cI, 3, .inl se)), (qb, .inr (0, [.ref qp, .ref qs, .ref qr, .ref qf, .int fl])), (qp, .inl (cI, 12, .inl pr)), (qs, .inl (cI, 12, .inl sb)), (qr, .inl (cI, 4, .inl br)), (qf, .inl (cI, 4, .inl fe))]) [1, 2, 3, 4, 5, 6, 7] (by decide) rfl).tt
    refine vp_callSi (va_Run.run (va_runVN (As := []) (rest := []) ⟨hx, hb, hml, hown, hts⟩ (c_X1_bestPiece l G cI cC cZ cG s.heap.size qg qt qb qp qs qr qf pr sb br fe se fl x pl cn tu ca hpr hc hpl) (cf_RX5_183 hts hK.2 ⟨Nat.le_of_ble_eq_true rfl, Nat.le_of_ble_eq_true rfl⟩) (pre_V hK hPc hDc (ci := 1) (q0 := 0) rfl rfl) rfl rfl hl.1 rfl (lv_room (Nat.le_of_ble_eq_true rfl)) dX5_best_17 ⟨Nat.le_of_ble_eq_true rfl, Nat.le_of_ble_eq_true rfl⟩)) (fun r332 hr332 => ?_)
    subst hr332
    refine lv_istore_n (lv' := [(1, .int (bp pr br se pl cn)), (0, .ref qX)]) hx hb dX5_best_20 rfl hl (by decide) rfl (fun ls hl => ?_)
    refine lv_iload_n hx hb dX5_best_21 rfl (lv_at hl 0 rfl) ?_
    refine lv_bipush (v := (-6)) hx hb dX5_best_22 (by decide) ?_
    refine lv_icmp_ne (tgt := 32) hx hb dX5_best_24 (by decide) (fun c_333 => ?_) (fun c_333 => ?_)
    · refine lv_iload_n hx hb dX5_best_32 rfl (lv_at hl 0 rfl) ?_
      refine lv_iconst (v := 3) hx hb dX5_best_33 (by decide) ?_
      refine zi_jr hx hb dX5_best_34 (by decide) ?_
      exact W.iret (v := jr (bp pr br se pl cn) 3) hx hb hr (fun t ht hW => ⟨jr (bp pr br se pl cn) 3, rfl, by rw [p_best, if_neg c_331, (show (nI cn).toNatClampNeg = cn from nI_clamp (by omega)), if_neg c_333], ht⟩) (fun _ h => absurd h List.not_mem_nil) dX5_best_35
    · refine lv_bipush (v := (-6)) hx hb dX5_best_27 (by decide) ?_
      refine lv_goto (tgt := 35) hx hb dX5_best_29 (by decide) ?_
      exact W.iret (v := (-6)) hx hb hr (fun t ht hW => ⟨(-6), rfl, by rw [p_best, if_neg c_331, (show (nI cn).toNatClampNeg = cn from nI_clamp (by omega)), if_pos c_333], ht⟩) (fun _ h => absurd h List.not_mem_nil) dX5_best_35
  · refine lv_bipush (v := (-5)) hx hb dX5_best_10 (by decide) ?_
    exact W.iret (v := (-5)) hx hb hr (fun t ht hW => ⟨(-5), rfl, by rw [p_best, if_pos (Decidable.not_not.mp c_331)], ht⟩) (fun _ h => absurd h List.not_mem_nil) dX5_best_12

abbrev rm_X5_nextCast : Room := { frames := 1, cells := 0, slots := 0, locals := 20 }
theorem cf_RX5_196 {R : Room} {s : State} {args : Array Value} (ht : ∀ w ∈ wsL_law, w.before args s = true) (hR : rm_X5_castOf.frames + 1 ≤ R.frames ∧ 8 + (1 + 11) + rm_X5_castOf.locals ≤ R.locals) : CallB R s args RX5 196 yX5_castOf cX5_castOf 1 (some .int) (.code yX5_castOf cX5_castOf 1 (some .int) :: wsL_law) rm_X5_castOf 0 0 1 ∧ (Cond.static yX5_castOf).before args s = true := ⟨cw_B 1 ht wd243 wd2 wd245 (by decide +kernel) rfl rfl hR, ht _ wd244⟩
theorem cf_RX5_193 {R : Room} {s : State} {args : Array Value} (ht : ∀ w ∈ wsL_law, w.before args s = true) (hR : rm_X5_nextX.frames + 1 ≤ R.frames ∧ 8 + (1 + 11) + rm_X5_nextX.locals ≤ R.locals) : CallB R s args RX5 193 yX5_nextX cX5_nextX 1 (some .int) (.code yX5_nextX cX5_nextX 1 (some .int) :: wsL_law) rm_X5_nextX 0 0 1 ∧ (Cond.static yX5_nextX).before args s = true := ⟨cw_B 1 ht wd237 wd2 wd239 (by decide +kernel) rfl rfl hR, ht _ wd238⟩
set_option maxHeartbeats 1000000 in
set_option maxRecDepth 100000 in
theorem c_X5_nextCast (l : Launch) (G : va_G) (cI cC cZ cG : ClassId) (sz : Nat) (qX wg qR qd qh qk : Nat) (qg qt qb qp qs qr qf : Nat) (pr sb br fe se : IA) (fl x : Int32) (pl : Nat) (th tu ca : Int32) (n0 : Int32) : Met l yX5_nextCast (.code yX5_nextCast cX5_nextCast 4 (some .int) :: wsL_law) rm_X5_nextCast (va_Pc [.ref qX, .int n0] (bw G cI cC cZ cG false sz [(qX, .inr (5, [.ref qg, .ref wg, .ref qR, .ref qd, .ref qh, .ref qk])), (qg, .inr (1, [.ref qb, .ref qt, .int x, .int (nI pl), .int th, .int tu, .int ca])), (qt, .inl (cI, 3, .inl se)), (qb, .inr (0, [.ref qp, .ref qs, .ref qr, .ref qf, .int fl])), (qp, .inl (cI, 12, .inl pr)), (qs, .inl (cI, 12, .inl sb)), (qr, .inl (cI, 4, .inl br)), (qf, .inl (cI, 4, .inl fe))])) (vp_Si (fun r => r = p_nextCast n0 x)) 0 0 (fun _ => False) := by
  refine met_bw rfl (Nat.le_of_ble_eq_true rfl) ?_
  intro p e s m below meth c ls hx hb hr hml hown hts hlocks hin hsz hP hK hD0 hX0 hl
  have hown : s.vm.findClass RX5 = some m.cls := hown
  have hl : lv_has ls 4 [(0, .ref qX), (1, .int n0)] := hl
  generalize hQ : MQ below (vp_Si (fun r => r = p_nextCast n0 x)) ([.ref qX, .int n0] : List Value).toArray s 0 0 (fun _ => False) = Q
  generalize hag : ([.ref qX, .int n0] : List Value).toArray = ag at hts hQ ⊢
  refine lv_iload_n hx hb dX5_nextCast_0 rfl (lv_at hl 1 rfl) ?_
  refine lv_if_lt (tgt := 10) hx hb dX5_nextCast_1 (by decide) (fun c_334 => ?_) (fun c_334 => ?_)
  · refine lv_bipush (v := (-2)) hx hb dX5_nextCast_10 (by decide) ?_
    subst hQ
    exact W.iret (v := (-2)) hx hb hr (fun t ht hW => ⟨(-2), rfl, by rw [p_nextCast, if_pos (Or.inl c_334)], ht⟩) (fun _ h => absurd h List.not_mem_nil) dX5_nextCast_12
  · refine lv_iload_n hx hb dX5_nextCast_4 rfl (lv_at hl 1 rfl) ?_
    refine lv_bipush (v := 99) hx hb dX5_nextCast_5 (by decide) ?_
    refine lv_icmp_le (tgt := 13) hx hb dX5_nextCast_7 (by decide) (fun c_335 => ?_) (fun c_335 => ?_)
    · obtain ⟨j, hj, rfl⟩ := rg_le (c := 99) (by decide) (by decide) c_334 c_335
      refine lv_aload_n hx hb dX5_nextCast_13 rfl (lv_at hl 0 rfl) ?_
      refine va_get (D := G) (ci := 5) (v := .ref qg) (C := RX5) (T := TX5) (N := 6) hx hb hts inlX5 hown hK.1 hP 0 rfl rfl 0 (by decide) (hts _ wd13) (fun _ h9 => h9) rfl dX5_nextCast_14 ?_
      refine va_getN (D := G) (ci := 1) (v := .int x) (C := RX1) (T := TX1) (N := 7) hx hb hts inlX1 hown hK.1 hP 1 rfl rfl 2 (by decide) (va_Nw.use rfl (hK.2 _ nw11)) (fun _ h9 => h9) rfl dX5_nextCast_17 ?_
      refine lv_istore_n (lv' := [(2, .int x), (0, .ref qX), (1, .int (nI j))]) hx hb dX5_nextCast_20 rfl hl (by decide) rfl (fun ls hl => ?_)
      refine lv_iconst (v := 0) hx hb dX5_nextCast_21 (by decide) ?_
      refine lv_istore_n (lv' := [(3, .int 0), (2, .int x), (0, .ref qX), (1, .int (nI j))]) hx hb dX5_nextCast_22 rfl hl (by decide) rfl (fun ls hl => ?_)
      have L1 : ∀ (n : Nat), ∀ (i : Nat), ∀ (xc : Int32), ∀ (hi : i ≤ j + 1), ∀ (hf : xc = xN x i), ∀ (hn : j + 2 ≤ i + n), ∀ (ls : Array Slot), lv_has ls 4 [(3, .int (nI i)), (2, .int xc), (0, .ref qX), (1, .int (nI j))] → W p l e rm_X5_nextCast s m ag below meth c s.heap [] 0 0 Q (F0 m 23 ls []) := by
        intro n
        induction n with
        | zero =>
          intro i xc hi hf hn ls hl
          omega
        | succ n ih1 =>
          intro i xc hi hf hn ls hl
          refine lv_iload_n hx hb dX5_nextCast_23 rfl (lv_at hl 0 rfl) ?_
          refine lv_iload_n hx hb dX5_nextCast_24 rfl (lv_at hl 3 rfl) ?_
          refine zi_gt (tgt := 39) hx hb i j dX5_nextCast_25 (by decide) rfl rfl (by omega) (by omega) (fun c_337 => ?_) (fun c_337 => ?_)
          · refine lv_iload_n hx hb dX5_nextCast_39 rfl (lv_at hl 1 rfl) ?_
            refine vp_callSi (va_Run.run (va_runS (As := [.int xc]) (rest := []) ⟨hx, hb, hml, hown, hts⟩ (c_X5_castOf l xc) (cf_RX5_196 hts ⟨Nat.le_of_ble_eq_true rfl, Nat.le_of_ble_eq_true rfl⟩) pre_P rfl rfl hl.1 rfl (lv_room (Nat.le_of_ble_eq_true rfl)) dX5_nextCast_40 ⟨Nat.le_of_ble_eq_true rfl, Nat.le_of_ble_eq_true rfl⟩)) (fun r338 hr338 => ?_)
            subst hr338
            subst hQ
            exact W.iret (v := co xc) hx hb hr (fun t ht hW => ⟨co xc, rfl, by rw [p_nextCast, if_neg (fun q => q.elim c_334 (fun r => r c_335)), (show (nI j).toNatClampNeg = j from nI_clamp (by omega)), hf, show j + 1 = i by omega], ht⟩) (fun _ h => absurd h List.not_mem_nil) dX5_nextCast_43
          · refine lv_iload_n hx hb dX5_nextCast_28 rfl (lv_at hl 1 rfl) ?_
            refine vp_callSi (va_Run.run (va_runS (As := [.int xc]) (rest := []) ⟨hx, hb, hml, hown, hts⟩ (c_X5_nextX l xc) (cf_RX5_193 hts ⟨Nat.le_of_ble_eq_true rfl, Nat.le_of_ble_eq_true rfl⟩) pre_P rfl rfl hl.1 rfl (lv_room (Nat.le_of_ble_eq_true rfl)) dX5_nextCast_29 ⟨Nat.le_of_ble_eq_true rfl, Nat.le_of_ble_eq_true rfl⟩)) (fun r339 hr339 => ?_)
            subst hr339
            refine lv_istore_n (lv' := [(2, .int (nx xc)), (3, .int (nI i)), (0, .ref qX), (1, .int (nI j))]) hx hb dX5_nextCast_32 rfl hl (by decide) rfl (fun ls hl => ?_)
            refine lv_iinc (v := nI (i + 1)) (lv' := [(3, .int (nI (i + 1))), (2, .int (nx xc)), (0, .ref qX), (1, .int (nI j))]) hx hb dX5_nextCast_33 hl (k := 1) rfl (nI_inc i) (by decide) rfl (fun ls hl => ?_)
            refine lv_goto (tgt := 23) hx hb dX5_nextCast_36 (by decide) ?_
            exact ih1 (i + 1) (nx xc) (by omega) (by rw [hf, xN]) (by omega) _ (lv_sub hl [0, 1, 2, 3] rfl)
      exact L1 (j + 2) 0 x (by omega) rfl (by omega) _ (lv_sub hl [0, 1, 2, 3] rfl)
    · refine lv_bipush (v := (-2)) hx hb dX5_nextCast_10 (by decide) ?_
      subst hQ
      exact W.iret (v := (-2)) hx hb hr (fun t ht hW => ⟨(-2), rfl, by rw [p_nextCast, if_pos (Or.inr c_335)], ht⟩) (fun _ h => absurd h List.not_mem_nil) dX5_nextCast_12

abbrev rm_X5_count : Room := { frames := 2, cells := 0, slots := 0, locals := 44 }
theorem cf_RX5_165 {R : Room} {s : State} {args : Array Value} (ht : ∀ w ∈ wsL_law, w.before args s = true) (hN : ∀ w ∈ nestW, va_Nw w s) (hR : rm_X0_winner.frames + 1 ≤ R.frames ∧ 8 + (2 + 11) + rm_X0_winner.locals ≤ R.locals) : va_CN R s args RX5 165 yX0_winner "BridgedPachisi" cX0_winner 2 (some .int) (.code yX0_winner cX0_winner 2 (some .int) :: wsL_law) rm_X0_winner 0 0 0 ∧ (Cond.instanceMethod yX0_winner).before args s = true ∧ (Cond.selects RX0 yX0_winner yX0_winner).before args s = true := ⟨cw_N 0 ht hN nw38 wd33 wd135 (by decide +kernel) rfl rfl hR, ht _ wd133, ht _ wd134⟩
theorem cf_RX5_168 {R : Room} {s : State} {args : Array Value} (ht : ∀ w ∈ wsL_law, w.before args s = true) (hN : ∀ w ∈ nestW, va_Nw w s) (hR : rm_X0_homeOf.frames + 1 ≤ R.frames ∧ 8 + (4 + 11) + rm_X0_homeOf.locals ≤ R.locals) : va_CN R s args RX5 168 yX0_homeOf "BridgedPachisi" cX0_homeOf 4 (some .int) (.code yX0_homeOf cX0_homeOf 4 (some .int) :: wsL_law) rm_X0_homeOf 0 0 1 ∧ (Cond.instanceMethod yX0_homeOf).before args s = true ∧ (Cond.selects RX0 yX0_homeOf yX0_homeOf).before args s = true := ⟨cw_N 1 ht hN nw39 wd33 wd139 (by decide +kernel) rfl rfl hR, ht _ wd137, ht _ wd138⟩
theorem cf_RX5_171 {R : Room} {s : State} {args : Array Value} (ht : ∀ w ∈ wsL_law, w.before args s = true) (hN : ∀ w ∈ nestW, va_Nw w s) (hR : rm_X0_sentBackInAll.frames + 1 ≤ R.frames ∧ 8 + (3 + 11) + rm_X0_sentBackInAll.locals ≤ R.locals) : va_CN R s args RX5 171 yX0_sentBackInAll "BridgedPachisi" cX0_sentBackInAll 3 (some .int) (.code yX0_sentBackInAll cX0_sentBackInAll 3 (some .int) :: wsL_law) rm_X0_sentBackInAll 0 0 0 ∧ (Cond.instanceMethod yX0_sentBackInAll).before args s = true ∧ (Cond.selects RX0 yX0_sentBackInAll yX0_sentBackInAll).before args s = true := ⟨cw_N 0 ht hN nw40 wd33 wd142 (by decide +kernel) rfl rfl hR, ht _ wd140, ht _ wd141⟩
theorem cf_RX5_174 {R : Room} {s : State} {args : Array Value} (ht : ∀ w ∈ wsL_law, w.before args s = true) (hN : ∀ w ∈ nestW, va_Nw w s) (hR : rm_X0_fallenSet.frames + 1 ≤ R.frames ∧ 8 + (3 + 11) + rm_X0_fallenSet.locals ≤ R.locals) : va_CN R s args RX5 174 yX0_fallenSet "BridgedPachisi" cX0_fallenSet 3 (some .int) (.code yX0_fallenSet cX0_fallenSet 3 (some .int) :: wsL_law) rm_X0_fallenSet 0 0 0 ∧ (Cond.instanceMethod yX0_fallenSet).before args s = true ∧ (Cond.selects RX0 yX0_fallenSet yX0_fallenSet).before args s = true := ⟨cw_N 0 ht hN nw41 wd33 wd145 (by decide +kernel) rfl rfl hR, ht _ wd143, ht _ wd144⟩
set_option maxHeartbeats 1000000 in
set_option maxRecDepth 100000 in
theorem c_X5_count (l : Launch) (G : va_G) (cI cC cZ cG : ClassId) (sz : Nat) (qX wg qR qd qh qk : Nat) (qg qt qb qp qs qr qf : Nat) (pr sb br fe se : IA) (fl x : Int32) (pl : Nat) (th tu ca : Int32) (qx qy : Nat) (ln nx0 sz0 : Nat) (w0 : Int32) : Met l yX5_count (.code yX5_count cX5_count 2 (some .int) :: wsL_law) rm_X5_count (va_Pc [.ref qX, .int w0] (bw G cI cC cZ cG false sz [(qX, .inr (5, [.ref qg, .ref wg, .ref qR, .ref qd, .ref qh, .ref qk])), (qg, .inr (1, [.ref qb, .ref qt, .int x, .int (nI pl), .int th, .int tu, .int ca])), (qt, .inl (cI, 3, .inl se)), (qb, .inr (0, [.ref qp, .ref qs, .ref qr, .ref qf, .int fl])), (qp, .inl (cI, 12, .inl pr)), (qs, .inl (cI, 12, .inl sb)), (qr, .inl (cI, 4, .inl br)), (qf, .inl (cI, 4, .inl fe)), (qd, .inr (3, [.ref qx, .int (nI ln)])), (qh, .inr (2, [.ref qy, .int (nI nx0), .int (nI sz0)]))])) (vp_Si (fun r => r = p_count w0 pr sb br se fl x pl th tu ca ln sz0)) 0 0 (fun _ => False) := by
  refine met_bw rfl (Nat.le_of_ble_eq_true rfl) ?_
  intro p e s m below meth c ls hx hb hr hml hown hts hlocks hin hsz hP hK hD0 hX0 hl
  have hown : s.vm.findClass RX5 = some m.cls := hown
  have hl : lv_has ls 2 [(0, .ref qX), (1, .int w0)] := hl
  refine lv_iload_n hx hb dX5_count_0 rfl (lv_at hl 1 rfl) ?_
  rcases sw_cases2 0 17 w0 with hsw340 | ⟨j340, hg340, hj340, hsw340⟩
  · refine lv_tableOut (tgt := 213) hx hb dX5_count_1 hsw340 (by decide) ?_
    refine lv_bipush (v := (-2)) hx hb dX5_count_213 (by decide) ?_
    exact W.iret (v := (-2)) hx hb hr (fun t ht hW => ⟨(-2), rfl, by rw [p_count, if_neg (show ¬ w0 = 0 from sw_ne hsw340 (by decide)), if_neg (show ¬ w0 = 1 from sw_ne hsw340 (by decide)), if_neg (show ¬ w0 = 2 from sw_ne hsw340 (by decide)), if_neg (show ¬ w0 = 3 from sw_ne hsw340 (by decide)), if_neg (show ¬ w0 = 4 from sw_ne hsw340 (by decide)), if_neg (show ¬ w0 = 5 from sw_ne hsw340 (by decide)), if_neg (show ¬ w0 = 6 from sw_ne hsw340 (by decide)), if_neg (show ¬ w0 = 7 from sw_ne hsw340 (by decide)), if_neg (show ¬ w0 = 8 from sw_ne hsw340 (by decide)), if_neg (show ¬ w0 = 9 from sw_ne hsw340 (by decide)), if_neg (show ¬ w0 = 10 from sw_ne hsw340 (by decide)), if_neg (show ¬ w0 = 11 from sw_ne hsw340 (by decide)), if_neg (show ¬ w0 = 12 from sw_ne hsw340 (by decide)), if_neg (show ¬ w0 = 13 from sw_ne hsw340 (by decide)), if_neg (show ¬ w0 = 14 from sw_ne hsw340 (by decide)), if_neg (show ¬ w0 = 15 from sw_ne hsw340 (by decide)), if_neg (show ¬ w0 = 16 from sw_ne hsw340 (by decide)), if_neg (show ¬ w0 = 17 from sw_ne hsw340 (by decide))], ht⟩) (fun _ h => absurd h List.not_mem_nil) dX5_count_215
  · rcases (show j340 = 0 ∨ j340 = 1 ∨ j340 = 2 ∨ j340 = 3 ∨ j340 = 4 ∨ j340 = 5 ∨ j340 = 6 ∨ j340 = 7 ∨ j340 = 8 ∨ j340 = 9 ∨ j340 = 10 ∨ j340 = 11 ∨ j340 = 12 ∨ j340 = 13 ∨ j340 = 14 ∨ j340 = 15 ∨ j340 = 16 ∨ j340 = 17 by omega) with rfl | rfl | rfl | rfl | rfl | rfl | rfl | rfl | rfl | rfl | rfl | rfl | rfl | rfl | rfl | rfl | rfl | rfl
    · refine lv_tableIn (off := 87) (tgt := 88) hx hb dX5_count_1 (by rw [hsw340]; decide) (by rw [hsw340]; decide) (by rw [hsw340]; rfl) (by decide) ?_
      refine lv_aload_n hx hb dX5_count_88 rfl (lv_at hl 0 rfl) ?_
      refine va_get (D := G) (ci := 5) (v := .ref qg) (C := RX5) (T := TX5) (N := 6) hx hb hts inlX5 hown hK.1 hP 0 rfl rfl 0 (by decide) (hts _ wd13) (fun _ h9 => h9) rfl dX5_count_89 ?_
      refine va_getN (D := G) (ci := 1) (v := .ref qt) (C := RX1) (T := TX1) (N := 7) hx hb hts inlX1 hown hK.1 hP 1 rfl rfl 1 (by decide) (va_Nw.use rfl (hK.2 _ nw10)) (fun _ h9 => h9) rfl dX5_count_92 ?_
      refine lv_iload_n hx hb dX5_count_95 rfl (lv_at hl 1 rfl) ?_
      refine za_ld hx hb hK.1 hP 2 0 rfl rfl 0 hsw340 (by decide) (by decide) dX5_count_96 ?_
      exact W.iret (v := se 0) hx hb hr (fun t ht hW => ⟨se 0, rfl, by rw [p_count, if_pos (show w0 = 0 from hsw340)], ht⟩) (fun _ h => absurd h List.not_mem_nil) dX5_count_97
    · refine lv_tableIn (off := 87) (tgt := 88) hx hb dX5_count_1 (by rw [hsw340]; decide) (by rw [hsw340]; decide) (by rw [hsw340]; rfl) (by decide) ?_
      refine lv_aload_n hx hb dX5_count_88 rfl (lv_at hl 0 rfl) ?_
      refine va_get (D := G) (ci := 5) (v := .ref qg) (C := RX5) (T := TX5) (N := 6) hx hb hts inlX5 hown hK.1 hP 0 rfl rfl 0 (by decide) (hts _ wd13) (fun _ h9 => h9) rfl dX5_count_89 ?_
      refine va_getN (D := G) (ci := 1) (v := .ref qt) (C := RX1) (T := TX1) (N := 7) hx hb hts inlX1 hown hK.1 hP 1 rfl rfl 1 (by decide) (va_Nw.use rfl (hK.2 _ nw10)) (fun _ h9 => h9) rfl dX5_count_92 ?_
      refine lv_iload_n hx hb dX5_count_95 rfl (lv_at hl 1 rfl) ?_
      refine za_ld hx hb hK.1 hP 2 0 rfl rfl 1 hsw340 (by decide) (by decide) dX5_count_96 ?_
      exact W.iret (v := se 1) hx hb hr (fun t ht hW => ⟨se 1, rfl, by rw [p_count, if_neg (show ¬ w0 = 0 by rw [hsw340]; decide), if_pos (show w0 = 1 from hsw340)], ht⟩) (fun _ h => absurd h List.not_mem_nil) dX5_count_97
    · refine lv_tableIn (off := 87) (tgt := 88) hx hb dX5_count_1 (by rw [hsw340]; decide) (by rw [hsw340]; decide) (by rw [hsw340]; rfl) (by decide) ?_
      refine lv_aload_n hx hb dX5_count_88 rfl (lv_at hl 0 rfl) ?_
      refine va_get (D := G) (ci := 5) (v := .ref qg) (C := RX5) (T := TX5) (N := 6) hx hb hts inlX5 hown hK.1 hP 0 rfl rfl 0 (by decide) (hts _ wd13) (fun _ h9 => h9) rfl dX5_count_89 ?_
      refine va_getN (D := G) (ci := 1) (v := .ref qt) (C := RX1) (T := TX1) (N := 7) hx hb hts inlX1 hown hK.1 hP 1 rfl rfl 1 (by decide) (va_Nw.use rfl (hK.2 _ nw10)) (fun _ h9 => h9) rfl dX5_count_92 ?_
      refine lv_iload_n hx hb dX5_count_95 rfl (lv_at hl 1 rfl) ?_
      refine za_ld hx hb hK.1 hP 2 0 rfl rfl 2 hsw340 (by decide) (by decide) dX5_count_96 ?_
      exact W.iret (v := se 2) hx hb hr (fun t ht hW => ⟨se 2, rfl, by rw [p_count, if_neg (show ¬ w0 = 0 by rw [hsw340]; decide), if_neg (show ¬ w0 = 1 by rw [hsw340]; decide), if_pos (show w0 = 2 from hsw340)], ht⟩) (fun _ h => absurd h List.not_mem_nil) dX5_count_97
    · refine lv_tableIn (off := 97) (tgt := 98) hx hb dX5_count_1 (by rw [hsw340]; decide) (by rw [hsw340]; decide) (by rw [hsw340]; rfl) (by decide) ?_
      refine lv_aload_n hx hb dX5_count_98 rfl (lv_at hl 0 rfl) ?_
      refine va_get (D := G) (ci := 5) (v := .ref qg) (C := RX5) (T := TX5) (N := 6) hx hb hts inlX5 hown hK.1 hP 0 rfl rfl 0 (by decide) (hts _ wd13) (fun _ h9 => h9) rfl dX5_count_99 ?_
      refine va_getN (D := G) (ci := 1) (v := .int x) (C := RX1) (T := TX1) (N := 7) hx hb hts inlX1 hown hK.1 hP 1 rfl rfl 2 (by decide) (va_Nw.use rfl (hK.2 _ nw11)) (fun _ h9 => h9) rfl dX5_count_102 ?_
      exact W.iret (v := x) hx hb hr (fun t ht hW => ⟨x, rfl, by rw [p_count, if_neg (show ¬ w0 = 0 by rw [hsw340]; decide), if_neg (show ¬ w0 = 1 by rw [hsw340]; decide), if_neg (show ¬ w0 = 2 by rw [hsw340]; decide), if_pos (show w0 = 3 from hsw340)], ht⟩) (fun _ h => absurd h List.not_mem_nil) dX5_count_105
    · refine lv_tableIn (off := 105) (tgt := 106) hx hb dX5_count_1 (by rw [hsw340]; decide) (by rw [hsw340]; decide) (by rw [hsw340]; rfl) (by decide) ?_
      refine lv_aload_n hx hb dX5_count_106 rfl (lv_at hl 0 rfl) ?_
      refine va_get (D := G) (ci := 5) (v := .ref qg) (C := RX5) (T := TX5) (N := 6) hx hb hts inlX5 hown hK.1 hP 0 rfl rfl 0 (by decide) (hts _ wd13) (fun _ h9 => h9) rfl dX5_count_107 ?_
      refine va_getN (D := G) (ci := 1) (v := .int (nI pl)) (C := RX1) (T := TX1) (N := 7) hx hb hts inlX1 hown hK.1 hP 1 rfl rfl 3 (by decide) (va_Nw.use rfl (hK.2 _ nw12)) (fun _ h9 => h9) rfl dX5_count_110 ?_
      exact W.iret (v := nI pl) hx hb hr (fun t ht hW => ⟨nI pl, rfl, by rw [p_count, if_neg (show ¬ w0 = 0 by rw [hsw340]; decide), if_neg (show ¬ w0 = 1 by rw [hsw340]; decide), if_neg (show ¬ w0 = 2 by rw [hsw340]; decide), if_neg (show ¬ w0 = 3 by rw [hsw340]; decide), if_pos (show w0 = 4 from hsw340)], ht⟩) (fun _ h => absurd h List.not_mem_nil) dX5_count_113
    · refine lv_tableIn (off := 113) (tgt := 114) hx hb dX5_count_1 (by rw [hsw340]; decide) (by rw [hsw340]; decide) (by rw [hsw340]; rfl) (by decide) ?_
      refine lv_aload_n hx hb dX5_count_114 rfl (lv_at hl 0 rfl) ?_
      refine va_get (D := G) (ci := 5) (v := .ref qg) (C := RX5) (T := TX5) (N := 6) hx hb hts inlX5 hown hK.1 hP 0 rfl rfl 0 (by decide) (hts _ wd13) (fun _ h9 => h9) rfl dX5_count_115 ?_
      refine va_getN (D := G) (ci := 1) (v := .int th) (C := RX1) (T := TX1) (N := 7) hx hb hts inlX1 hown hK.1 hP 1 rfl rfl 4 (by decide) (va_Nw.use rfl (hK.2 _ nw13)) (fun _ h9 => h9) rfl dX5_count_118 ?_
      exact W.iret (v := th) hx hb hr (fun t ht hW => ⟨th, rfl, by rw [p_count, if_neg (show ¬ w0 = 0 by rw [hsw340]; decide), if_neg (show ¬ w0 = 1 by rw [hsw340]; decide), if_neg (show ¬ w0 = 2 by rw [hsw340]; decide), if_neg (show ¬ w0 = 3 by rw [hsw340]; decide), if_neg (show ¬ w0 = 4 by rw [hsw340]; decide), if_pos (show w0 = 5 from hsw340)], ht⟩) (fun _ h => absurd h List.not_mem_nil) dX5_count_121
    · refine lv_tableIn (off := 121) (tgt := 122) hx hb dX5_count_1 (by rw [hsw340]; decide) (by rw [hsw340]; decide) (by rw [hsw340]; rfl) (by decide) ?_
      refine lv_aload_n hx hb dX5_count_122 rfl (lv_at hl 0 rfl) ?_
      refine va_get (D := G) (ci := 5) (v := .ref qg) (C := RX5) (T := TX5) (N := 6) hx hb hts inlX5 hown hK.1 hP 0 rfl rfl 0 (by decide) (hts _ wd13) (fun _ h9 => h9) rfl dX5_count_123 ?_
      refine va_getN (D := G) (ci := 1) (v := .int tu) (C := RX1) (T := TX1) (N := 7) hx hb hts inlX1 hown hK.1 hP 1 rfl rfl 5 (by decide) (va_Nw.use rfl (hK.2 _ nw14)) (fun _ h9 => h9) rfl dX5_count_126 ?_
      exact W.iret (v := tu) hx hb hr (fun t ht hW => ⟨tu, rfl, by rw [p_count, if_neg (show ¬ w0 = 0 by rw [hsw340]; decide), if_neg (show ¬ w0 = 1 by rw [hsw340]; decide), if_neg (show ¬ w0 = 2 by rw [hsw340]; decide), if_neg (show ¬ w0 = 3 by rw [hsw340]; decide), if_neg (show ¬ w0 = 4 by rw [hsw340]; decide), if_neg (show ¬ w0 = 5 by rw [hsw340]; decide), if_pos (show w0 = 6 from hsw340)], ht⟩) (fun _ h => absurd h List.not_mem_nil) dX5_count_129
    · refine lv_tableIn (off := 129) (tgt := 130) hx hb dX5_count_1 (by rw [hsw340]; decide) (by rw [hsw340]; decide) (by rw [hsw340]; rfl) (by decide) ?_
      refine lv_aload_n hx hb dX5_count_130 rfl (lv_at hl 0 rfl) ?_
      refine va_get (D := G) (ci := 5) (v := .ref qg) (C := RX5) (T := TX5) (N := 6) hx hb hts inlX5 hown hK.1 hP 0 rfl rfl 0 (by decide) (hts _ wd13) (fun _ h9 => h9) rfl dX5_count_131 ?_
      refine va_getN (D := G) (ci := 1) (v := .int ca) (C := RX1) (T := TX1) (N := 7) hx hb hts inlX1 hown hK.1 hP 1 rfl rfl 6 (by decide) (va_Nw.use rfl (hK.2 _ nw15)) (fun _ h9 => h9) rfl dX5_count_134 ?_
      exact W.iret (v := ca) hx hb hr (fun t ht hW => ⟨ca, rfl, by rw [p_count, if_neg (show ¬ w0 = 0 by rw [hsw340]; decide), if_neg (show ¬ w0 = 1 by rw [hsw340]; decide), if_neg (show ¬ w0 = 2 by rw [hsw340]; decide), if_neg (show ¬ w0 = 3 by rw [hsw340]; decide), if_neg (show ¬ w0 = 4 by rw [hsw340]; decide), if_neg (show ¬ w0 = 5 by rw [hsw340]; decide), if_neg (show ¬ w0 = 6 by rw [hsw340]; decide), if_pos (show w0 = 7 from hsw340)], ht⟩) (fun _ h => absurd h List.not_mem_nil) dX5_count_137
    · refine lv_tableIn (off := 137) (tgt := 138) hx hb dX5_count_1 (by rw [hsw340]; decide) (by rw [hsw340]; decide) (by rw [hsw340]; rfl) (by decide) ?_
      refine lv_aload_n hx hb dX5_count_138 rfl (lv_at hl 0 rfl) ?_
      refine va_get (D := G) (ci := 5) (v := .ref qg) (C := RX5) (T := TX5) (N := 6) hx hb hts inlX5 hown hK.1 hP 0 rfl rfl 0 (by decide) (hts _ wd13) (fun _ h9 => h9) rfl dX5_count_139 ?_
      refine va_getN (D := G) (ci := 1) (v := .ref qb) (C := RX1) (T := TX1) (N := 7) hx hb hts inlX1 hown hK.1 hP 1 rfl rfl 0 (by decide) (va_Nw.use rfl (hK.2 _ nw9)) (fun _ h9 => h9) rfl dX5_count_142 ?_
      have hPc := hP.sub (ws' := [(qb, .inr (0, [.ref qp, .ref qs, .ref qr, .ref qf, .int fl])), (qp, .inl (cI, 12, .inl pr)), (qs, .inl (cI, 12, .inl sb)), (qr, .inl (cI, 4, .inl br)), (qf, .inl (cI, 4, .inl fe))]) [3, 4, 5, 6, 7] rfl
      have hDc := (hD0.sub (ws' := [(qb, .inr (0, [.ref qp, .ref qs, .ref qr, .ref qf, .int fl])), (qp, .inl (cI, 12, .inl pr)), (qs, .inl (cI, 12, .inl sb)), (qr, .inl (cI, 4, .inl br)), (qf, .inl (cI, 4, .inl fe))]) [3, 4, 5, 6, 7] (by decide) rfl).tt
      refine vp_callSi (va_Run.run (va_runVN (As := []) (rest := []) ⟨hx, hb, hml, hown, hts⟩ (c_X0_winner l G cI cC cZ cG s.heap.size qb qp qs qr qf pr sb br fe fl) (cf_RX5_165 hts hK.2 ⟨Nat.le_of_ble_eq_true rfl, Nat.le_of_ble_eq_true rfl⟩) (pre_V hK hPc hDc (ci := 0) (q0 := 0) rfl rfl) rfl rfl hl.1 rfl (lv_room (Nat.le_of_ble_eq_true rfl)) dX5_count_145 ⟨Nat.le_of_ble_eq_true rfl, Nat.le_of_ble_eq_true rfl⟩)) (fun r341 hr341 => ?_)
      subst hr341
      exact W.iret (v := wi pr) hx hb hr (fun t ht hW => ⟨wi pr, rfl, by rw [p_count, if_neg (show ¬ w0 = 0 by rw [hsw340]; decide), if_neg (show ¬ w0 = 1 by rw [hsw340]; decide), if_neg (show ¬ w0 = 2 by rw [hsw340]; decide), if_neg (show ¬ w0 = 3 by rw [hsw340]; decide), if_neg (show ¬ w0 = 4 by rw [hsw340]; decide), if_neg (show ¬ w0 = 5 by rw [hsw340]; decide), if_neg (show ¬ w0 = 6 by rw [hsw340]; decide), if_neg (show ¬ w0 = 7 by rw [hsw340]; decide), if_pos (show w0 = 8 from hsw340)], ht⟩) (fun _ h => absurd h List.not_mem_nil) dX5_count_148
    · refine lv_tableIn (off := 148) (tgt := 149) hx hb dX5_count_1 (by rw [hsw340]; decide) (by rw [hsw340]; decide) (by rw [hsw340]; rfl) (by decide) ?_
      refine lv_aload_n hx hb dX5_count_149 rfl (lv_at hl 0 rfl) ?_
      refine va_get (D := G) (ci := 5) (v := .ref qg) (C := RX5) (T := TX5) (N := 6) hx hb hts inlX5 hown hK.1 hP 0 rfl rfl 0 (by decide) (hts _ wd13) (fun _ h9 => h9) rfl dX5_count_150 ?_
      refine va_getN (D := G) (ci := 1) (v := .ref qb) (C := RX1) (T := TX1) (N := 7) hx hb hts inlX1 hown hK.1 hP 1 rfl rfl 0 (by decide) (va_Nw.use rfl (hK.2 _ nw9)) (fun _ h9 => h9) rfl dX5_count_153 ?_
      refine lv_iload_n hx hb dX5_count_156 rfl (lv_at hl 1 rfl) ?_
      refine lv_bipush (v := 9) hx hb dX5_count_157 (by decide) ?_
      refine zi_sub hx hb 9 9 dX5_count_159 hsw340 rfl (by decide) ?_
      have hPc := hP.sub (ws' := [(qb, .inr (0, [.ref qp, .ref qs, .ref qr, .ref qf, .int fl])), (qp, .inl (cI, 12, .inl pr)), (qs, .inl (cI, 12, .inl sb)), (qr, .inl (cI, 4, .inl br)), (qf, .inl (cI, 4, .inl fe))]) [3, 4, 5, 6, 7] rfl
      have hDc := (hD0.sub (ws' := [(qb, .inr (0, [.ref qp, .ref qs, .ref qr, .ref qf, .int fl])), (qp, .inl (cI, 12, .inl pr)), (qs, .inl (cI, 12, .inl sb)), (qr, .inl (cI, 4, .inl br)), (qf, .inl (cI, 4, .inl fe))]) [3, 4, 5, 6, 7] (by decide) rfl).tt
      refine vp_callSi (va_Run.run (va_runVN (As := [.int (nI (9 - 9))]) (rest := []) ⟨hx, hb, hml, hown, hts⟩ (c_X0_homeOf l G cI cC cZ cG s.heap.size qb qp qs qr qf pr sb br fe fl (9 - 9) (by omega)) (cf_RX5_168 hts hK.2 ⟨Nat.le_of_ble_eq_true rfl, Nat.le_of_ble_eq_true rfl⟩) (pre_V hK hPc hDc (ci := 0) (q0 := 0) rfl rfl) rfl rfl hl.1 rfl (lv_room (Nat.le_of_ble_eq_true rfl)) dX5_count_160 ⟨Nat.le_of_ble_eq_true rfl, Nat.le_of_ble_eq_true rfl⟩)) (fun r342 hr342 => ?_)
      subst hr342
      have hf343 := (show ho pr (9 - 9) ≤ 3 from cnt_le (hoP pr (9 - 9)) 3)
      exact W.iret (v := nI (ho pr (9 - 9))) hx hb hr (fun t ht hW => ⟨nI (ho pr (9 - 9)), rfl, by rw [p_count, if_neg (show ¬ w0 = 0 by rw [hsw340]; decide), if_neg (show ¬ w0 = 1 by rw [hsw340]; decide), if_neg (show ¬ w0 = 2 by rw [hsw340]; decide), if_neg (show ¬ w0 = 3 by rw [hsw340]; decide), if_neg (show ¬ w0 = 4 by rw [hsw340]; decide), if_neg (show ¬ w0 = 5 by rw [hsw340]; decide), if_neg (show ¬ w0 = 6 by rw [hsw340]; decide), if_neg (show ¬ w0 = 7 by rw [hsw340]; decide), if_neg (show ¬ w0 = 8 by rw [hsw340]; decide), if_pos (show w0 = 9 from hsw340)], ht⟩) (fun _ h => absurd h List.not_mem_nil) dX5_count_163
    · refine lv_tableIn (off := 148) (tgt := 149) hx hb dX5_count_1 (by rw [hsw340]; decide) (by rw [hsw340]; decide) (by rw [hsw340]; rfl) (by decide) ?_
      refine lv_aload_n hx hb dX5_count_149 rfl (lv_at hl 0 rfl) ?_
      refine va_get (D := G) (ci := 5) (v := .ref qg) (C := RX5) (T := TX5) (N := 6) hx hb hts inlX5 hown hK.1 hP 0 rfl rfl 0 (by decide) (hts _ wd13) (fun _ h9 => h9) rfl dX5_count_150 ?_
      refine va_getN (D := G) (ci := 1) (v := .ref qb) (C := RX1) (T := TX1) (N := 7) hx hb hts inlX1 hown hK.1 hP 1 rfl rfl 0 (by decide) (va_Nw.use rfl (hK.2 _ nw9)) (fun _ h9 => h9) rfl dX5_count_153 ?_
      refine lv_iload_n hx hb dX5_count_156 rfl (lv_at hl 1 rfl) ?_
      refine lv_bipush (v := 9) hx hb dX5_count_157 (by decide) ?_
      refine zi_sub hx hb 10 9 dX5_count_159 hsw340 rfl (by decide) ?_
      have hPc := hP.sub (ws' := [(qb, .inr (0, [.ref qp, .ref qs, .ref qr, .ref qf, .int fl])), (qp, .inl (cI, 12, .inl pr)), (qs, .inl (cI, 12, .inl sb)), (qr, .inl (cI, 4, .inl br)), (qf, .inl (cI, 4, .inl fe))]) [3, 4, 5, 6, 7] rfl
      have hDc := (hD0.sub (ws' := [(qb, .inr (0, [.ref qp, .ref qs, .ref qr, .ref qf, .int fl])), (qp, .inl (cI, 12, .inl pr)), (qs, .inl (cI, 12, .inl sb)), (qr, .inl (cI, 4, .inl br)), (qf, .inl (cI, 4, .inl fe))]) [3, 4, 5, 6, 7] (by decide) rfl).tt
      refine vp_callSi (va_Run.run (va_runVN (As := [.int (nI (10 - 9))]) (rest := []) ⟨hx, hb, hml, hown, hts⟩ (c_X0_homeOf l G cI cC cZ cG s.heap.size qb qp qs qr qf pr sb br fe fl (10 - 9) (by omega)) (cf_RX5_168 hts hK.2 ⟨Nat.le_of_ble_eq_true rfl, Nat.le_of_ble_eq_true rfl⟩) (pre_V hK hPc hDc (ci := 0) (q0 := 0) rfl rfl) rfl rfl hl.1 rfl (lv_room (Nat.le_of_ble_eq_true rfl)) dX5_count_160 ⟨Nat.le_of_ble_eq_true rfl, Nat.le_of_ble_eq_true rfl⟩)) (fun r344 hr344 => ?_)
      subst hr344
      have hf345 := (show ho pr (10 - 9) ≤ 3 from cnt_le (hoP pr (10 - 9)) 3)
      exact W.iret (v := nI (ho pr (10 - 9))) hx hb hr (fun t ht hW => ⟨nI (ho pr (10 - 9)), rfl, by rw [p_count, if_neg (show ¬ w0 = 0 by rw [hsw340]; decide), if_neg (show ¬ w0 = 1 by rw [hsw340]; decide), if_neg (show ¬ w0 = 2 by rw [hsw340]; decide), if_neg (show ¬ w0 = 3 by rw [hsw340]; decide), if_neg (show ¬ w0 = 4 by rw [hsw340]; decide), if_neg (show ¬ w0 = 5 by rw [hsw340]; decide), if_neg (show ¬ w0 = 6 by rw [hsw340]; decide), if_neg (show ¬ w0 = 7 by rw [hsw340]; decide), if_neg (show ¬ w0 = 8 by rw [hsw340]; decide), if_neg (show ¬ w0 = 9 by rw [hsw340]; decide), if_pos (show w0 = 10 from hsw340)], ht⟩) (fun _ h => absurd h List.not_mem_nil) dX5_count_163
    · refine lv_tableIn (off := 148) (tgt := 149) hx hb dX5_count_1 (by rw [hsw340]; decide) (by rw [hsw340]; decide) (by rw [hsw340]; rfl) (by decide) ?_
      refine lv_aload_n hx hb dX5_count_149 rfl (lv_at hl 0 rfl) ?_
      refine va_get (D := G) (ci := 5) (v := .ref qg) (C := RX5) (T := TX5) (N := 6) hx hb hts inlX5 hown hK.1 hP 0 rfl rfl 0 (by decide) (hts _ wd13) (fun _ h9 => h9) rfl dX5_count_150 ?_
      refine va_getN (D := G) (ci := 1) (v := .ref qb) (C := RX1) (T := TX1) (N := 7) hx hb hts inlX1 hown hK.1 hP 1 rfl rfl 0 (by decide) (va_Nw.use rfl (hK.2 _ nw9)) (fun _ h9 => h9) rfl dX5_count_153 ?_
      refine lv_iload_n hx hb dX5_count_156 rfl (lv_at hl 1 rfl) ?_
      refine lv_bipush (v := 9) hx hb dX5_count_157 (by decide) ?_
      refine zi_sub hx hb 11 9 dX5_count_159 hsw340 rfl (by decide) ?_
      have hPc := hP.sub (ws' := [(qb, .inr (0, [.ref qp, .ref qs, .ref qr, .ref qf, .int fl])), (qp, .inl (cI, 12, .inl pr)), (qs, .inl (cI, 12, .inl sb)), (qr, .inl (cI, 4, .inl br)), (qf, .inl (cI, 4, .inl fe))]) [3, 4, 5, 6, 7] rfl
      have hDc := (hD0.sub (ws' := [(qb, .inr (0, [.ref qp, .ref qs, .ref qr, .ref qf, .int fl])), (qp, .inl (cI, 12, .inl pr)), (qs, .inl (cI, 12, .inl sb)), (qr, .inl (cI, 4, .inl br)), (qf, .inl (cI, 4, .inl fe))]) [3, 4, 5, 6, 7] (by decide) rfl).tt
      refine vp_callSi (va_Run.run (va_runVN (As := [.int (nI (11 - 9))]) (rest := []) ⟨hx, hb, hml, hown, hts⟩ (c_X0_homeOf l G cI cC cZ cG s.heap.size qb qp qs qr qf pr sb br fe fl (11 - 9) (by omega)) (cf_RX5_168 hts hK.2 ⟨Nat.le_of_ble_eq_true rfl, Nat.le_of_ble_eq_true rfl⟩) (pre_V hK hPc hDc (ci := 0) (q0 := 0) rfl rfl) rfl rfl hl.1 rfl (lv_room (Nat.le_of_ble_eq_true rfl)) dX5_count_160 ⟨Nat.le_of_ble_eq_true rfl, Nat.le_of_ble_eq_true rfl⟩)) (fun r346 hr346 => ?_)
      subst hr346
      have hf347 := (show ho pr (11 - 9) ≤ 3 from cnt_le (hoP pr (11 - 9)) 3)
      exact W.iret (v := nI (ho pr (11 - 9))) hx hb hr (fun t ht hW => ⟨nI (ho pr (11 - 9)), rfl, by rw [p_count, if_neg (show ¬ w0 = 0 by rw [hsw340]; decide), if_neg (show ¬ w0 = 1 by rw [hsw340]; decide), if_neg (show ¬ w0 = 2 by rw [hsw340]; decide), if_neg (show ¬ w0 = 3 by rw [hsw340]; decide), if_neg (show ¬ w0 = 4 by rw [hsw340]; decide), if_neg (show ¬ w0 = 5 by rw [hsw340]; decide), if_neg (show ¬ w0 = 6 by rw [hsw340]; decide), if_neg (show ¬ w0 = 7 by rw [hsw340]; decide), if_neg (show ¬ w0 = 8 by rw [hsw340]; decide), if_neg (show ¬ w0 = 9 by rw [hsw340]; decide), if_neg (show ¬ w0 = 10 by rw [hsw340]; decide), if_pos (show w0 = 11 from hsw340)], ht⟩) (fun _ h => absurd h List.not_mem_nil) dX5_count_163
    · refine lv_tableIn (off := 148) (tgt := 149) hx hb dX5_count_1 (by rw [hsw340]; decide) (by rw [hsw340]; decide) (by rw [hsw340]; rfl) (by decide) ?_
      refine lv_aload_n hx hb dX5_count_149 rfl (lv_at hl 0 rfl) ?_
      refine va_get (D := G) (ci := 5) (v := .ref qg) (C := RX5) (T := TX5) (N := 6) hx hb hts inlX5 hown hK.1 hP 0 rfl rfl 0 (by decide) (hts _ wd13) (fun _ h9 => h9) rfl dX5_count_150 ?_
      refine va_getN (D := G) (ci := 1) (v := .ref qb) (C := RX1) (T := TX1) (N := 7) hx hb hts inlX1 hown hK.1 hP 1 rfl rfl 0 (by decide) (va_Nw.use rfl (hK.2 _ nw9)) (fun _ h9 => h9) rfl dX5_count_153 ?_
      refine lv_iload_n hx hb dX5_count_156 rfl (lv_at hl 1 rfl) ?_
      refine lv_bipush (v := 9) hx hb dX5_count_157 (by decide) ?_
      refine zi_sub hx hb 12 9 dX5_count_159 hsw340 rfl (by decide) ?_
      have hPc := hP.sub (ws' := [(qb, .inr (0, [.ref qp, .ref qs, .ref qr, .ref qf, .int fl])), (qp, .inl (cI, 12, .inl pr)), (qs, .inl (cI, 12, .inl sb)), (qr, .inl (cI, 4, .inl br)), (qf, .inl (cI, 4, .inl fe))]) [3, 4, 5, 6, 7] rfl
      have hDc := (hD0.sub (ws' := [(qb, .inr (0, [.ref qp, .ref qs, .ref qr, .ref qf, .int fl])), (qp, .inl (cI, 12, .inl pr)), (qs, .inl (cI, 12, .inl sb)), (qr, .inl (cI, 4, .inl br)), (qf, .inl (cI, 4, .inl fe))]) [3, 4, 5, 6, 7] (by decide) rfl).tt
      refine vp_callSi (va_Run.run (va_runVN (As := [.int (nI (12 - 9))]) (rest := []) ⟨hx, hb, hml, hown, hts⟩ (c_X0_homeOf l G cI cC cZ cG s.heap.size qb qp qs qr qf pr sb br fe fl (12 - 9) (by omega)) (cf_RX5_168 hts hK.2 ⟨Nat.le_of_ble_eq_true rfl, Nat.le_of_ble_eq_true rfl⟩) (pre_V hK hPc hDc (ci := 0) (q0 := 0) rfl rfl) rfl rfl hl.1 rfl (lv_room (Nat.le_of_ble_eq_true rfl)) dX5_count_160 ⟨Nat.le_of_ble_eq_true rfl, Nat.le_of_ble_eq_true rfl⟩)) (fun r348 hr348 => ?_)
      subst hr348
      have hf349 := (show ho pr (12 - 9) ≤ 3 from cnt_le (hoP pr (12 - 9)) 3)
      exact W.iret (v := nI (ho pr (12 - 9))) hx hb hr (fun t ht hW => ⟨nI (ho pr (12 - 9)), rfl, by rw [p_count, if_neg (show ¬ w0 = 0 by rw [hsw340]; decide), if_neg (show ¬ w0 = 1 by rw [hsw340]; decide), if_neg (show ¬ w0 = 2 by rw [hsw340]; decide), if_neg (show ¬ w0 = 3 by rw [hsw340]; decide), if_neg (show ¬ w0 = 4 by rw [hsw340]; decide), if_neg (show ¬ w0 = 5 by rw [hsw340]; decide), if_neg (show ¬ w0 = 6 by rw [hsw340]; decide), if_neg (show ¬ w0 = 7 by rw [hsw340]; decide), if_neg (show ¬ w0 = 8 by rw [hsw340]; decide), if_neg (show ¬ w0 = 9 by rw [hsw340]; decide), if_neg (show ¬ w0 = 10 by rw [hsw340]; decide), if_neg (show ¬ w0 = 11 by rw [hsw340]; decide), if_pos (show w0 = 12 from hsw340)], ht⟩) (fun _ h => absurd h List.not_mem_nil) dX5_count_163
    · refine lv_tableIn (off := 163) (tgt := 164) hx hb dX5_count_1 (by rw [hsw340]; decide) (by rw [hsw340]; decide) (by rw [hsw340]; rfl) (by decide) ?_
      refine lv_aload_n hx hb dX5_count_164 rfl (lv_at hl 0 rfl) ?_
      refine va_get (D := G) (ci := 5) (v := .ref qg) (C := RX5) (T := TX5) (N := 6) hx hb hts inlX5 hown hK.1 hP 0 rfl rfl 0 (by decide) (hts _ wd13) (fun _ h9 => h9) rfl dX5_count_165 ?_
      refine va_getN (D := G) (ci := 1) (v := .ref qb) (C := RX1) (T := TX1) (N := 7) hx hb hts inlX1 hown hK.1 hP 1 rfl rfl 0 (by decide) (va_Nw.use rfl (hK.2 _ nw9)) (fun _ h9 => h9) rfl dX5_count_168 ?_
      have hPc := hP.sub (ws' := [(qb, .inr (0, [.ref qp, .ref qs, .ref qr, .ref qf, .int fl])), (qp, .inl (cI, 12, .inl pr)), (qs, .inl (cI, 12, .inl sb)), (qr, .inl (cI, 4, .inl br)), (qf, .inl (cI, 4, .inl fe))]) [3, 4, 5, 6, 7] rfl
      have hDc := (hD0.sub (ws' := [(qb, .inr (0, [.ref qp, .ref qs, .ref qr, .ref qf, .int fl])), (qp, .inl (cI, 12, .inl pr)), (qs, .inl (cI, 12, .inl sb)), (qr, .inl (cI, 4, .inl br)), (qf, .inl (cI, 4, .inl fe))]) [3, 4, 5, 6, 7] (by decide) rfl).tt
      refine vp_callSi (va_Run.run (va_runVN (As := []) (rest := []) ⟨hx, hb, hml, hown, hts⟩ (c_X0_sentBackInAll l G cI cC cZ cG s.heap.size qb qp qs qr qf pr sb br fe fl) (cf_RX5_171 hts hK.2 ⟨Nat.le_of_ble_eq_true rfl, Nat.le_of_ble_eq_true rfl⟩) (pre_V hK hPc hDc (ci := 0) (q0 := 0) rfl rfl) rfl rfl hl.1 rfl (lv_room (Nat.le_of_ble_eq_true rfl)) dX5_count_171 ⟨Nat.le_of_ble_eq_true rfl, Nat.le_of_ble_eq_true rfl⟩)) (fun r350 hr350 => ?_)
      subst hr350
      exact W.iret (v := sumI sb 12) hx hb hr (fun t ht hW => ⟨sumI sb 12, rfl, by rw [p_count, if_neg (show ¬ w0 = 0 by rw [hsw340]; decide), if_neg (show ¬ w0 = 1 by rw [hsw340]; decide), if_neg (show ¬ w0 = 2 by rw [hsw340]; decide), if_neg (show ¬ w0 = 3 by rw [hsw340]; decide), if_neg (show ¬ w0 = 4 by rw [hsw340]; decide), if_neg (show ¬ w0 = 5 by rw [hsw340]; decide), if_neg (show ¬ w0 = 6 by rw [hsw340]; decide), if_neg (show ¬ w0 = 7 by rw [hsw340]; decide), if_neg (show ¬ w0 = 8 by rw [hsw340]; decide), if_neg (show ¬ w0 = 9 by rw [hsw340]; decide), if_neg (show ¬ w0 = 10 by rw [hsw340]; decide), if_neg (show ¬ w0 = 11 by rw [hsw340]; decide), if_neg (show ¬ w0 = 12 by rw [hsw340]; decide), if_pos (show w0 = 13 from hsw340)], ht⟩) (fun _ h => absurd h List.not_mem_nil) dX5_count_174
    · refine lv_tableIn (off := 174) (tgt := 175) hx hb dX5_count_1 (by rw [hsw340]; decide) (by rw [hsw340]; decide) (by rw [hsw340]; rfl) (by decide) ?_
      refine lv_aload_n hx hb dX5_count_175 rfl (lv_at hl 0 rfl) ?_
      refine va_get (D := G) (ci := 5) (v := .ref qg) (C := RX5) (T := TX5) (N := 6) hx hb hts inlX5 hown hK.1 hP 0 rfl rfl 0 (by decide) (hts _ wd13) (fun _ h9 => h9) rfl dX5_count_176 ?_
      refine va_getN (D := G) (ci := 1) (v := .ref qb) (C := RX1) (T := TX1) (N := 7) hx hb hts inlX1 hown hK.1 hP 1 rfl rfl 0 (by decide) (va_Nw.use rfl (hK.2 _ nw9)) (fun _ h9 => h9) rfl dX5_count_179 ?_
      have hPc := hP.sub (ws' := [(qb, .inr (0, [.ref qp, .ref qs, .ref qr, .ref qf, .int fl])), (qp, .inl (cI, 12, .inl pr)), (qs, .inl (cI, 12, .inl sb)), (qr, .inl (cI, 4, .inl br)), (qf, .inl (cI, 4, .inl fe))]) [3, 4, 5, 6, 7] rfl
      have hDc := (hD0.sub (ws' := [(qb, .inr (0, [.ref qp, .ref qs, .ref qr, .ref qf, .int fl])), (qp, .inl (cI, 12, .inl pr)), (qs, .inl (cI, 12, .inl sb)), (qr, .inl (cI, 4, .inl br)), (qf, .inl (cI, 4, .inl fe))]) [3, 4, 5, 6, 7] (by decide) rfl).tt
      refine vp_callSi (va_Run.run (va_runVN (As := []) (rest := []) ⟨hx, hb, hml, hown, hts⟩ (c_X0_fallenSet l G cI cC cZ cG s.heap.size qb qp qs qr qf pr sb br fe fl) (cf_RX5_174 hts hK.2 ⟨Nat.le_of_ble_eq_true rfl, Nat.le_of_ble_eq_true rfl⟩) (pre_V hK hPc hDc (ci := 0) (q0 := 0) rfl rfl) rfl rfl hl.1 rfl (lv_room (Nat.le_of_ble_eq_true rfl)) dX5_count_182 ⟨Nat.le_of_ble_eq_true rfl, Nat.le_of_ble_eq_true rfl⟩)) (fun r351 hr351 => ?_)
      subst hr351
      exact W.iret (v := fset br 4) hx hb hr (fun t ht hW => ⟨fset br 4, rfl, by rw [p_count, if_neg (show ¬ w0 = 0 by rw [hsw340]; decide), if_neg (show ¬ w0 = 1 by rw [hsw340]; decide), if_neg (show ¬ w0 = 2 by rw [hsw340]; decide), if_neg (show ¬ w0 = 3 by rw [hsw340]; decide), if_neg (show ¬ w0 = 4 by rw [hsw340]; decide), if_neg (show ¬ w0 = 5 by rw [hsw340]; decide), if_neg (show ¬ w0 = 6 by rw [hsw340]; decide), if_neg (show ¬ w0 = 7 by rw [hsw340]; decide), if_neg (show ¬ w0 = 8 by rw [hsw340]; decide), if_neg (show ¬ w0 = 9 by rw [hsw340]; decide), if_neg (show ¬ w0 = 10 by rw [hsw340]; decide), if_neg (show ¬ w0 = 11 by rw [hsw340]; decide), if_neg (show ¬ w0 = 12 by rw [hsw340]; decide), if_neg (show ¬ w0 = 13 by rw [hsw340]; decide), if_pos (show w0 = 14 from hsw340)], ht⟩) (fun _ h => absurd h List.not_mem_nil) dX5_count_185
    · refine lv_tableIn (off := 185) (tgt := 186) hx hb dX5_count_1 (by rw [hsw340]; decide) (by rw [hsw340]; decide) (by rw [hsw340]; rfl) (by decide) ?_
      refine lv_aload_n hx hb dX5_count_186 rfl (lv_at hl 0 rfl) ?_
      refine va_get (D := G) (ci := 5) (v := .ref qg) (C := RX5) (T := TX5) (N := 6) hx hb hts inlX5 hown hK.1 hP 0 rfl rfl 0 (by decide) (hts _ wd13) (fun _ h9 => h9) rfl dX5_count_187 ?_
      refine va_getN (D := G) (ci := 1) (v := .ref qb) (C := RX1) (T := TX1) (N := 7) hx hb hts inlX1 hown hK.1 hP 1 rfl rfl 0 (by decide) (va_Nw.use rfl (hK.2 _ nw9)) (fun _ h9 => h9) rfl dX5_count_190 ?_
      refine va_getN (D := G) (ci := 0) (v := .int fl) (C := RX0) (T := TX0) (N := 5) hx hb hts inlX0 hown hK.1 hP 3 rfl rfl 4 (by decide) (va_Nw.use rfl (hK.2 _ nw7)) (fun _ h9 => h9) rfl dX5_count_193 ?_
      exact W.iret (v := fl) hx hb hr (fun t ht hW => ⟨fl, rfl, by rw [p_count, if_neg (show ¬ w0 = 0 by rw [hsw340]; decide), if_neg (show ¬ w0 = 1 by rw [hsw340]; decide), if_neg (show ¬ w0 = 2 by rw [hsw340]; decide), if_neg (show ¬ w0 = 3 by rw [hsw340]; decide), if_neg (show ¬ w0 = 4 by rw [hsw340]; decide), if_neg (show ¬ w0 = 5 by rw [hsw340]; decide), if_neg (show ¬ w0 = 6 by rw [hsw340]; decide), if_neg (show ¬ w0 = 7 by rw [hsw340]; decide), if_neg (show ¬ w0 = 8 by rw [hsw340]; decide), if_neg (show ¬ w0 = 9 by rw [hsw340]; decide), if_neg (show ¬ w0 = 10 by rw [hsw340]; decide), if_neg (show ¬ w0 = 11 by rw [hsw340]; decide), if_neg (show ¬ w0 = 12 by rw [hsw340]; decide), if_neg (show ¬ w0 = 13 by rw [hsw340]; decide), if_neg (show ¬ w0 = 14 by rw [hsw340]; decide), if_pos (show w0 = 15 from hsw340)], ht⟩) (fun _ h => absurd h List.not_mem_nil) dX5_count_196
    · refine lv_tableIn (off := 196) (tgt := 197) hx hb dX5_count_1 (by rw [hsw340]; decide) (by rw [hsw340]; decide) (by rw [hsw340]; rfl) (by decide) ?_
      refine lv_aload_n hx hb dX5_count_197 rfl (lv_at hl 0 rfl) ?_
      refine va_get (D := G) (ci := 5) (v := .ref qd) (C := RX5) (T := TX5) (N := 6) hx hb hts inlX5 hown hK.1 hP 0 rfl rfl 3 (by decide) (hts _ wd22) (fun _ h9 => h9) rfl dX5_count_198 ?_
      refine va_getN (D := G) (ci := 3) (v := .int (nI ln)) (C := RX3) (T := TX3) (N := 2) hx hb hts inlX3 hown hK.1 hP 8 rfl rfl 1 (by decide) (va_Nw.use rfl (hK.2 _ nw18)) (fun _ h9 => h9) rfl dX5_count_201 ?_
      exact W.iret (v := nI ln) hx hb hr (fun t ht hW => ⟨nI ln, rfl, by rw [p_count, if_neg (show ¬ w0 = 0 by rw [hsw340]; decide), if_neg (show ¬ w0 = 1 by rw [hsw340]; decide), if_neg (show ¬ w0 = 2 by rw [hsw340]; decide), if_neg (show ¬ w0 = 3 by rw [hsw340]; decide), if_neg (show ¬ w0 = 4 by rw [hsw340]; decide), if_neg (show ¬ w0 = 5 by rw [hsw340]; decide), if_neg (show ¬ w0 = 6 by rw [hsw340]; decide), if_neg (show ¬ w0 = 7 by rw [hsw340]; decide), if_neg (show ¬ w0 = 8 by rw [hsw340]; decide), if_neg (show ¬ w0 = 9 by rw [hsw340]; decide), if_neg (show ¬ w0 = 10 by rw [hsw340]; decide), if_neg (show ¬ w0 = 11 by rw [hsw340]; decide), if_neg (show ¬ w0 = 12 by rw [hsw340]; decide), if_neg (show ¬ w0 = 13 by rw [hsw340]; decide), if_neg (show ¬ w0 = 14 by rw [hsw340]; decide), if_neg (show ¬ w0 = 15 by rw [hsw340]; decide), if_pos (show w0 = 16 from hsw340)], ht⟩) (fun _ h => absurd h List.not_mem_nil) dX5_count_204
    · refine lv_tableIn (off := 204) (tgt := 205) hx hb dX5_count_1 (by rw [hsw340]; decide) (by rw [hsw340]; decide) (by rw [hsw340]; rfl) (by decide) ?_
      refine lv_aload_n hx hb dX5_count_205 rfl (lv_at hl 0 rfl) ?_
      refine va_get (D := G) (ci := 5) (v := .ref qh) (C := RX5) (T := TX5) (N := 6) hx hb hts inlX5 hown hK.1 hP 0 rfl rfl 4 (by decide) (hts _ wd26) (fun _ h9 => h9) rfl dX5_count_206 ?_
      refine va_getN (D := G) (ci := 2) (v := .int (nI sz0)) (C := RX2) (T := TX2) (N := 3) hx hb hts inlX2 hown hK.1 hP 9 rfl rfl 2 (by decide) (va_Nw.use rfl (hK.2 _ nw20)) (fun _ h9 => h9) rfl dX5_count_209 ?_
      exact W.iret (v := nI sz0) hx hb hr (fun t ht hW => ⟨nI sz0, rfl, by rw [p_count, if_neg (show ¬ w0 = 0 by rw [hsw340]; decide), if_neg (show ¬ w0 = 1 by rw [hsw340]; decide), if_neg (show ¬ w0 = 2 by rw [hsw340]; decide), if_neg (show ¬ w0 = 3 by rw [hsw340]; decide), if_neg (show ¬ w0 = 4 by rw [hsw340]; decide), if_neg (show ¬ w0 = 5 by rw [hsw340]; decide), if_neg (show ¬ w0 = 6 by rw [hsw340]; decide), if_neg (show ¬ w0 = 7 by rw [hsw340]; decide), if_neg (show ¬ w0 = 8 by rw [hsw340]; decide), if_neg (show ¬ w0 = 9 by rw [hsw340]; decide), if_neg (show ¬ w0 = 10 by rw [hsw340]; decide), if_neg (show ¬ w0 = 11 by rw [hsw340]; decide), if_neg (show ¬ w0 = 12 by rw [hsw340]; decide), if_neg (show ¬ w0 = 13 by rw [hsw340]; decide), if_neg (show ¬ w0 = 14 by rw [hsw340]; decide), if_neg (show ¬ w0 = 15 by rw [hsw340]; decide), if_neg (show ¬ w0 = 16 by rw [hsw340]; decide), if_pos (show w0 = 17 from hsw340)], ht⟩) (fun _ h => absurd h List.not_mem_nil) dX5_count_212

abbrev rm_X5_needs : Room := { frames := 5, cells := 0, slots := 0, locals := 119 }
theorem cf_RX5_186 {R : Room} {s : State} {args : Array Value} (ht : ∀ w ∈ wsL_law, w.before args s = true) (hN : ∀ w ∈ nestW, va_Nw w s) (hR : rm_X4_fromHomeOn.frames + 1 ≤ R.frames ∧ 8 + (8 + 11) + rm_X4_fromHomeOn.locals ≤ R.locals) : va_CN R s args RX5 186 yX4_fromHomeOn "BridgedPachisi" cX4_fromHomeOn 8 (some .int) (.code yX4_fromHomeOn cX4_fromHomeOn 8 (some .int) :: wsL_law) rm_X4_fromHomeOn 0 0 3 ∧ (Cond.instanceMethod yX4_fromHomeOn).before args s = true ∧ (Cond.selects RX4 yX4_fromHomeOn yX4_fromHomeOn).before args s = true := ⟨cw_N 3 ht hN nw42 wd17 wd213 (by decide +kernel) rfl rfl hR, ht _ wd211, ht _ wd212⟩
theorem cf_RX5_190 {R : Room} {s : State} {args : Array Value} (ht : ∀ w ∈ wsL_law, w.before args s = true) (hN : ∀ w ∈ nestW, va_Nw w s) (hR : rm_X4_goingWide.frames + 1 ≤ R.frames ∧ 8 + (5 + 11) + rm_X4_goingWide.locals ≤ R.locals) : va_CN R s args RX5 190 yX4_goingWide "BridgedPachisi" cX4_goingWide 5 (some .int) (.code yX4_goingWide cX4_goingWide 5 (some .int) :: wsL_law) rm_X4_goingWide 0 0 3 ∧ (Cond.instanceMethod yX4_goingWide).before args s = true ∧ (Cond.selects RX4 yX4_goingWide yX4_goingWide).before args s = true := ⟨cw_N 3 ht hN nw44 wd17 wd219 (by decide +kernel) rfl rfl hR, ht _ wd217, ht _ wd218⟩
set_option maxHeartbeats 1000000 in
set_option maxRecDepth 100000 in
theorem c_X5_needs (l : Launch) (G : va_G) (cI cC cZ cG : ClassId) (sz : Nat) (qX wg qR qd qh qk : Nat) (qg qt qb qp qs qr qf : Nat) (pr sb br fe se : IA) (fl x : Int32) (pl : Nat) (th tu ca : Int32) (qn : Nat) (nd : IA) (k0 w0 : Int32) (hpr : ∀ k, k < 12 → okv (pr k)) : Met l yX5_needs (.code yX5_needs cX5_needs 7 (some .int) :: wsL_law) rm_X5_needs (va_Pc [.ref qX, .int k0, .int w0] (bw G cI cC cZ cG false sz [(qX, .inr (5, [.ref qg, .ref wg, .ref qR, .ref qd, .ref qh, .ref qk])), (qg, .inr (1, [.ref qb, .ref qt, .int x, .int (nI pl), .int th, .int tu, .int ca])), (qt, .inl (cI, 3, .inl se)), (qb, .inr (0, [.ref qp, .ref qs, .ref qr, .ref qf, .int fl])), (qp, .inl (cI, 12, .inl pr)), (qs, .inl (cI, 12, .inl sb)), (qr, .inl (cI, 4, .inl br)), (qf, .inl (cI, 4, .inl fe)), (qR, .inr (4, [.ref qn])), (qn, .inl (cI, 36, .inl nd))])) (va_Qi (fun (r : Int32) (u : IA) => r = p_needs k0 w0 pr br nd ∧ True) (fun (u : IA) t => va_P G vwCl [(qX, .inr (5, [.ref qg, .ref wg, .ref qR, .ref qd, .ref qh, .ref qk])), (qg, .inr (1, [.ref qb, .ref qt, .int x, .int (nI pl), .int th, .int tu, .int ca])), (qt, .inl (cI, 3, .inl se)), (qb, .inr (0, [.ref qp, .ref qs, .ref qr, .ref qf, .int fl])), (qp, .inl (cI, 12, .inl pr)), (qs, .inl (cI, 12, .inl sb)), (qr, .inl (cI, 4, .inl br)), (qf, .inl (cI, 4, .inl fe)), (qR, .inr (4, [.ref qn])), (qn, .inl (cI, 36, .inl u))] t.heap ∧ va_D (va_A [(qX, .inr (5, [.ref qg, .ref wg, .ref qR, .ref qd, .ref qh, .ref qk])), (qg, .inr (1, [.ref qb, .ref qt, .int x, .int (nI pl), .int th, .int tu, .int ca])), (qt, .inl (cI, 3, .inl se)), (qb, .inr (0, [.ref qp, .ref qs, .ref qr, .ref qf, .int fl])), (qp, .inl (cI, 12, .inl pr)), (qs, .inl (cI, 12, .inl sb)), (qr, .inl (cI, 4, .inl br)), (qf, .inl (cI, 4, .inl fe)), (qR, .inr (4, [.ref qn])), (qn, .inl (cI, 36, .inl nd))] sz) [(qX, .inr (5, [.ref qg, .ref wg, .ref qR, .ref qd, .ref qh, .ref qk])), (qg, .inr (1, [.ref qb, .ref qt, .int x, .int (nI pl), .int th, .int tu, .int ca])), (qt, .inl (cI, 3, .inl se)), (qb, .inr (0, [.ref qp, .ref qs, .ref qr, .ref qf, .int fl])), (qp, .inl (cI, 12, .inl pr)), (qs, .inl (cI, 12, .inl sb)), (qr, .inl (cI, 4, .inl br)), (qf, .inl (cI, 4, .inl fe)), (qR, .inr (4, [.ref qn])), (qn, .inl (cI, 36, .inl u))]) (va_A [(qX, .inr (5, [.ref qg, .ref wg, .ref qR, .ref qd, .ref qh, .ref qk])), (qg, .inr (1, [.ref qb, .ref qt, .int x, .int (nI pl), .int th, .int tu, .int ca])), (qt, .inl (cI, 3, .inl se)), (qb, .inr (0, [.ref qp, .ref qs, .ref qr, .ref qf, .int fl])), (qp, .inl (cI, 12, .inl pr)), (qs, .inl (cI, 12, .inl sb)), (qr, .inl (cI, 4, .inl br)), (qf, .inl (cI, 4, .inl fe)), (qR, .inr (4, [.ref qn])), (qn, .inl (cI, 36, .inl nd))] sz)) 0 0 (va_A [(qX, .inr (5, [.ref qg, .ref wg, .ref qR, .ref qd, .ref qh, .ref qk])), (qg, .inr (1, [.ref qb, .ref qt, .int x, .int (nI pl), .int th, .int tu, .int ca])), (qt, .inl (cI, 3, .inl se)), (qb, .inr (0, [.ref qp, .ref qs, .ref qr, .ref qf, .int fl])), (qp, .inl (cI, 12, .inl pr)), (qs, .inl (cI, 12, .inl sb)), (qr, .inl (cI, 4, .inl br)), (qf, .inl (cI, 4, .inl fe)), (qR, .inr (4, [.ref qn])), (qn, .inl (cI, 36, .inl nd))] sz) := by
  refine met_bw rfl (Nat.le_of_ble_eq_true rfl) ?_
  intro p e s m below meth c ls hx hb hr hml hown hts hlocks hin hsz hP hK hD0 hX0 hl
  have hown : s.vm.findClass RX5 = some m.cls := hown
  have hl : lv_has ls 7 [(0, .ref qX), (1, .int k0), (2, .int w0)] := hl
  subst hsz
  have hD := hD0.self (sz := s.heap.size)
  generalize hAe : va_A [(qX, .inr (5, [.ref qg, .ref wg, .ref qR, .ref qd, .ref qh, .ref qk])), (qg, .inr (1, [.ref qb, .ref qt, .int x, .int (nI pl), .int th, .int tu, .int ca])), (qt, .inl (cI, 3, .inl se)), (qb, .inr (0, [.ref qp, .ref qs, .ref qr, .ref qf, .int fl])), (qp, .inl (cI, 12, .inl pr)), (qs, .inl (cI, 12, .inl sb)), (qr, .inl (cI, 4, .inl br)), (qf, .inl (cI, 4, .inl fe)), (qR, .inr (4, [.ref qn])), (qn, .inl (cI, 36, .inl nd))] s.heap.size = A at hD ⊢
  have hA : ∀ q : Nat, s.heap.size ≤ q → A q := fun q h => by rw [← hAe]; exact Or.inr h
  have hS : va_S A s.heap s.heap [] := va_S.rf
  refine lv_iload_n hx hb dX5_needs_0 rfl (lv_at hl 1 rfl) ?_
  refine vp_callSi (va_Run.run (va_runS (As := [.int k0]) (rest := []) ⟨hx, hb, hml, hown, hts⟩ (c_X5_isNoPiece l k0) (cf_RX5_116 hts ⟨Nat.le_of_ble_eq_true rfl, Nat.le_of_ble_eq_true rfl⟩) pre_P rfl rfl hl.1 rfl (lv_room (Nat.le_of_ble_eq_true rfl)) dX5_needs_1 ⟨Nat.le_of_ble_eq_true rfl, Nat.le_of_ble_eq_true rfl⟩)) (fun r352 hr352 => ?_)
  subst hr352
  refine zb_eq (tgt := 9) hx hb dX5_needs_4 (by decide) (fun c_353 => ?_) (fun c_353 => ?_)
  · obtain ⟨j, hj, rfl⟩ := np_ok c_353
    refine lv_iload_n hx hb dX5_needs_9 rfl (lv_at hl 2 rfl) ?_
    refine lv_if_eq (tgt := 21) hx hb dX5_needs_10 (by decide) (fun c_354 => ?_) (fun c_354 => ?_)
    · obtain rfl : w0 = 0 := c_354
      refine lv_iload_n hx hb dX5_needs_21 rfl (lv_at hl 1 rfl) ?_
      refine lv_iconst (v := 3) hx hb dX5_needs_22 (by decide) ?_
      refine zi_div hx hb j 3 dX5_needs_23 rfl rfl (by omega) (by decide) (by decide) ?_
      refine lv_istore_n (lv' := [(3, .int (nI (j / 3))), (0, .ref qX), (1, .int (nI j)), (2, .int 0)]) hx hb dX5_needs_24 rfl hl (by decide) rfl (fun ls hl => ?_)
      refine lv_aload_n hx hb dX5_needs_25 rfl (lv_at hl 1 rfl) ?_
      refine va_get (D := G) (ci := 5) (v := .ref qg) (C := RX5) (T := TX5) (N := 6) hx hb hts inlX5 hown hK.1 hP 0 rfl rfl 0 (by decide) (hts _ wd13) (fun _ h9 => h9) rfl dX5_needs_26 ?_
      refine va_getN (D := G) (ci := 1) (v := .ref qb) (C := RX1) (T := TX1) (N := 7) hx hb hts inlX1 hown hK.1 hP 1 rfl rfl 0 (by decide) (va_Nw.use rfl (hK.2 _ nw9)) (fun _ h9 => h9) rfl dX5_needs_29 ?_
      refine va_getN (D := G) (ci := 0) (v := .ref qp) (C := RX0) (T := TX0) (N := 5) hx hb hts inlX0 hown hK.1 hP 3 rfl rfl 0 (by decide) (va_Nw.use rfl (hK.2 _ nw3)) (fun _ h9 => h9) rfl dX5_needs_32 ?_
      refine lv_iload_n hx hb dX5_needs_35 rfl (lv_at hl 2 rfl) ?_
      refine za_ld hx hb hK.1 hP 4 0 rfl rfl j rfl (by omega) (by decide) dX5_needs_36 ?_
      rcases hpr j hj with ea | ⟨a, ha, ea⟩
      · rw [ea]
        refine lv_istore (lv' := [(4, .int (-6)), (3, .int (nI (j / 3))), (0, .ref qX), (1, .int (nI j)), (2, .int 0)]) hx hb dX5_needs_37 hl (by decide) rfl (fun ls hl => ?_)
        refine lv_iload hx hb dX5_needs_39 (lv_at hl 0 rfl) ?_
        refine lv_bipush (v := (-6)) hx hb dX5_needs_41 (by decide) ?_
        refine lv_icmp_ne (tgt := 50) hx hb dX5_needs_43 (by decide) (fun c_355 => ?_) (fun c_355 => ?_)
        · exact absurd c_355 (by decide)
        · refine lv_iconst (v := 1) hx hb dX5_needs_46 (by decide) ?_
          refine lv_goto (tgt := 51) hx hb dX5_needs_47 (by decide) ?_
          refine lv_istore (lv' := [(5, .int 1), (4, .int (-6)), (3, .int (nI (j / 3))), (0, .ref qX), (1, .int (nI j)), (2, .int 0)]) hx hb dX5_needs_51 hl (by decide) rfl (fun ls hl => ?_)
          refine lv_iload hx hb dX5_needs_53 (lv_at hl 1 rfl) ?_
          refine lv_bipush (v := (-6)) hx hb dX5_needs_55 (by decide) ?_
          refine lv_icmp_ne (tgt := 64) hx hb dX5_needs_57 (by decide) (fun c_356 => ?_) (fun c_356 => ?_)
          · exact absurd c_356 (by decide)
          · refine lv_iconst (v := 0) hx hb dX5_needs_60 (by decide) ?_
            refine lv_goto (tgt := 66) hx hb dX5_needs_61 (by decide) ?_
            refine lv_istore (lv' := [(6, .int 0), (5, .int 1), (4, .int (-6)), (3, .int (nI (j / 3))), (0, .ref qX), (1, .int (nI j)), (2, .int 0)]) hx hb dX5_needs_66 hl (by decide) rfl (fun ls hl => ?_)
            refine lv_iload hx hb dX5_needs_68 (lv_at hl 1 rfl) ?_
            refine lv_iload_n hx hb dX5_needs_70 rfl (lv_at hl 6 rfl) ?_
            refine lv_if_ne (tgt := 94) hx hb dX5_needs_71 (by decide) (fun c_357 => ?_) (fun c_357 => ?_)
            · exact absurd c_357 (by decide)
            · refine lv_aload_n hx hb dX5_needs_74 rfl (lv_at hl 4 rfl) ?_
              refine va_get (D := G) (ci := 5) (v := .ref qR) (C := RX5) (T := TX5) (N := 6) hx hb hts inlX5 hown hK.1 hP 0 rfl rfl 2 (by decide) (hts _ wd18) (fun _ h9 => h9) rfl dX5_needs_75 ?_
              refine lv_aload_n hx hb dX5_needs_78 rfl (lv_at hl 4 rfl) ?_
              refine va_get (D := G) (ci := 5) (v := .ref qg) (C := RX5) (T := TX5) (N := 6) hx hb hts inlX5 hown hK.1 hP 0 rfl rfl 0 (by decide) (hts _ wd13) (fun _ h9 => h9) rfl dX5_needs_79 ?_
              refine va_getN (D := G) (ci := 1) (v := .ref qb) (C := RX1) (T := TX1) (N := 7) hx hb hts inlX1 hown hK.1 hP 1 rfl rfl 0 (by decide) (va_Nw.use rfl (hK.2 _ nw9)) (fun _ h9 => h9) rfl dX5_needs_82 ?_
              refine lv_iload_n hx hb dX5_needs_85 rfl (lv_at hl 3 rfl) ?_
              refine lv_iload hx hb dX5_needs_86 (lv_at hl 0 rfl) ?_
              have hPc := hP.sub (ws' := [(qR, .inr (4, [.ref qn])), (qn, .inl (cI, 36, .inl nd)), (qb, .inr (0, [.ref qp, .ref qs, .ref qr, .ref qf, .int fl])), (qp, .inl (cI, 12, .inl pr)), (qs, .inl (cI, 12, .inl sb)), (qr, .inl (cI, 4, .inl br)), (qf, .inl (cI, 4, .inl fe))]) [8, 9, 3, 4, 5, 6, 7] rfl
              have hDc := (hD.sub (ws' := [(qR, .inr (4, [.ref qn])), (qn, .inl (cI, 36, .inl nd)), (qb, .inr (0, [.ref qp, .ref qs, .ref qr, .ref qf, .int fl])), (qp, .inl (cI, 12, .inl pr)), (qs, .inl (cI, 12, .inl sb)), (qr, .inl (cI, 4, .inl br)), (qf, .inl (cI, 4, .inl fe))]) [8, 9, 3, 4, 5, 6, 7] (by decide) rfl).tt
              have hFc := va_free (wc := [(qR, .inr (4, [.ref qn])), (qn, .inl (cI, 36, .inl nd)), (qb, .inr (0, [.ref qp, .ref qs, .ref qr, .ref qf, .int fl])), (qp, .inl (cI, 12, .inl pr)), (qs, .inl (cI, 12, .inl sb)), (qr, .inl (cI, 4, .inl br)), (qf, .inl (cI, 4, .inl fe))]) hD hS hA [8, 9, 3, 4, 5, 6, 7] rfl
              refine va_calli (va_runVN (As := [.ref qb, .int (nI (j / 3)), .int 0]) (rest := [.int 1]) ⟨hx, hb, hml, hown, hts⟩ (c_X4_fromHomeOn l G cI cC cZ cG s.heap.size qR qn nd qb qp qs qr qf pr sb br fe fl (j / 3) 0 (by omega) (by omega)) (cf_RX5_186 hts hK.2 ⟨Nat.le_of_ble_eq_true rfl, Nat.le_of_ble_eq_true rfl⟩) (pre_V hK hPc hDc (ci := 4) (q0 := 0) rfl rfl) rfl rfl hl.1 rfl (lv_room (Nat.le_of_ble_eq_true rfl)) dX5_needs_88 ⟨Nat.le_of_ble_eq_true rfl, Nat.le_of_ble_eq_true rfl⟩) hS (fun q _ h => hFc q h) hFc (fun r358 u358 t358 H358 locs358 ht358 hvm358 hw358 hB358 hz358 hk358 hS => ?_)
              obtain ⟨nd358, rfl⟩ : ∃ z, z = u358 := ⟨_, rfl⟩
              obtain ⟨hP1, hD1⟩ := hB358
              rw [ht358] at hP1
              try dsimp only at hw358
              obtain ⟨hr358, hw358⟩ := hw358
              subst hr358
              obtain ⟨hP, hD⟩ := va_join (wr := [(qX, .inr (5, [.ref qg, .ref wg, .ref qR, .ref qd, .ref qh, .ref qk])), (qg, .inr (1, [.ref qb, .ref qt, .int x, .int (nI pl), .int th, .int tu, .int ca])), (qt, .inl (cI, 3, .inl se))]) (w1 := [(qR, .inr (4, [.ref qn])), (qn, .inl (cI, 36, .inl nd358)), (qb, .inr (0, [.ref qp, .ref qs, .ref qr, .ref qf, .int fl])), (qp, .inl (cI, 12, .inl pr)), (qs, .inl (cI, 12, .inl sb)), (qr, .inl (cI, 4, .inl br)), (qf, .inl (cI, 4, .inl fe))]) hP hD [8, 9, 3, 4, 5, 6, 7] [0, 1, 2] rfl rfl (by decide) (by decide) hk358 hFc hP1 hD1
              have hP : va_P G vwCl [(qX, .inr (5, [.ref qg, .ref wg, .ref qR, .ref qd, .ref qh, .ref qk])), (qg, .inr (1, [.ref qb, .ref qt, .int x, .int (nI pl), .int th, .int tu, .int ca])), (qt, .inl (cI, 3, .inl se)), (qR, .inr (4, [.ref qn])), (qn, .inl (cI, 36, .inl nd358)), (qb, .inr (0, [.ref qp, .ref qs, .ref qr, .ref qf, .int fl])), (qp, .inl (cI, 12, .inl pr)), (qs, .inl (cI, 12, .inl sb)), (qr, .inl (cI, 4, .inl br)), (qf, .inl (cI, 4, .inl fe))] H358 := hP
              have hD : va_D A [(qX, .inr (5, [.ref qg, .ref wg, .ref qR, .ref qd, .ref qh, .ref qk])), (qg, .inr (1, [.ref qb, .ref qt, .int x, .int (nI pl), .int th, .int tu, .int ca])), (qt, .inl (cI, 3, .inl se)), (qR, .inr (4, [.ref qn])), (qn, .inl (cI, 36, .inl nd358)), (qb, .inr (0, [.ref qp, .ref qs, .ref qr, .ref qf, .int fl])), (qp, .inl (cI, 12, .inl pr)), (qs, .inl (cI, 12, .inl sb)), (qr, .inl (cI, 4, .inl br)), (qf, .inl (cI, 4, .inl fe))] := hD
              refine lv_goto (tgt := 111) hx hb dX5_needs_91 (by decide) ?_
              refine lv_iadd hx hb dX5_needs_111 ?_
              have hP := hP.sub (ws' := [(qX, .inr (5, [.ref qg, .ref wg, .ref qR, .ref qd, .ref qh, .ref qk])), (qg, .inr (1, [.ref qb, .ref qt, .int x, .int (nI pl), .int th, .int tu, .int ca])), (qt, .inl (cI, 3, .inl se)), (qb, .inr (0, [.ref qp, .ref qs, .ref qr, .ref qf, .int fl])), (qp, .inl (cI, 12, .inl pr)), (qs, .inl (cI, 12, .inl sb)), (qr, .inl (cI, 4, .inl br)), (qf, .inl (cI, 4, .inl fe)), (qR, .inr (4, [.ref qn])), (qn, .inl (cI, 36, .inl nd358))]) [0, 1, 2, 5, 6, 7, 8, 9, 3, 4] rfl
              have hD := hD.sub (ws' := [(qX, .inr (5, [.ref qg, .ref wg, .ref qR, .ref qd, .ref qh, .ref qk])), (qg, .inr (1, [.ref qb, .ref qt, .int x, .int (nI pl), .int th, .int tu, .int ca])), (qt, .inl (cI, 3, .inl se)), (qb, .inr (0, [.ref qp, .ref qs, .ref qr, .ref qf, .int fl])), (qp, .inl (cI, 12, .inl pr)), (qs, .inl (cI, 12, .inl sb)), (qr, .inl (cI, 4, .inl br)), (qf, .inl (cI, 4, .inl fe)), (qR, .inr (4, [.ref qn])), (qn, .inl (cI, 36, .inl nd358))]) [0, 1, 2, 5, 6, 7, 8, 9, 3, 4] (by decide) rfl
              exact W.iret (v := 1 + (tnW nd br (j / 3) 0)) hx hb hr (fun t ht hW => ⟨⟨1 + (tnW nd br (j / 3) 0), nd358, rfl, ⟨by rw [p_needs, if_neg c_353, if_neg (fun q => q.1 (by decide)), (show (nI j).toNatClampNeg = j from nI_clamp (by omega)), ea, if_pos rfl, if_pos rfl] <;> rfl, trivial⟩, by rw [ht]; exact hP, hD⟩, hS.F ht⟩) hS.2.2 dX5_needs_112
      · rw [ea]
        refine lv_istore (lv' := [(4, .int (nI a)), (3, .int (nI (j / 3))), (0, .ref qX), (1, .int (nI j)), (2, .int 0)]) hx hb dX5_needs_37 hl (by decide) rfl (fun ls hl => ?_)
        refine lv_iload hx hb dX5_needs_39 (lv_at hl 0 rfl) ?_
        refine lv_bipush (v := (-6)) hx hb dX5_needs_41 (by decide) ?_
        refine lv_icmp_ne (tgt := 50) hx hb dX5_needs_43 (by decide) (fun c_359 => ?_) (fun c_359 => ?_)
        · refine lv_iconst (v := 0) hx hb dX5_needs_50 (by decide) ?_
          refine lv_istore (lv' := [(5, .int 0), (4, .int (nI a)), (3, .int (nI (j / 3))), (0, .ref qX), (1, .int (nI j)), (2, .int 0)]) hx hb dX5_needs_51 hl (by decide) rfl (fun ls hl => ?_)
          refine lv_iload hx hb dX5_needs_53 (lv_at hl 1 rfl) ?_
          refine lv_bipush (v := (-6)) hx hb dX5_needs_55 (by decide) ?_
          refine lv_icmp_ne (tgt := 64) hx hb dX5_needs_57 (by decide) (fun c_360 => ?_) (fun c_360 => ?_)
          · refine lv_iload hx hb dX5_needs_64 (lv_at hl 1 rfl) ?_
            refine lv_istore (lv' := [(6, .int (nI a)), (5, .int 0), (4, .int (nI a)), (3, .int (nI (j / 3))), (0, .ref qX), (1, .int (nI j)), (2, .int 0)]) hx hb dX5_needs_66 hl (by decide) rfl (fun ls hl => ?_)
            refine lv_iload hx hb dX5_needs_68 (lv_at hl 1 rfl) ?_
            refine lv_iload_n hx hb dX5_needs_70 rfl (lv_at hl 6 rfl) ?_
            refine lv_if_ne (tgt := 94) hx hb dX5_needs_71 (by decide) (fun c_361 => ?_) (fun c_361 => ?_)
            · exact absurd c_361 (by decide)
            · refine lv_aload_n hx hb dX5_needs_74 rfl (lv_at hl 4 rfl) ?_
              refine va_get (D := G) (ci := 5) (v := .ref qR) (C := RX5) (T := TX5) (N := 6) hx hb hts inlX5 hown hK.1 hP 0 rfl rfl 2 (by decide) (hts _ wd18) (fun _ h9 => h9) rfl dX5_needs_75 ?_
              refine lv_aload_n hx hb dX5_needs_78 rfl (lv_at hl 4 rfl) ?_
              refine va_get (D := G) (ci := 5) (v := .ref qg) (C := RX5) (T := TX5) (N := 6) hx hb hts inlX5 hown hK.1 hP 0 rfl rfl 0 (by decide) (hts _ wd13) (fun _ h9 => h9) rfl dX5_needs_79 ?_
              refine va_getN (D := G) (ci := 1) (v := .ref qb) (C := RX1) (T := TX1) (N := 7) hx hb hts inlX1 hown hK.1 hP 1 rfl rfl 0 (by decide) (va_Nw.use rfl (hK.2 _ nw9)) (fun _ h9 => h9) rfl dX5_needs_82 ?_
              refine lv_iload_n hx hb dX5_needs_85 rfl (lv_at hl 3 rfl) ?_
              refine lv_iload hx hb dX5_needs_86 (lv_at hl 0 rfl) ?_
              have hPc := hP.sub (ws' := [(qR, .inr (4, [.ref qn])), (qn, .inl (cI, 36, .inl nd)), (qb, .inr (0, [.ref qp, .ref qs, .ref qr, .ref qf, .int fl])), (qp, .inl (cI, 12, .inl pr)), (qs, .inl (cI, 12, .inl sb)), (qr, .inl (cI, 4, .inl br)), (qf, .inl (cI, 4, .inl fe))]) [8, 9, 3, 4, 5, 6, 7] rfl
              have hDc := (hD.sub (ws' := [(qR, .inr (4, [.ref qn])), (qn, .inl (cI, 36, .inl nd)), (qb, .inr (0, [.ref qp, .ref qs, .ref qr, .ref qf, .int fl])), (qp, .inl (cI, 12, .inl pr)), (qs, .inl (cI, 12, .inl sb)), (qr, .inl (cI, 4, .inl br)), (qf, .inl (cI, 4, .inl fe))]) [8, 9, 3, 4, 5, 6, 7] (by decide) rfl).tt
              have hFc := va_free (wc := [(qR, .inr (4, [.ref qn])), (qn, .inl (cI, 36, .inl nd)), (qb, .inr (0, [.ref qp, .ref qs, .ref qr, .ref qf, .int fl])), (qp, .inl (cI, 12, .inl pr)), (qs, .inl (cI, 12, .inl sb)), (qr, .inl (cI, 4, .inl br)), (qf, .inl (cI, 4, .inl fe))]) hD hS hA [8, 9, 3, 4, 5, 6, 7] rfl
              refine va_calli (va_runVN (As := [.ref qb, .int (nI (j / 3)), .int (nI a)]) (rest := [.int 0]) ⟨hx, hb, hml, hown, hts⟩ (c_X4_fromHomeOn l G cI cC cZ cG s.heap.size qR qn nd qb qp qs qr qf pr sb br fe fl (j / 3) a (by omega) (by omega)) (cf_RX5_186 hts hK.2 ⟨Nat.le_of_ble_eq_true rfl, Nat.le_of_ble_eq_true rfl⟩) (pre_V hK hPc hDc (ci := 4) (q0 := 0) rfl rfl) rfl rfl hl.1 rfl (lv_room (Nat.le_of_ble_eq_true rfl)) dX5_needs_88 ⟨Nat.le_of_ble_eq_true rfl, Nat.le_of_ble_eq_true rfl⟩) hS (fun q _ h => hFc q h) hFc (fun r362 u362 t362 H362 locs362 ht362 hvm362 hw362 hB362 hz362 hk362 hS => ?_)
              obtain ⟨nd362, rfl⟩ : ∃ z, z = u362 := ⟨_, rfl⟩
              obtain ⟨hP1, hD1⟩ := hB362
              rw [ht362] at hP1
              try dsimp only at hw362
              obtain ⟨hr362, hw362⟩ := hw362
              subst hr362
              obtain ⟨hP, hD⟩ := va_join (wr := [(qX, .inr (5, [.ref qg, .ref wg, .ref qR, .ref qd, .ref qh, .ref qk])), (qg, .inr (1, [.ref qb, .ref qt, .int x, .int (nI pl), .int th, .int tu, .int ca])), (qt, .inl (cI, 3, .inl se))]) (w1 := [(qR, .inr (4, [.ref qn])), (qn, .inl (cI, 36, .inl nd362)), (qb, .inr (0, [.ref qp, .ref qs, .ref qr, .ref qf, .int fl])), (qp, .inl (cI, 12, .inl pr)), (qs, .inl (cI, 12, .inl sb)), (qr, .inl (cI, 4, .inl br)), (qf, .inl (cI, 4, .inl fe))]) hP hD [8, 9, 3, 4, 5, 6, 7] [0, 1, 2] rfl rfl (by decide) (by decide) hk362 hFc hP1 hD1
              have hP : va_P G vwCl [(qX, .inr (5, [.ref qg, .ref wg, .ref qR, .ref qd, .ref qh, .ref qk])), (qg, .inr (1, [.ref qb, .ref qt, .int x, .int (nI pl), .int th, .int tu, .int ca])), (qt, .inl (cI, 3, .inl se)), (qR, .inr (4, [.ref qn])), (qn, .inl (cI, 36, .inl nd362)), (qb, .inr (0, [.ref qp, .ref qs, .ref qr, .ref qf, .int fl])), (qp, .inl (cI, 12, .inl pr)), (qs, .inl (cI, 12, .inl sb)), (qr, .inl (cI, 4, .inl br)), (qf, .inl (cI, 4, .inl fe))] H362 := hP
              have hD : va_D A [(qX, .inr (5, [.ref qg, .ref wg, .ref qR, .ref qd, .ref qh, .ref qk])), (qg, .inr (1, [.ref qb, .ref qt, .int x, .int (nI pl), .int th, .int tu, .int ca])), (qt, .inl (cI, 3, .inl se)), (qR, .inr (4, [.ref qn])), (qn, .inl (cI, 36, .inl nd362)), (qb, .inr (0, [.ref qp, .ref qs, .ref qr, .ref qf, .int fl])), (qp, .inl (cI, 12, .inl pr)), (qs, .inl (cI, 12, .inl sb)), (qr, .inl (cI, 4, .inl br)), (qf, .inl (cI, 4, .inl fe))] := hD
              refine lv_goto (tgt := 111) hx hb dX5_needs_91 (by decide) ?_
              refine lv_iadd hx hb dX5_needs_111 ?_
              have hP := hP.sub (ws' := [(qX, .inr (5, [.ref qg, .ref wg, .ref qR, .ref qd, .ref qh, .ref qk])), (qg, .inr (1, [.ref qb, .ref qt, .int x, .int (nI pl), .int th, .int tu, .int ca])), (qt, .inl (cI, 3, .inl se)), (qb, .inr (0, [.ref qp, .ref qs, .ref qr, .ref qf, .int fl])), (qp, .inl (cI, 12, .inl pr)), (qs, .inl (cI, 12, .inl sb)), (qr, .inl (cI, 4, .inl br)), (qf, .inl (cI, 4, .inl fe)), (qR, .inr (4, [.ref qn])), (qn, .inl (cI, 36, .inl nd362))]) [0, 1, 2, 5, 6, 7, 8, 9, 3, 4] rfl
              have hD := hD.sub (ws' := [(qX, .inr (5, [.ref qg, .ref wg, .ref qR, .ref qd, .ref qh, .ref qk])), (qg, .inr (1, [.ref qb, .ref qt, .int x, .int (nI pl), .int th, .int tu, .int ca])), (qt, .inl (cI, 3, .inl se)), (qb, .inr (0, [.ref qp, .ref qs, .ref qr, .ref qf, .int fl])), (qp, .inl (cI, 12, .inl pr)), (qs, .inl (cI, 12, .inl sb)), (qr, .inl (cI, 4, .inl br)), (qf, .inl (cI, 4, .inl fe)), (qR, .inr (4, [.ref qn])), (qn, .inl (cI, 36, .inl nd362))]) [0, 1, 2, 5, 6, 7, 8, 9, 3, 4] (by decide) rfl
              exact W.iret (v := 0 + (tnW nd br (j / 3) a)) hx hb hr (fun t ht hW => ⟨⟨0 + (tnW nd br (j / 3) a), nd362, rfl, ⟨by rw [p_needs, if_neg c_353, if_neg (fun q => q.1 (by decide)), (show (nI j).toNatClampNeg = j from nI_clamp (by omega)), ea, if_neg (nI_neg (by omega) (by decide)), (show (nI a).toNatClampNeg = a from nI_clamp (by omega)), if_pos rfl] <;> rfl, trivial⟩, by rw [ht]; exact hP, hD⟩, hS.F ht⟩) hS.2.2 dX5_needs_112
          · exact absurd c_360 (nI_neg (by omega) (by decide))
        · exact absurd c_359 (nI_neg (by omega) (by decide))
    · refine lv_iload_n hx hb dX5_needs_13 rfl (lv_at hl 2 rfl) ?_
      refine lv_iconst (v := 1) hx hb dX5_needs_14 (by decide) ?_
      refine lv_icmp_eq (tgt := 21) hx hb dX5_needs_15 (by decide) (fun c_363 => ?_) (fun c_363 => ?_)
      · obtain rfl : w0 = 1 := c_363
        refine lv_iload_n hx hb dX5_needs_21 rfl (lv_at hl 1 rfl) ?_
        refine lv_iconst (v := 3) hx hb dX5_needs_22 (by decide) ?_
        refine zi_div hx hb j 3 dX5_needs_23 rfl rfl (by omega) (by decide) (by decide) ?_
        refine lv_istore_n (lv' := [(3, .int (nI (j / 3))), (0, .ref qX), (1, .int (nI j)), (2, .int 1)]) hx hb dX5_needs_24 rfl hl (by decide) rfl (fun ls hl => ?_)
        refine lv_aload_n hx hb dX5_needs_25 rfl (lv_at hl 1 rfl) ?_
        refine va_get (D := G) (ci := 5) (v := .ref qg) (C := RX5) (T := TX5) (N := 6) hx hb hts inlX5 hown hK.1 hP 0 rfl rfl 0 (by decide) (hts _ wd13) (fun _ h9 => h9) rfl dX5_needs_26 ?_
        refine va_getN (D := G) (ci := 1) (v := .ref qb) (C := RX1) (T := TX1) (N := 7) hx hb hts inlX1 hown hK.1 hP 1 rfl rfl 0 (by decide) (va_Nw.use rfl (hK.2 _ nw9)) (fun _ h9 => h9) rfl dX5_needs_29 ?_
        refine va_getN (D := G) (ci := 0) (v := .ref qp) (C := RX0) (T := TX0) (N := 5) hx hb hts inlX0 hown hK.1 hP 3 rfl rfl 0 (by decide) (va_Nw.use rfl (hK.2 _ nw3)) (fun _ h9 => h9) rfl dX5_needs_32 ?_
        refine lv_iload_n hx hb dX5_needs_35 rfl (lv_at hl 2 rfl) ?_
        refine za_ld hx hb hK.1 hP 4 0 rfl rfl j rfl (by omega) (by decide) dX5_needs_36 ?_
        rcases hpr j hj with ea | ⟨a, ha, ea⟩
        · rw [ea]
          refine lv_istore (lv' := [(4, .int (-6)), (3, .int (nI (j / 3))), (0, .ref qX), (1, .int (nI j)), (2, .int 1)]) hx hb dX5_needs_37 hl (by decide) rfl (fun ls hl => ?_)
          refine lv_iload hx hb dX5_needs_39 (lv_at hl 0 rfl) ?_
          refine lv_bipush (v := (-6)) hx hb dX5_needs_41 (by decide) ?_
          refine lv_icmp_ne (tgt := 50) hx hb dX5_needs_43 (by decide) (fun c_364 => ?_) (fun c_364 => ?_)
          · exact absurd c_364 (by decide)
          · refine lv_iconst (v := 1) hx hb dX5_needs_46 (by decide) ?_
            refine lv_goto (tgt := 51) hx hb dX5_needs_47 (by decide) ?_
            refine lv_istore (lv' := [(5, .int 1), (4, .int (-6)), (3, .int (nI (j / 3))), (0, .ref qX), (1, .int (nI j)), (2, .int 1)]) hx hb dX5_needs_51 hl (by decide) rfl (fun ls hl => ?_)
            refine lv_iload hx hb dX5_needs_53 (lv_at hl 1 rfl) ?_
            refine lv_bipush (v := (-6)) hx hb dX5_needs_55 (by decide) ?_
            refine lv_icmp_ne (tgt := 64) hx hb dX5_needs_57 (by decide) (fun c_365 => ?_) (fun c_365 => ?_)
            · exact absurd c_365 (by decide)
            · refine lv_iconst (v := 0) hx hb dX5_needs_60 (by decide) ?_
              refine lv_goto (tgt := 66) hx hb dX5_needs_61 (by decide) ?_
              refine lv_istore (lv' := [(6, .int 0), (5, .int 1), (4, .int (-6)), (3, .int (nI (j / 3))), (0, .ref qX), (1, .int (nI j)), (2, .int 1)]) hx hb dX5_needs_66 hl (by decide) rfl (fun ls hl => ?_)
              refine lv_iload hx hb dX5_needs_68 (lv_at hl 1 rfl) ?_
              refine lv_iload_n hx hb dX5_needs_70 rfl (lv_at hl 6 rfl) ?_
              refine lv_if_ne (tgt := 94) hx hb dX5_needs_71 (by decide) (fun c_366 => ?_) (fun c_366 => ?_)
              · refine lv_aload_n hx hb dX5_needs_94 rfl (lv_at hl 4 rfl) ?_
                refine va_get (D := G) (ci := 5) (v := .ref qR) (C := RX5) (T := TX5) (N := 6) hx hb hts inlX5 hown hK.1 hP 0 rfl rfl 2 (by decide) (hts _ wd18) (fun _ h9 => h9) rfl dX5_needs_95 ?_
                refine lv_aload_n hx hb dX5_needs_98 rfl (lv_at hl 4 rfl) ?_
                refine va_get (D := G) (ci := 5) (v := .ref qg) (C := RX5) (T := TX5) (N := 6) hx hb hts inlX5 hown hK.1 hP 0 rfl rfl 0 (by decide) (hts _ wd13) (fun _ h9 => h9) rfl dX5_needs_99 ?_
                refine va_getN (D := G) (ci := 1) (v := .ref qb) (C := RX1) (T := TX1) (N := 7) hx hb hts inlX1 hown hK.1 hP 1 rfl rfl 0 (by decide) (va_Nw.use rfl (hK.2 _ nw9)) (fun _ h9 => h9) rfl dX5_needs_102 ?_
                refine lv_iload_n hx hb dX5_needs_105 rfl (lv_at hl 3 rfl) ?_
                refine lv_iload hx hb dX5_needs_106 (lv_at hl 0 rfl) ?_
                have hPc := hP.sub (ws' := [(qR, .inr (4, [.ref qn])), (qn, .inl (cI, 36, .inl nd)), (qb, .inr (0, [.ref qp, .ref qs, .ref qr, .ref qf, .int fl])), (qp, .inl (cI, 12, .inl pr)), (qs, .inl (cI, 12, .inl sb)), (qr, .inl (cI, 4, .inl br)), (qf, .inl (cI, 4, .inl fe))]) [8, 9, 3, 4, 5, 6, 7] rfl
                have hDc := (hD.sub (ws' := [(qR, .inr (4, [.ref qn])), (qn, .inl (cI, 36, .inl nd)), (qb, .inr (0, [.ref qp, .ref qs, .ref qr, .ref qf, .int fl])), (qp, .inl (cI, 12, .inl pr)), (qs, .inl (cI, 12, .inl sb)), (qr, .inl (cI, 4, .inl br)), (qf, .inl (cI, 4, .inl fe))]) [8, 9, 3, 4, 5, 6, 7] (by decide) rfl).tt
                have hFc := va_free (wc := [(qR, .inr (4, [.ref qn])), (qn, .inl (cI, 36, .inl nd)), (qb, .inr (0, [.ref qp, .ref qs, .ref qr, .ref qf, .int fl])), (qp, .inl (cI, 12, .inl pr)), (qs, .inl (cI, 12, .inl sb)), (qr, .inl (cI, 4, .inl br)), (qf, .inl (cI, 4, .inl fe))]) hD hS hA [8, 9, 3, 4, 5, 6, 7] rfl
                refine va_calli (va_runVN (As := [.ref qb, .int (nI (j / 3)), .int 0]) (rest := [.int 1]) ⟨hx, hb, hml, hown, hts⟩ (c_X4_goingWide l G cI cC cZ cG s.heap.size qR qn nd qb qp qs qr qf pr sb br fe fl (j / 3) 0 (by omega) (by omega)) (cf_RX5_190 hts hK.2 ⟨Nat.le_of_ble_eq_true rfl, Nat.le_of_ble_eq_true rfl⟩) (pre_V hK hPc hDc (ci := 4) (q0 := 0) rfl rfl) rfl rfl hl.1 rfl (lv_room (Nat.le_of_ble_eq_true rfl)) dX5_needs_108 ⟨Nat.le_of_ble_eq_true rfl, Nat.le_of_ble_eq_true rfl⟩) hS (fun q _ h => hFc q h) hFc (fun r367 u367 t367 H367 locs367 ht367 hvm367 hw367 hB367 hz367 hk367 hS => ?_)
                obtain ⟨nd367, rfl⟩ : ∃ z, z = u367 := ⟨_, rfl⟩
                obtain ⟨hP1, hD1⟩ := hB367
                rw [ht367] at hP1
                try dsimp only at hw367
                obtain ⟨hr367, hw367⟩ := hw367
                subst hr367
                obtain ⟨hP, hD⟩ := va_join (wr := [(qX, .inr (5, [.ref qg, .ref wg, .ref qR, .ref qd, .ref qh, .ref qk])), (qg, .inr (1, [.ref qb, .ref qt, .int x, .int (nI pl), .int th, .int tu, .int ca])), (qt, .inl (cI, 3, .inl se))]) (w1 := [(qR, .inr (4, [.ref qn])), (qn, .inl (cI, 36, .inl nd367)), (qb, .inr (0, [.ref qp, .ref qs, .ref qr, .ref qf, .int fl])), (qp, .inl (cI, 12, .inl pr)), (qs, .inl (cI, 12, .inl sb)), (qr, .inl (cI, 4, .inl br)), (qf, .inl (cI, 4, .inl fe))]) hP hD [8, 9, 3, 4, 5, 6, 7] [0, 1, 2] rfl rfl (by decide) (by decide) hk367 hFc hP1 hD1
                have hP : va_P G vwCl [(qX, .inr (5, [.ref qg, .ref wg, .ref qR, .ref qd, .ref qh, .ref qk])), (qg, .inr (1, [.ref qb, .ref qt, .int x, .int (nI pl), .int th, .int tu, .int ca])), (qt, .inl (cI, 3, .inl se)), (qR, .inr (4, [.ref qn])), (qn, .inl (cI, 36, .inl nd367)), (qb, .inr (0, [.ref qp, .ref qs, .ref qr, .ref qf, .int fl])), (qp, .inl (cI, 12, .inl pr)), (qs, .inl (cI, 12, .inl sb)), (qr, .inl (cI, 4, .inl br)), (qf, .inl (cI, 4, .inl fe))] H367 := hP
                have hD : va_D A [(qX, .inr (5, [.ref qg, .ref wg, .ref qR, .ref qd, .ref qh, .ref qk])), (qg, .inr (1, [.ref qb, .ref qt, .int x, .int (nI pl), .int th, .int tu, .int ca])), (qt, .inl (cI, 3, .inl se)), (qR, .inr (4, [.ref qn])), (qn, .inl (cI, 36, .inl nd367)), (qb, .inr (0, [.ref qp, .ref qs, .ref qr, .ref qf, .int fl])), (qp, .inl (cI, 12, .inl pr)), (qs, .inl (cI, 12, .inl sb)), (qr, .inl (cI, 4, .inl br)), (qf, .inl (cI, 4, .inl fe))] := hD
                refine lv_iadd hx hb dX5_needs_111 ?_
                have hP := hP.sub (ws' := [(qX, .inr (5, [.ref qg, .ref wg, .ref qR, .ref qd, .ref qh, .ref qk])), (qg, .inr (1, [.ref qb, .ref qt, .int x, .int (nI pl), .int th, .int tu, .int ca])), (qt, .inl (cI, 3, .inl se)), (qb, .inr (0, [.ref qp, .ref qs, .ref qr, .ref qf, .int fl])), (qp, .inl (cI, 12, .inl pr)), (qs, .inl (cI, 12, .inl sb)), (qr, .inl (cI, 4, .inl br)), (qf, .inl (cI, 4, .inl fe)), (qR, .inr (4, [.ref qn])), (qn, .inl (cI, 36, .inl nd367))]) [0, 1, 2, 5, 6, 7, 8, 9, 3, 4] rfl
                have hD := hD.sub (ws' := [(qX, .inr (5, [.ref qg, .ref wg, .ref qR, .ref qd, .ref qh, .ref qk])), (qg, .inr (1, [.ref qb, .ref qt, .int x, .int (nI pl), .int th, .int tu, .int ca])), (qt, .inl (cI, 3, .inl se)), (qb, .inr (0, [.ref qp, .ref qs, .ref qr, .ref qf, .int fl])), (qp, .inl (cI, 12, .inl pr)), (qs, .inl (cI, 12, .inl sb)), (qr, .inl (cI, 4, .inl br)), (qf, .inl (cI, 4, .inl fe)), (qR, .inr (4, [.ref qn])), (qn, .inl (cI, 36, .inl nd367))]) [0, 1, 2, 5, 6, 7, 8, 9, 3, 4] (by decide) rfl
                exact W.iret (v := 1 + (ndW nd br (j / 3) 0 35)) hx hb hr (fun t ht hW => ⟨⟨1 + (ndW nd br (j / 3) 0 35), nd367, rfl, ⟨by rw [p_needs, if_neg c_353, if_neg (fun q => q.2 (by decide)), (show (nI j).toNatClampNeg = j from nI_clamp (by omega)), ea, if_pos rfl, if_neg (by decide)] <;> rfl, trivial⟩, by rw [ht]; exact hP, hD⟩, hS.F ht⟩) hS.2.2 dX5_needs_112
              · exact absurd c_366 (by decide)
        · rw [ea]
          refine lv_istore (lv' := [(4, .int (nI a)), (3, .int (nI (j / 3))), (0, .ref qX), (1, .int (nI j)), (2, .int 1)]) hx hb dX5_needs_37 hl (by decide) rfl (fun ls hl => ?_)
          refine lv_iload hx hb dX5_needs_39 (lv_at hl 0 rfl) ?_
          refine lv_bipush (v := (-6)) hx hb dX5_needs_41 (by decide) ?_
          refine lv_icmp_ne (tgt := 50) hx hb dX5_needs_43 (by decide) (fun c_368 => ?_) (fun c_368 => ?_)
          · refine lv_iconst (v := 0) hx hb dX5_needs_50 (by decide) ?_
            refine lv_istore (lv' := [(5, .int 0), (4, .int (nI a)), (3, .int (nI (j / 3))), (0, .ref qX), (1, .int (nI j)), (2, .int 1)]) hx hb dX5_needs_51 hl (by decide) rfl (fun ls hl => ?_)
            refine lv_iload hx hb dX5_needs_53 (lv_at hl 1 rfl) ?_
            refine lv_bipush (v := (-6)) hx hb dX5_needs_55 (by decide) ?_
            refine lv_icmp_ne (tgt := 64) hx hb dX5_needs_57 (by decide) (fun c_369 => ?_) (fun c_369 => ?_)
            · refine lv_iload hx hb dX5_needs_64 (lv_at hl 1 rfl) ?_
              refine lv_istore (lv' := [(6, .int (nI a)), (5, .int 0), (4, .int (nI a)), (3, .int (nI (j / 3))), (0, .ref qX), (1, .int (nI j)), (2, .int 1)]) hx hb dX5_needs_66 hl (by decide) rfl (fun ls hl => ?_)
              refine lv_iload hx hb dX5_needs_68 (lv_at hl 1 rfl) ?_
              refine lv_iload_n hx hb dX5_needs_70 rfl (lv_at hl 6 rfl) ?_
              refine lv_if_ne (tgt := 94) hx hb dX5_needs_71 (by decide) (fun c_370 => ?_) (fun c_370 => ?_)
              · refine lv_aload_n hx hb dX5_needs_94 rfl (lv_at hl 4 rfl) ?_
                refine va_get (D := G) (ci := 5) (v := .ref qR) (C := RX5) (T := TX5) (N := 6) hx hb hts inlX5 hown hK.1 hP 0 rfl rfl 2 (by decide) (hts _ wd18) (fun _ h9 => h9) rfl dX5_needs_95 ?_
                refine lv_aload_n hx hb dX5_needs_98 rfl (lv_at hl 4 rfl) ?_
                refine va_get (D := G) (ci := 5) (v := .ref qg) (C := RX5) (T := TX5) (N := 6) hx hb hts inlX5 hown hK.1 hP 0 rfl rfl 0 (by decide) (hts _ wd13) (fun _ h9 => h9) rfl dX5_needs_99 ?_
                refine va_getN (D := G) (ci := 1) (v := .ref qb) (C := RX1) (T := TX1) (N := 7) hx hb hts inlX1 hown hK.1 hP 1 rfl rfl 0 (by decide) (va_Nw.use rfl (hK.2 _ nw9)) (fun _ h9 => h9) rfl dX5_needs_102 ?_
                refine lv_iload_n hx hb dX5_needs_105 rfl (lv_at hl 3 rfl) ?_
                refine lv_iload hx hb dX5_needs_106 (lv_at hl 0 rfl) ?_
                have hPc := hP.sub (ws' := [(qR, .inr (4, [.ref qn])), (qn, .inl (cI, 36, .inl nd)), (qb, .inr (0, [.ref qp, .ref qs, .ref qr, .ref qf, .int fl])), (qp, .inl (cI, 12, .inl pr)), (qs, .inl (cI, 12, .inl sb)), (qr, .inl (cI, 4, .inl br)), (qf, .inl (cI, 4, .inl fe))]) [8, 9, 3, 4, 5, 6, 7] rfl
                have hDc := (hD.sub (ws' := [(qR, .inr (4, [.ref qn])), (qn, .inl (cI, 36, .inl nd)), (qb, .inr (0, [.ref qp, .ref qs, .ref qr, .ref qf, .int fl])), (qp, .inl (cI, 12, .inl pr)), (qs, .inl (cI, 12, .inl sb)), (qr, .inl (cI, 4, .inl br)), (qf, .inl (cI, 4, .inl fe))]) [8, 9, 3, 4, 5, 6, 7] (by decide) rfl).tt
                have hFc := va_free (wc := [(qR, .inr (4, [.ref qn])), (qn, .inl (cI, 36, .inl nd)), (qb, .inr (0, [.ref qp, .ref qs, .ref qr, .ref qf, .int fl])), (qp, .inl (cI, 12, .inl pr)), (qs, .inl (cI, 12, .inl sb)), (qr, .inl (cI, 4, .inl br)), (qf, .inl (cI, 4, .inl fe))]) hD hS hA [8, 9, 3, 4, 5, 6, 7] rfl
                refine va_calli (va_runVN (As := [.ref qb, .int (nI (j / 3)), .int (nI a)]) (rest := [.int 0]) ⟨hx, hb, hml, hown, hts⟩ (c_X4_goingWide l G cI cC cZ cG s.heap.size qR qn nd qb qp qs qr qf pr sb br fe fl (j / 3) a (by omega) (by omega)) (cf_RX5_190 hts hK.2 ⟨Nat.le_of_ble_eq_true rfl, Nat.le_of_ble_eq_true rfl⟩) (pre_V hK hPc hDc (ci := 4) (q0 := 0) rfl rfl) rfl rfl hl.1 rfl (lv_room (Nat.le_of_ble_eq_true rfl)) dX5_needs_108 ⟨Nat.le_of_ble_eq_true rfl, Nat.le_of_ble_eq_true rfl⟩) hS (fun q _ h => hFc q h) hFc (fun r371 u371 t371 H371 locs371 ht371 hvm371 hw371 hB371 hz371 hk371 hS => ?_)
                obtain ⟨nd371, rfl⟩ : ∃ z, z = u371 := ⟨_, rfl⟩
                obtain ⟨hP1, hD1⟩ := hB371
                rw [ht371] at hP1
                try dsimp only at hw371
                obtain ⟨hr371, hw371⟩ := hw371
                subst hr371
                obtain ⟨hP, hD⟩ := va_join (wr := [(qX, .inr (5, [.ref qg, .ref wg, .ref qR, .ref qd, .ref qh, .ref qk])), (qg, .inr (1, [.ref qb, .ref qt, .int x, .int (nI pl), .int th, .int tu, .int ca])), (qt, .inl (cI, 3, .inl se))]) (w1 := [(qR, .inr (4, [.ref qn])), (qn, .inl (cI, 36, .inl nd371)), (qb, .inr (0, [.ref qp, .ref qs, .ref qr, .ref qf, .int fl])), (qp, .inl (cI, 12, .inl pr)), (qs, .inl (cI, 12, .inl sb)), (qr, .inl (cI, 4, .inl br)), (qf, .inl (cI, 4, .inl fe))]) hP hD [8, 9, 3, 4, 5, 6, 7] [0, 1, 2] rfl rfl (by decide) (by decide) hk371 hFc hP1 hD1
                have hP : va_P G vwCl [(qX, .inr (5, [.ref qg, .ref wg, .ref qR, .ref qd, .ref qh, .ref qk])), (qg, .inr (1, [.ref qb, .ref qt, .int x, .int (nI pl), .int th, .int tu, .int ca])), (qt, .inl (cI, 3, .inl se)), (qR, .inr (4, [.ref qn])), (qn, .inl (cI, 36, .inl nd371)), (qb, .inr (0, [.ref qp, .ref qs, .ref qr, .ref qf, .int fl])), (qp, .inl (cI, 12, .inl pr)), (qs, .inl (cI, 12, .inl sb)), (qr, .inl (cI, 4, .inl br)), (qf, .inl (cI, 4, .inl fe))] H371 := hP
                have hD : va_D A [(qX, .inr (5, [.ref qg, .ref wg, .ref qR, .ref qd, .ref qh, .ref qk])), (qg, .inr (1, [.ref qb, .ref qt, .int x, .int (nI pl), .int th, .int tu, .int ca])), (qt, .inl (cI, 3, .inl se)), (qR, .inr (4, [.ref qn])), (qn, .inl (cI, 36, .inl nd371)), (qb, .inr (0, [.ref qp, .ref qs, .ref qr, .ref qf, .int fl])), (qp, .inl (cI, 12, .inl pr)), (qs, .inl (cI, 12, .inl sb)), (qr, .inl (cI, 4, .inl br)), (qf, .inl (cI, 4, .inl fe))] := hD
                refine lv_iadd hx hb dX5_needs_111 ?_
                have hP := hP.sub (ws' := [(qX, .inr (5, [.ref qg, .ref wg, .ref qR, .ref qd, .ref qh, .ref qk])), (qg, .inr (1, [.ref qb, .ref qt, .int x, .int (nI pl), .int th, .int tu, .int ca])), (qt, .inl (cI, 3, .inl se)), (qb, .inr (0, [.ref qp, .ref qs, .ref qr, .ref qf, .int fl])), (qp, .inl (cI, 12, .inl pr)), (qs, .inl (cI, 12, .inl sb)), (qr, .inl (cI, 4, .inl br)), (qf, .inl (cI, 4, .inl fe)), (qR, .inr (4, [.ref qn])), (qn, .inl (cI, 36, .inl nd371))]) [0, 1, 2, 5, 6, 7, 8, 9, 3, 4] rfl
                have hD := hD.sub (ws' := [(qX, .inr (5, [.ref qg, .ref wg, .ref qR, .ref qd, .ref qh, .ref qk])), (qg, .inr (1, [.ref qb, .ref qt, .int x, .int (nI pl), .int th, .int tu, .int ca])), (qt, .inl (cI, 3, .inl se)), (qb, .inr (0, [.ref qp, .ref qs, .ref qr, .ref qf, .int fl])), (qp, .inl (cI, 12, .inl pr)), (qs, .inl (cI, 12, .inl sb)), (qr, .inl (cI, 4, .inl br)), (qf, .inl (cI, 4, .inl fe)), (qR, .inr (4, [.ref qn])), (qn, .inl (cI, 36, .inl nd371))]) [0, 1, 2, 5, 6, 7, 8, 9, 3, 4] (by decide) rfl
                exact W.iret (v := 0 + (ndW nd br (j / 3) a 35)) hx hb hr (fun t ht hW => ⟨⟨0 + (ndW nd br (j / 3) a 35), nd371, rfl, ⟨by rw [p_needs, if_neg c_353, if_neg (fun q => q.2 (by decide)), (show (nI j).toNatClampNeg = j from nI_clamp (by omega)), ea, if_neg (nI_neg (by omega) (by decide)), (show (nI a).toNatClampNeg = a from nI_clamp (by omega)), if_neg (by decide)] <;> rfl, trivial⟩, by rw [ht]; exact hP, hD⟩, hS.F ht⟩) hS.2.2 dX5_needs_112
              · exact absurd c_370 (by decide)
            · exact absurd c_369 (nI_neg (by omega) (by decide))
          · exact absurd c_368 (nI_neg (by omega) (by decide))
      · refine lv_bipush (v := (-2)) hx hb dX5_needs_18 (by decide) ?_
        exact W.iret (v := (-2)) hx hb hr (fun t ht hW => ⟨⟨(-2), nd, rfl, ⟨by rw [p_needs, if_neg c_353, if_pos ⟨c_354, c_363⟩], trivial⟩, by rw [ht]; exact hP, hD⟩, hS.F ht⟩) hS.2.2 dX5_needs_20
  · refine lv_iconst (v := (-1)) hx hb dX5_needs_7 (by decide) ?_
    exact W.iret (v := (-1)) hx hb hr (fun t ht hW => ⟨⟨(-1), nd, rfl, ⟨by rw [p_needs, if_pos c_353], trivial⟩, by rw [ht]; exact hP, hD⟩, hS.F ht⟩) hS.2.2 dX5_needs_8

abbrev rm_X5_untilOver : Room := { frames := 6, cells := 0, slots := 0, locals := 143 }
theorem cf_RX5_199 {R : Room} {s : State} {args : Array Value} (ht : ∀ w ∈ wsL_law, w.before args s = true) (hN : ∀ w ∈ nestW, va_Nw w s) (hR : rm_X1_copyFrom.frames + 1 ≤ R.frames ∧ 8 + (2 + 11) + rm_X1_copyFrom.locals ≤ R.locals) : va_CN R s args RX5 199 yX1_copyFrom "BridgedPachisi" cX1_copyFrom 2 none (.code yX1_copyFrom cX1_copyFrom 2 none :: wsL_law) rm_X1_copyFrom 0 0 1 ∧ (Cond.instanceMethod yX1_copyFrom).before args s = true ∧ (Cond.selects RX1 yX1_copyFrom yX1_copyFrom).before args s = true := ⟨cw_N 1 ht hN nw50 wd12 wd265 (by decide +kernel) rfl rfl hR, ht _ wd263, ht _ wd264⟩
theorem cf_RX5_93 {R : Room} {s : State} {args : Array Value} (ht : ∀ w ∈ wsL_law, w.before args s = true) (hN : ∀ w ∈ nestW, va_Nw w s) (hR : rm_X1_playOn.frames + 1 ≤ R.frames ∧ 8 + (4 + 11) + rm_X1_playOn.locals ≤ R.locals) : va_CN R s args RX5 93 yX1_playOn "BridgedPachisi" cX1_playOn 4 (some .int) (.code yX1_playOn cX1_playOn 4 (some .int) :: wsL_law) rm_X1_playOn 0 0 1 ∧ (Cond.instanceMethod yX1_playOn).before args s = true ∧ (Cond.selects RX1 yX1_playOn yX1_playOn).before args s = true := ⟨cw_N 1 ht hN nw55 wd12 wd272 (by decide +kernel) rfl rfl hR, ht _ wd270, ht _ wd271⟩
theorem cf_RX5_62 {R : Room} {s : State} {args : Array Value} (ht : ∀ w ∈ wsL_law, w.before args s = true) (hN : ∀ w ∈ nestW, va_Nw w s) (hR : rm_X1_isOver.frames + 1 ≤ R.frames ∧ 8 + (1 + 11) + rm_X1_isOver.locals ≤ R.locals) : va_CN R s args RX5 62 yX1_isOver "BridgedPachisi" cX1_isOver 1 (some .boolean) (.code yX1_isOver cX1_isOver 1 (some .boolean) :: wsL_law) rm_X1_isOver 0 0 0 ∧ (Cond.instanceMethod yX1_isOver).before args s = true ∧ (Cond.selects RX1 yX1_isOver yX1_isOver).before args s = true := ⟨cw_N 0 ht hN nw62 wd12 wd276 (by decide +kernel) rfl rfl hR, ht _ wd274, ht _ wd275⟩
set_option maxHeartbeats 1000000 in
set_option maxRecDepth 100000 in
theorem c_X5_untilOver (l : Launch) (G : va_G) (cI cC cZ cG : ClassId) (sz : Nat) (qX wg qR qd qh qk : Nat) (qg qt qb qp qs qr qf : Nat) (pr sb br fe se : IA) (fl x : Int32) (pl : Nat) (th tu ca : Int32) (wt wb wp ws wr wf : Nat) (ypr ysb ybr yfe yse : IA) (yfl yx : Int32) (ypl : Nat) (yth ytu yca : Int32) (hpr : ∀ k, k < 12 → okv (pr k)) (hx0 : ¬ x < 0) (hpl : pl < 4) (hth : okc th) : Met l yX5_untilOver (.code yX5_untilOver cX5_untilOver 2 (some .int) :: wsL_law) rm_X5_untilOver (va_Pc [.ref qX] (bw G cI cC cZ cG false sz [(qX, .inr (5, [.ref qg, .ref wg, .ref qR, .ref qd, .ref qh, .ref qk])), (qg, .inr (1, [.ref qb, .ref qt, .int x, .int (nI pl), .int th, .int tu, .int ca])), (qt, .inl (cI, 3, .inl se)), (qb, .inr (0, [.ref qp, .ref qs, .ref qr, .ref qf, .int fl])), (qp, .inl (cI, 12, .inl pr)), (qs, .inl (cI, 12, .inl sb)), (qr, .inl (cI, 4, .inl br)), (qf, .inl (cI, 4, .inl fe)), (wg, .inr (1, [.ref wb, .ref wt, .int yx, .int (nI ypl), .int yth, .int ytu, .int yca])), (wt, .inl (cI, 3, .inl yse)), (wb, .inr (0, [.ref wp, .ref ws, .ref wr, .ref wf, .int yfl])), (wp, .inl (cI, 12, .inl ypr)), (ws, .inl (cI, 12, .inl ysb)), (wr, .inl (cI, 4, .inl ybr)), (wf, .inl (cI, 4, .inl yfe))])) (va_Qi (fun (r : Int32) (u : IA × IA × IA × IA × IA × Int32 × Int32 × Nat × Int32 × Int32 × Int32) => r = p_until th (va_cpy se yse 0 0 3) (va_cpy pr ypr 0 0 12, va_cpy sb ysb 0 0 12, va_cpy br ybr 0 0 4, va_cpy fe yfe 0 0 4, fl, x, pl, th, tu, ca) ∧ True) (fun (u : IA × IA × IA × IA × IA × Int32 × Int32 × Nat × Int32 × Int32 × Int32) t => va_P G vwCl [(qX, .inr (5, [.ref qg, .ref wg, .ref qR, .ref qd, .ref qh, .ref qk])), (qg, .inr (1, [.ref qb, .ref qt, .int x, .int (nI pl), .int th, .int tu, .int ca])), (qt, .inl (cI, 3, .inl se)), (qb, .inr (0, [.ref qp, .ref qs, .ref qr, .ref qf, .int fl])), (qp, .inl (cI, 12, .inl pr)), (qs, .inl (cI, 12, .inl sb)), (qr, .inl (cI, 4, .inl br)), (qf, .inl (cI, 4, .inl fe)), (wg, .inr (1, [.ref wb, .ref wt, .int u.2.2.2.2.2.2.1, .int (nI u.2.2.2.2.2.2.2.1), .int u.2.2.2.2.2.2.2.2.1, .int u.2.2.2.2.2.2.2.2.2.1, .int u.2.2.2.2.2.2.2.2.2.2])), (wt, .inl (cI, 3, .inl u.2.2.2.2.1)), (wb, .inr (0, [.ref wp, .ref ws, .ref wr, .ref wf, .int u.2.2.2.2.2.1])), (wp, .inl (cI, 12, .inl u.1)), (ws, .inl (cI, 12, .inl u.2.1)), (wr, .inl (cI, 4, .inl u.2.2.1)), (wf, .inl (cI, 4, .inl u.2.2.2.1))] t.heap ∧ va_D (va_A [(qX, .inr (5, [.ref qg, .ref wg, .ref qR, .ref qd, .ref qh, .ref qk])), (qg, .inr (1, [.ref qb, .ref qt, .int x, .int (nI pl), .int th, .int tu, .int ca])), (qt, .inl (cI, 3, .inl se)), (qb, .inr (0, [.ref qp, .ref qs, .ref qr, .ref qf, .int fl])), (qp, .inl (cI, 12, .inl pr)), (qs, .inl (cI, 12, .inl sb)), (qr, .inl (cI, 4, .inl br)), (qf, .inl (cI, 4, .inl fe)), (wg, .inr (1, [.ref wb, .ref wt, .int yx, .int (nI ypl), .int yth, .int ytu, .int yca])), (wt, .inl (cI, 3, .inl yse)), (wb, .inr (0, [.ref wp, .ref ws, .ref wr, .ref wf, .int yfl])), (wp, .inl (cI, 12, .inl ypr)), (ws, .inl (cI, 12, .inl ysb)), (wr, .inl (cI, 4, .inl ybr)), (wf, .inl (cI, 4, .inl yfe))] sz) [(qX, .inr (5, [.ref qg, .ref wg, .ref qR, .ref qd, .ref qh, .ref qk])), (qg, .inr (1, [.ref qb, .ref qt, .int x, .int (nI pl), .int th, .int tu, .int ca])), (qt, .inl (cI, 3, .inl se)), (qb, .inr (0, [.ref qp, .ref qs, .ref qr, .ref qf, .int fl])), (qp, .inl (cI, 12, .inl pr)), (qs, .inl (cI, 12, .inl sb)), (qr, .inl (cI, 4, .inl br)), (qf, .inl (cI, 4, .inl fe)), (wg, .inr (1, [.ref wb, .ref wt, .int u.2.2.2.2.2.2.1, .int (nI u.2.2.2.2.2.2.2.1), .int u.2.2.2.2.2.2.2.2.1, .int u.2.2.2.2.2.2.2.2.2.1, .int u.2.2.2.2.2.2.2.2.2.2])), (wt, .inl (cI, 3, .inl u.2.2.2.2.1)), (wb, .inr (0, [.ref wp, .ref ws, .ref wr, .ref wf, .int u.2.2.2.2.2.1])), (wp, .inl (cI, 12, .inl u.1)), (ws, .inl (cI, 12, .inl u.2.1)), (wr, .inl (cI, 4, .inl u.2.2.1)), (wf, .inl (cI, 4, .inl u.2.2.2.1))]) (va_A [(qX, .inr (5, [.ref qg, .ref wg, .ref qR, .ref qd, .ref qh, .ref qk])), (qg, .inr (1, [.ref qb, .ref qt, .int x, .int (nI pl), .int th, .int tu, .int ca])), (qt, .inl (cI, 3, .inl se)), (qb, .inr (0, [.ref qp, .ref qs, .ref qr, .ref qf, .int fl])), (qp, .inl (cI, 12, .inl pr)), (qs, .inl (cI, 12, .inl sb)), (qr, .inl (cI, 4, .inl br)), (qf, .inl (cI, 4, .inl fe)), (wg, .inr (1, [.ref wb, .ref wt, .int yx, .int (nI ypl), .int yth, .int ytu, .int yca])), (wt, .inl (cI, 3, .inl yse)), (wb, .inr (0, [.ref wp, .ref ws, .ref wr, .ref wf, .int yfl])), (wp, .inl (cI, 12, .inl ypr)), (ws, .inl (cI, 12, .inl ysb)), (wr, .inl (cI, 4, .inl ybr)), (wf, .inl (cI, 4, .inl yfe))] sz)) 0 0 (va_A [(qX, .inr (5, [.ref qg, .ref wg, .ref qR, .ref qd, .ref qh, .ref qk])), (qg, .inr (1, [.ref qb, .ref qt, .int x, .int (nI pl), .int th, .int tu, .int ca])), (qt, .inl (cI, 3, .inl se)), (qb, .inr (0, [.ref qp, .ref qs, .ref qr, .ref qf, .int fl])), (qp, .inl (cI, 12, .inl pr)), (qs, .inl (cI, 12, .inl sb)), (qr, .inl (cI, 4, .inl br)), (qf, .inl (cI, 4, .inl fe)), (wg, .inr (1, [.ref wb, .ref wt, .int yx, .int (nI ypl), .int yth, .int ytu, .int yca])), (wt, .inl (cI, 3, .inl yse)), (wb, .inr (0, [.ref wp, .ref ws, .ref wr, .ref wf, .int yfl])), (wp, .inl (cI, 12, .inl ypr)), (ws, .inl (cI, 12, .inl ysb)), (wr, .inl (cI, 4, .inl ybr)), (wf, .inl (cI, 4, .inl yfe))] sz) := by
  refine met_bw rfl (Nat.le_of_ble_eq_true rfl) ?_
  intro p e s m below meth c ls hx hb hr hml hown hts hlocks hin hsz hP hK hD0 hX0 hl
  have hown : s.vm.findClass RX5 = some m.cls := hown
  have hl : lv_has ls 2 [(0, .ref qX)] := hl
  subst hsz
  have hD := hD0.self (sz := s.heap.size)
  generalize hAe : va_A [(qX, .inr (5, [.ref qg, .ref wg, .ref qR, .ref qd, .ref qh, .ref qk])), (qg, .inr (1, [.ref qb, .ref qt, .int x, .int (nI pl), .int th, .int tu, .int ca])), (qt, .inl (cI, 3, .inl se)), (qb, .inr (0, [.ref qp, .ref qs, .ref qr, .ref qf, .int fl])), (qp, .inl (cI, 12, .inl pr)), (qs, .inl (cI, 12, .inl sb)), (qr, .inl (cI, 4, .inl br)), (qf, .inl (cI, 4, .inl fe)), (wg, .inr (1, [.ref wb, .ref wt, .int yx, .int (nI ypl), .int yth, .int ytu, .int yca])), (wt, .inl (cI, 3, .inl yse)), (wb, .inr (0, [.ref wp, .ref ws, .ref wr, .ref wf, .int yfl])), (wp, .inl (cI, 12, .inl ypr)), (ws, .inl (cI, 12, .inl ysb)), (wr, .inl (cI, 4, .inl ybr)), (wf, .inl (cI, 4, .inl yfe))] s.heap.size = A at hD ⊢
  have hA : ∀ q : Nat, s.heap.size ≤ q → A q := fun q h => by rw [← hAe]; exact Or.inr h
  have hS : va_S A s.heap s.heap [] := va_S.rf
  refine lv_aload_n hx hb dX5_untilOver_0 rfl (lv_at hl 0 rfl) ?_
  refine va_get (D := G) (ci := 5) (v := .ref qg) (C := RX5) (T := TX5) (N := 6) hx hb hts inlX5 hown hK.1 hP 0 rfl rfl 0 (by decide) (hts _ wd13) (fun _ h9 => h9) rfl dX5_untilOver_1 ?_
  have hPc := hP.sub (ws' := [(qg, .inr (1, [.ref qb, .ref qt, .int x, .int (nI pl), .int th, .int tu, .int ca])), (qt, .inl (cI, 3, .inl se)), (qb, .inr (0, [.ref qp, .ref qs, .ref qr, .ref qf, .int fl])), (qp, .inl (cI, 12, .inl pr)), (qs, .inl (cI, 12, .inl sb)), (qr, .inl (cI, 4, .inl br)), (qf, .inl (cI, 4, .inl fe))]) [1, 2, 3, 4, 5, 6, 7] rfl
  have hDc := (hD.sub (ws' := [(qg, .inr (1, [.ref qb, .ref qt, .int x, .int (nI pl), .int th, .int tu, .int ca])), (qt, .inl (cI, 3, .inl se)), (qb, .inr (0, [.ref qp, .ref qs, .ref qr, .ref qf, .int fl])), (qp, .inl (cI, 12, .inl pr)), (qs, .inl (cI, 12, .inl sb)), (qr, .inl (cI, 4, .inl br)), (qf, .inl (cI, 4, .inl fe))]) [1, 2, 3, 4, 5, 6, 7] (by decide) rfl).tt
  refine vp_callSi (va_Run.run (va_runVN (As := []) (rest := []) ⟨hx, hb, hml, hown, hts⟩ (c_X1_hasThrow l G cI cC cZ cG s.heap.size qg qt qb qp qs qr qf pr sb br fe se fl x pl th tu ca) (cf_RX5_66 hts hK.2 ⟨Nat.le_of_ble_eq_true rfl, Nat.le_of_ble_eq_true rfl⟩) (pre_V hK hPc hDc (ci := 1) (q0 := 0) rfl rfl) rfl rfl hl.1 rfl (lv_room (Nat.le_of_ble_eq_true rfl)) dX5_untilOver_4 ⟨Nat.le_of_ble_eq_true rfl, Nat.le_of_ble_eq_true rfl⟩)) (fun r372 hr372 => ?_)
  subst hr372
  refine zb_eq (tgt := 13) hx hb dX5_untilOver_7 (by decide) (fun c_373 => ?_) (fun c_373 => ?_)
  · refine lv_aload_n hx hb dX5_untilOver_13 rfl (lv_at hl 0 rfl) ?_
    refine va_get (D := G) (ci := 5) (v := .ref wg) (C := RX5) (T := TX5) (N := 6) hx hb hts inlX5 hown hK.1 hP 0 rfl rfl 1 (by decide) (hts _ wd14) (fun _ h9 => h9) rfl dX5_untilOver_14 ?_
    refine lv_aload_n hx hb dX5_untilOver_17 rfl (lv_at hl 0 rfl) ?_
    refine va_get (D := G) (ci := 5) (v := .ref qg) (C := RX5) (T := TX5) (N := 6) hx hb hts inlX5 hown hK.1 hP 0 rfl rfl 0 (by decide) (hts _ wd13) (fun _ h9 => h9) rfl dX5_untilOver_18 ?_
    have hPc := hP.sub (ws' := [(wg, .inr (1, [.ref wb, .ref wt, .int yx, .int (nI ypl), .int yth, .int ytu, .int yca])), (wt, .inl (cI, 3, .inl yse)), (wb, .inr (0, [.ref wp, .ref ws, .ref wr, .ref wf, .int yfl])), (wp, .inl (cI, 12, .inl ypr)), (ws, .inl (cI, 12, .inl ysb)), (wr, .inl (cI, 4, .inl ybr)), (wf, .inl (cI, 4, .inl yfe)), (qg, .inr (1, [.ref qb, .ref qt, .int x, .int (nI pl), .int th, .int tu, .int ca])), (qt, .inl (cI, 3, .inl se)), (qb, .inr (0, [.ref qp, .ref qs, .ref qr, .ref qf, .int fl])), (qp, .inl (cI, 12, .inl pr)), (qs, .inl (cI, 12, .inl sb)), (qr, .inl (cI, 4, .inl br)), (qf, .inl (cI, 4, .inl fe))]) [8, 9, 10, 11, 12, 13, 14, 1, 2, 3, 4, 5, 6, 7] rfl
    have hDc := (hD.sub (ws' := [(wg, .inr (1, [.ref wb, .ref wt, .int yx, .int (nI ypl), .int yth, .int ytu, .int yca])), (wt, .inl (cI, 3, .inl yse)), (wb, .inr (0, [.ref wp, .ref ws, .ref wr, .ref wf, .int yfl])), (wp, .inl (cI, 12, .inl ypr)), (ws, .inl (cI, 12, .inl ysb)), (wr, .inl (cI, 4, .inl ybr)), (wf, .inl (cI, 4, .inl yfe)), (qg, .inr (1, [.ref qb, .ref qt, .int x, .int (nI pl), .int th, .int tu, .int ca])), (qt, .inl (cI, 3, .inl se)), (qb, .inr (0, [.ref qp, .ref qs, .ref qr, .ref qf, .int fl])), (qp, .inl (cI, 12, .inl pr)), (qs, .inl (cI, 12, .inl sb)), (qr, .inl (cI, 4, .inl br)), (qf, .inl (cI, 4, .inl fe))]) [8, 9, 10, 11, 12, 13, 14, 1, 2, 3, 4, 5, 6, 7] (by decide) rfl).tt
    have hFc := va_free (wc := [(wg, .inr (1, [.ref wb, .ref wt, .int yx, .int (nI ypl), .int yth, .int ytu, .int yca])), (wt, .inl (cI, 3, .inl yse)), (wb, .inr (0, [.ref wp, .ref ws, .ref wr, .ref wf, .int yfl])), (wp, .inl (cI, 12, .inl ypr)), (ws, .inl (cI, 12, .inl ysb)), (wr, .inl (cI, 4, .inl ybr)), (wf, .inl (cI, 4, .inl yfe)), (qg, .inr (1, [.ref qb, .ref qt, .int x, .int (nI pl), .int th, .int tu, .int ca])), (qt, .inl (cI, 3, .inl se)), (qb, .inr (0, [.ref qp, .ref qs, .ref qr, .ref qf, .int fl])), (qp, .inl (cI, 12, .inl pr)), (qs, .inl (cI, 12, .inl sb)), (qr, .inl (cI, 4, .inl br)), (qf, .inl (cI, 4, .inl fe))]) hD hS hA [8, 9, 10, 11, 12, 13, 14, 1, 2, 3, 4, 5, 6, 7] rfl
    refine va_callv (va_runVN (As := [.ref qg]) (rest := []) ⟨hx, hb, hml, hown, hts⟩ (c_X1_copyFrom l G cI cC cZ cG s.heap.size wg wt wb wp ws wr wf ypr ysb ybr yfe yse yfl yx ypl yth ytu yca qg qt qb qp qs qr qf pr sb br fe se fl x pl th tu ca) (cf_RX5_199 hts hK.2 ⟨Nat.le_of_ble_eq_true rfl, Nat.le_of_ble_eq_true rfl⟩) (pre_V hK hPc hDc (ci := 1) (q0 := 0) rfl rfl) rfl rfl hl.1 rfl (lv_room (Nat.le_of_ble_eq_true rfl)) dX5_untilOver_21 ⟨Nat.le_of_ble_eq_true rfl, Nat.le_of_ble_eq_true rfl⟩) hS (fun q _ h => hFc q h) hFc (fun u374 t374 H374 locs374 ht374 hvm374 hw374 hB374 hz374 hk374 hS => ?_)
    obtain ⟨z374, rfl⟩ : ∃ z, z = u374 := ⟨_, rfl⟩
    obtain ⟨hP1, hD1⟩ := hB374
    rw [ht374] at hP1
    try dsimp only at hw374
    obtain ⟨hP, hD⟩ := va_join (wr := [(qX, .inr (5, [.ref qg, .ref wg, .ref qR, .ref qd, .ref qh, .ref qk]))]) (w1 := [(wg, .inr (1, [.ref wb, .ref wt, .int x, .int (nI pl), .int th, .int tu, .int ca])), (wt, .inl (cI, 3, .inl (va_cpy se yse 0 0 3))), (wb, .inr (0, [.ref wp, .ref ws, .ref wr, .ref wf, .int fl])), (wp, .inl (cI, 12, .inl (va_cpy pr ypr 0 0 12))), (ws, .inl (cI, 12, .inl (va_cpy sb ysb 0 0 12))), (wr, .inl (cI, 4, .inl (va_cpy br ybr 0 0 4))), (wf, .inl (cI, 4, .inl (va_cpy fe yfe 0 0 4))), (qg, .inr (1, [.ref qb, .ref qt, .int x, .int (nI pl), .int th, .int tu, .int ca])), (qt, .inl (cI, 3, .inl se)), (qb, .inr (0, [.ref qp, .ref qs, .ref qr, .ref qf, .int fl])), (qp, .inl (cI, 12, .inl pr)), (qs, .inl (cI, 12, .inl sb)), (qr, .inl (cI, 4, .inl br)), (qf, .inl (cI, 4, .inl fe))]) hP hD [8, 9, 10, 11, 12, 13, 14, 1, 2, 3, 4, 5, 6, 7] [0] rfl rfl (by decide) (by decide) hk374 hFc hP1 hD1
    have hP : va_P G vwCl [(qX, .inr (5, [.ref qg, .ref wg, .ref qR, .ref qd, .ref qh, .ref qk])), (wg, .inr (1, [.ref wb, .ref wt, .int x, .int (nI pl), .int th, .int tu, .int ca])), (wt, .inl (cI, 3, .inl (va_cpy se yse 0 0 3))), (wb, .inr (0, [.ref wp, .ref ws, .ref wr, .ref wf, .int fl])), (wp, .inl (cI, 12, .inl (va_cpy pr ypr 0 0 12))), (ws, .inl (cI, 12, .inl (va_cpy sb ysb 0 0 12))), (wr, .inl (cI, 4, .inl (va_cpy br ybr 0 0 4))), (wf, .inl (cI, 4, .inl (va_cpy fe yfe 0 0 4))), (qg, .inr (1, [.ref qb, .ref qt, .int x, .int (nI pl), .int th, .int tu, .int ca])), (qt, .inl (cI, 3, .inl se)), (qb, .inr (0, [.ref qp, .ref qs, .ref qr, .ref qf, .int fl])), (qp, .inl (cI, 12, .inl pr)), (qs, .inl (cI, 12, .inl sb)), (qr, .inl (cI, 4, .inl br)), (qf, .inl (cI, 4, .inl fe))] H374 := hP
    have hD : va_D A [(qX, .inr (5, [.ref qg, .ref wg, .ref qR, .ref qd, .ref qh, .ref qk])), (wg, .inr (1, [.ref wb, .ref wt, .int x, .int (nI pl), .int th, .int tu, .int ca])), (wt, .inl (cI, 3, .inl (va_cpy se yse 0 0 3))), (wb, .inr (0, [.ref wp, .ref ws, .ref wr, .ref wf, .int fl])), (wp, .inl (cI, 12, .inl (va_cpy pr ypr 0 0 12))), (ws, .inl (cI, 12, .inl (va_cpy sb ysb 0 0 12))), (wr, .inl (cI, 4, .inl (va_cpy br ybr 0 0 4))), (wf, .inl (cI, 4, .inl (va_cpy fe yfe 0 0 4))), (qg, .inr (1, [.ref qb, .ref qt, .int x, .int (nI pl), .int th, .int tu, .int ca])), (qt, .inl (cI, 3, .inl se)), (qb, .inr (0, [.ref qp, .ref qs, .ref qr, .ref qf, .int fl])), (qp, .inl (cI, 12, .inl pr)), (qs, .inl (cI, 12, .inl sb)), (qr, .inl (cI, 4, .inl br)), (qf, .inl (cI, 4, .inl fe))] := hD
    refine lv_aload_n hx hb dX5_untilOver_24 rfl (lv_at hl 0 rfl) ?_
    refine va_get (D := G) (ci := 5) (v := .ref wg) (C := RX5) (T := TX5) (N := 6) hx hb hts inlX5 hown hK.1 hP 0 rfl rfl 1 (by decide) (hts _ wd14) (fun _ h9 => h9) rfl dX5_untilOver_25 ?_
    refine lv_sipush (v := 400) hx hb dX5_untilOver_28 (by decide) ?_
    have hPc := hP.sub (ws' := [(wg, .inr (1, [.ref wb, .ref wt, .int x, .int (nI pl), .int th, .int tu, .int ca])), (wt, .inl (cI, 3, .inl (va_cpy se yse 0 0 3))), (wb, .inr (0, [.ref wp, .ref ws, .ref wr, .ref wf, .int fl])), (wp, .inl (cI, 12, .inl (va_cpy pr ypr 0 0 12))), (ws, .inl (cI, 12, .inl (va_cpy sb ysb 0 0 12))), (wr, .inl (cI, 4, .inl (va_cpy br ybr 0 0 4))), (wf, .inl (cI, 4, .inl (va_cpy fe yfe 0 0 4)))]) [1, 2, 3, 4, 5, 6, 7] rfl
    have hDc := (hD.sub (ws' := [(wg, .inr (1, [.ref wb, .ref wt, .int x, .int (nI pl), .int th, .int tu, .int ca])), (wt, .inl (cI, 3, .inl (va_cpy se yse 0 0 3))), (wb, .inr (0, [.ref wp, .ref ws, .ref wr, .ref wf, .int fl])), (wp, .inl (cI, 12, .inl (va_cpy pr ypr 0 0 12))), (ws, .inl (cI, 12, .inl (va_cpy sb ysb 0 0 12))), (wr, .inl (cI, 4, .inl (va_cpy br ybr 0 0 4))), (wf, .inl (cI, 4, .inl (va_cpy fe yfe 0 0 4)))]) [1, 2, 3, 4, 5, 6, 7] (by decide) rfl).tt
    have hFc := va_free (wc := [(wg, .inr (1, [.ref wb, .ref wt, .int x, .int (nI pl), .int th, .int tu, .int ca])), (wt, .inl (cI, 3, .inl (va_cpy se yse 0 0 3))), (wb, .inr (0, [.ref wp, .ref ws, .ref wr, .ref wf, .int fl])), (wp, .inl (cI, 12, .inl (va_cpy pr ypr 0 0 12))), (ws, .inl (cI, 12, .inl (va_cpy sb ysb 0 0 12))), (wr, .inl (cI, 4, .inl (va_cpy br ybr 0 0 4))), (wf, .inl (cI, 4, .inl (va_cpy fe yfe 0 0 4)))]) hD hS hA [1, 2, 3, 4, 5, 6, 7] rfl
    refine va_calli (va_runVN (As := [.int 400]) (rest := []) ⟨hx, hb, hml, hown, hts⟩ (c_X1_playOn l G cI cC cZ cG H374.size wg wt wb wp ws wr wf (va_cpy pr ypr 0 0 12) (va_cpy sb ysb 0 0 12) (va_cpy br ybr 0 0 4) (va_cpy fe yfe 0 0 4) (va_cpy se yse 0 0 3) fl x pl th tu ca 400 (fun k hk => by rw [cpy_at k hk]; exact hpr k hk) hx0 hpl (by decide)) (cf_RX5_93 hts hK.2 ⟨Nat.le_of_ble_eq_true rfl, Nat.le_of_ble_eq_true rfl⟩) (pre_V hK hPc hDc (ci := 1) (q0 := 0) rfl rfl) rfl rfl hl.1 rfl (lv_room (Nat.le_of_ble_eq_true rfl)) dX5_untilOver_31 ⟨Nat.le_of_ble_eq_true rfl, Nat.le_of_ble_eq_true rfl⟩) hS (fun q _ h => hFc q h) hFc (fun r375 u375 t375 H375 locs375 ht375 hvm375 hw375 hB375 hz375 hk375 hS => ?_)
    obtain ⟨pr375, sb375, br375, fe375, fl375, x375, pl375, th375, tu375, ca375⟩ := u375
    obtain ⟨hP1, hD1⟩ := hB375
    rw [ht375] at hP1
    try dsimp only at hw375
    obtain ⟨hr375, hw375⟩ := hw375
    subst hr375
    obtain ⟨hP, hD⟩ := va_join (wr := [(qX, .inr (5, [.ref qg, .ref wg, .ref qR, .ref qd, .ref qh, .ref qk])), (qg, .inr (1, [.ref qb, .ref qt, .int x, .int (nI pl), .int th, .int tu, .int ca])), (qt, .inl (cI, 3, .inl se)), (qb, .inr (0, [.ref qp, .ref qs, .ref qr, .ref qf, .int fl])), (qp, .inl (cI, 12, .inl pr)), (qs, .inl (cI, 12, .inl sb)), (qr, .inl (cI, 4, .inl br)), (qf, .inl (cI, 4, .inl fe))]) (w1 := [(wg, .inr (1, [.ref wb, .ref wt, .int x375, .int (nI pl375), .int th375, .int tu375, .int ca375])), (wt, .inl (cI, 3, .inl (va_cpy se yse 0 0 3))), (wb, .inr (0, [.ref wp, .ref ws, .ref wr, .ref wf, .int fl375])), (wp, .inl (cI, 12, .inl pr375)), (ws, .inl (cI, 12, .inl sb375)), (wr, .inl (cI, 4, .inl br375)), (wf, .inl (cI, 4, .inl fe375))]) hP hD [1, 2, 3, 4, 5, 6, 7] [0, 8, 9, 10, 11, 12, 13, 14] rfl rfl (by decide) (by decide) hk375 hFc hP1 hD1
    have hP : va_P G vwCl [(qX, .inr (5, [.ref qg, .ref wg, .ref qR, .ref qd, .ref qh, .ref qk])), (qg, .inr (1, [.ref qb, .ref qt, .int x, .int (nI pl), .int th, .int tu, .int ca])), (qt, .inl (cI, 3, .inl se)), (qb, .inr (0, [.ref qp, .ref qs, .ref qr, .ref qf, .int fl])), (qp, .inl (cI, 12, .inl pr)), (qs, .inl (cI, 12, .inl sb)), (qr, .inl (cI, 4, .inl br)), (qf, .inl (cI, 4, .inl fe)), (wg, .inr (1, [.ref wb, .ref wt, .int x375, .int (nI pl375), .int th375, .int tu375, .int ca375])), (wt, .inl (cI, 3, .inl (va_cpy se yse 0 0 3))), (wb, .inr (0, [.ref wp, .ref ws, .ref wr, .ref wf, .int fl375])), (wp, .inl (cI, 12, .inl pr375)), (ws, .inl (cI, 12, .inl sb375)), (wr, .inl (cI, 4, .inl br375)), (wf, .inl (cI, 4, .inl fe375))] H375 := hP
    have hD : va_D A [(qX, .inr (5, [.ref qg, .ref wg, .ref qR, .ref qd, .ref qh, .ref qk])), (qg, .inr (1, [.ref qb, .ref qt, .int x, .int (nI pl), .int th, .int tu, .int ca])), (qt, .inl (cI, 3, .inl se)), (qb, .inr (0, [.ref qp, .ref qs, .ref qr, .ref qf, .int fl])), (qp, .inl (cI, 12, .inl pr)), (qs, .inl (cI, 12, .inl sb)), (qr, .inl (cI, 4, .inl br)), (qf, .inl (cI, 4, .inl fe)), (wg, .inr (1, [.ref wb, .ref wt, .int x375, .int (nI pl375), .int th375, .int tu375, .int ca375])), (wt, .inl (cI, 3, .inl (va_cpy se yse 0 0 3))), (wb, .inr (0, [.ref wp, .ref ws, .ref wr, .ref wf, .int fl375])), (wp, .inl (cI, 12, .inl pr375)), (ws, .inl (cI, 12, .inl sb375)), (wr, .inl (cI, 4, .inl br375)), (wf, .inl (cI, 4, .inl fe375))] := hD
    refine lv_istore_n (lv' := [(1, .int (nI ((pg (va_cpy se yse 0 0 3) 400 ((va_cpy pr ypr 0 0 12), (va_cpy sb ysb 0 0 12), (va_cpy br ybr 0 0 4), (va_cpy fe yfe 0 0 4), fl, x, pl, th, tu, ca)).2))), (0, .ref qX)]) hx hb dX5_untilOver_34 rfl hl (by decide) rfl (fun ls hl => ?_)
    refine lv_aload_n hx hb dX5_untilOver_35 rfl (lv_at hl 1 rfl) ?_
    refine va_get (D := G) (ci := 5) (v := .ref wg) (C := RX5) (T := TX5) (N := 6) hx hb hts inlX5 hown hK.1 hP 0 rfl rfl 1 (by decide) (hts _ wd14) (fun _ h9 => h9) rfl dX5_untilOver_36 ?_
    have hPc := hP.sub (ws' := [(wg, .inr (1, [.ref wb, .ref wt, .int x375, .int (nI pl375), .int th375, .int tu375, .int ca375])), (wt, .inl (cI, 3, .inl (va_cpy se yse 0 0 3))), (wb, .inr (0, [.ref wp, .ref ws, .ref wr, .ref wf, .int fl375])), (wp, .inl (cI, 12, .inl pr375)), (ws, .inl (cI, 12, .inl sb375)), (wr, .inl (cI, 4, .inl br375)), (wf, .inl (cI, 4, .inl fe375))]) [8, 9, 10, 11, 12, 13, 14] rfl
    have hDc := (hD.sub (ws' := [(wg, .inr (1, [.ref wb, .ref wt, .int x375, .int (nI pl375), .int th375, .int tu375, .int ca375])), (wt, .inl (cI, 3, .inl (va_cpy se yse 0 0 3))), (wb, .inr (0, [.ref wp, .ref ws, .ref wr, .ref wf, .int fl375])), (wp, .inl (cI, 12, .inl pr375)), (ws, .inl (cI, 12, .inl sb375)), (wr, .inl (cI, 4, .inl br375)), (wf, .inl (cI, 4, .inl fe375))]) [8, 9, 10, 11, 12, 13, 14] (by decide) rfl).tt
    refine vp_callSi (va_Run.run (va_runVN (As := []) (rest := []) ⟨hx, hb, hml, hown, hts⟩ (c_X1_isOver l G cI cC cZ cG H375.size wg wt wb wp ws wr wf pr375 sb375 br375 fe375 (va_cpy se yse 0 0 3) fl375 x375 pl375 th375 tu375 ca375) (cf_RX5_62 hts hK.2 ⟨Nat.le_of_ble_eq_true rfl, Nat.le_of_ble_eq_true rfl⟩) (pre_V hK hPc hDc (ci := 1) (q0 := 0) rfl rfl) rfl rfl hl.1 rfl (lv_room (Nat.le_of_ble_eq_true rfl)) dX5_untilOver_39 ⟨Nat.le_of_ble_eq_true rfl, Nat.le_of_ble_eq_true rfl⟩)) (fun r376 hr376 => ?_)
    subst hr376
    refine zb_eq (tgt := 49) hx hb dX5_untilOver_42 (by decide) (fun c_377 => ?_) (fun c_377 => ?_)
    · refine lv_bipush (v := (-6)) hx hb dX5_untilOver_49 (by decide) ?_
      exact W.iret (v := (-6)) hx hb hr (fun t ht hW => ⟨⟨(-6), (pr375, sb375, br375, fe375, (va_cpy se yse 0 0 3), fl375, x375, pl375, th375, tu375, ca375), rfl, ⟨by rw [p_until, if_neg c_373, if_neg (by rw [← hw375]; exact c_377)], trivial⟩, by rw [ht]; exact hP, hD⟩, hS.F ht⟩) hS.2.2 dX5_untilOver_51
    · refine lv_iload_n hx hb dX5_untilOver_45 rfl (lv_at hl 0 rfl) ?_
      refine lv_goto (tgt := 51) hx hb dX5_untilOver_46 (by decide) ?_
      exact W.iret (v := nI ((pg (va_cpy se yse 0 0 3) 400 ((va_cpy pr ypr 0 0 12), (va_cpy sb ysb 0 0 12), (va_cpy br ybr 0 0 4), (va_cpy fe yfe 0 0 4), fl, x, pl, th, tu, ca)).2)) hx hb hr (fun t ht hW => ⟨⟨nI ((pg (va_cpy se yse 0 0 3) 400 ((va_cpy pr ypr 0 0 12), (va_cpy sb ysb 0 0 12), (va_cpy br ybr 0 0 4), (va_cpy fe yfe 0 0 4), fl, x, pl, th, tu, ca)).2), (pr375, sb375, br375, fe375, (va_cpy se yse 0 0 3), fl375, x375, pl375, th375, tu375, ca375), rfl, ⟨by rw [p_until, if_neg c_373, if_pos (by rw [← hw375]; exact c_377)], trivial⟩, by rw [ht]; exact hP, hD⟩, hS.F ht⟩) hS.2.2 dX5_untilOver_51
  · refine lv_bipush (v := (-5)) hx hb dX5_untilOver_10 (by decide) ?_
    exact W.iret (v := (-5)) hx hb hr (fun t ht hW => ⟨⟨(-5), (ypr, ysb, ybr, yfe, yse, yfl, yx, ypl, yth, ytu, yca), rfl, ⟨by rw [p_until, if_pos c_373], trivial⟩, by rw [ht]; exact hP, hD⟩, hS.F ht⟩) hS.2.2 dX5_untilOver_12
