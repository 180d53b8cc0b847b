abbrev rm_X5_piece : Room := { frames := 2, cells := 0, slots := 0, locals := 46 }
theorem cf_RX5_116 {R : Room} {s : State} {args : Array Value} (ht : ∀ w ∈ wsL_law, w.before args s = true) (hR : rm_X5_isNoPiece.frames + 1 ≤ R.frames ∧ 8 + (1 + 11) + rm_X5_isNoPiece.locals ≤ R.locals) : CallB R s args RX5 116 yX5_isNoPiece cX5_isNoPiece 1 (some .boolean) (.code yX5_isNoPiece cX5_isNoPiece 1 (some .boolean) :: wsL_law) rm_X5_isNoPiece 0 0 1 ∧ (Cond.static yX5_isNoPiece).before args s = true := ⟨cw_B 1 ht wd411 wd2 wd413 (by decide +kernel) rfl rfl hR, ht _ wd412⟩
theorem cf_RX5_138 {R : Room} {s : State} {args : Array Value} (ht : ∀ w ∈ wsL_law, w.before args s = true) (hN : ∀ w ∈ nestW, va_Nw w s) (hR : rm_X0_fieldOf.frames + 1 ≤ R.frames ∧ 8 + (2 + 11) + rm_X0_fieldOf.locals ≤ R.locals) : va_CN R s args RX5 138 yX0_fieldOf "BridgedPachisi" cX0_fieldOf 2 (some .int) (.code yX0_fieldOf cX0_fieldOf 2 (some .int) :: wsL_law) rm_X0_fieldOf 0 0 1 ∧ (Cond.instanceMethod yX0_fieldOf).before args s = true ∧ (Cond.selects RX0 yX0_fieldOf yX0_fieldOf).before args s = true := ⟨cw_N 1 ht hN nw56 wd36 wd431 (by decide +kernel) rfl rfl hR, ht _ wd429, ht _ wd430⟩
theorem cf_RX5_141 {R : Room} {s : State} {args : Array Value} (ht : ∀ w ∈ wsL_law, w.before args s = true) (hN : ∀ w ∈ nestW, va_Nw w s) (hR : rm_X0_isInPair.frames + 1 ≤ R.frames ∧ 8 + (2 + 11) + rm_X0_isInPair.locals ≤ R.locals) : va_CN R s args RX5 141 yX0_isInPair "BridgedPachisi" cX0_isInPair 2 (some .boolean) (.code yX0_isInPair cX0_isInPair 2 (some .boolean) :: wsL_law) rm_X0_isInPair 0 0 1 ∧ (Cond.instanceMethod yX0_isInPair).before args s = true ∧ (Cond.selects RX0 yX0_isInPair yX0_isInPair).before args s = true := ⟨cw_N 1 ht hN nw57 wd36 wd434 (by decide +kernel) rfl rfl hR, ht _ wd432, ht _ wd433⟩
set_option maxHeartbeats 1000000 in
set_option maxRecDepth 100000 in
theorem c_X5_piece (l : Launch) (G : va_G) (cI cC cZ cG : ClassId) (sz : Nat) (qX wg qR qd qh qk : Nat) (qg qt qb qp qs qr qf : Nat) (pr sb br fe se : IA) (fl x : Int32) (pl : Nat) (th tu ca : Int32) (k0 w0 : Int32) : Met l yX5_piece (.code yX5_piece cX5_piece 3 (some .int) :: wsL_law) rm_X5_piece (va_Pc [.ref qX, .int k0, .int w0] (bw G cI cC cZ cG false sz [(qX, .inr (5, [.ref qg, .ref wg, .ref qR, .ref qd, .ref qh, .ref qk])), (qg, .inr (1, [.ref qb, .ref qt, .int x, .int (nI pl), .int th, .int tu, .int ca])), (qt, .inl (cI, 3, .inl se)), (qb, .inr (0, [.ref qp, .ref qs, .ref qr, .ref qf, .int fl])), (qp, .inl (cI, 12, .inl pr)), (qs, .inl (cI, 12, .inl sb)), (qr, .inl (cI, 4, .inl br)), (qf, .inl (cI, 4, .inl fe))])) (vp_Si (fun r => r = p_piece k0 w0 pr sb)) 0 0 (fun _ => False) := by
  refine met_bw rfl (Nat.le_of_ble_eq_true rfl) ?_
  intro p e s m below meth c ls hx hb hr hml hown hts hlocks hin hsz hP hK hD0 hX0 hl
  have hown : s.vm.findClass RX5 = some m.cls := hown
  have hl : lv_has ls 3 [(0, .ref qX), (1, .int k0), (2, .int w0)] := hl
  refine lv_iload_n hx hb dX5_piece_0 rfl (lv_at hl 1 rfl) ?_
  refine vp_callSi (va_Run.run (va_runS (As := [.int k0]) (rest := []) ⟨hx, hb, hml, hown, hts⟩ (c_X5_isNoPiece l k0) (cf_RX5_116 hts ⟨Nat.le_of_ble_eq_true rfl, Nat.le_of_ble_eq_true rfl⟩) pre_P rfl rfl hl.1 rfl (lv_room (Nat.le_of_ble_eq_true rfl)) dX5_piece_1 ⟨Nat.le_of_ble_eq_true rfl, Nat.le_of_ble_eq_true rfl⟩)) (fun r866 hr866 => ?_)
  subst hr866
  refine zb_eq (tgt := 9) hx hb dX5_piece_4 (by decide) (fun c_867 => ?_) (fun c_867 => ?_)
  · obtain ⟨j, hj, rfl⟩ := np_ok c_867
    refine lv_iload_n hx hb dX5_piece_9 rfl (lv_at hl 2 rfl) ?_
    rcases sw_cases2 0 3 w0 with hsw868 | ⟨j868, hg868, hj868, hsw868⟩
    · refine lv_tableOut (tgt := 98) hx hb dX5_piece_10 hsw868 (by decide) ?_
      refine lv_bipush (v := (-2)) hx hb dX5_piece_98 (by decide) ?_
      exact W.iret (v := (-2)) hx hb hr (fun t ht hW => ⟨(-2), rfl, by rw [p_piece, if_neg (c_867), (show (nI j).toNatClampNeg = j from nI_clamp (by omega)), if_neg (show ¬ w0 = 0 from sw_ne hsw868 (by decide)), if_neg (show ¬ w0 = 1 from sw_ne hsw868 (by decide)), if_neg (show ¬ w0 = 2 from sw_ne hsw868 (by decide)), if_neg (show ¬ w0 = 3 from sw_ne hsw868 (by decide))], ht⟩) (fun _ h => absurd h List.not_mem_nil) dX5_piece_100
    · rcases (show j868 = 0 ∨ j868 = 1 ∨ j868 = 2 ∨ j868 = 3 by omega) with rfl | rfl | rfl | rfl
      · refine lv_tableIn (off := 30) (tgt := 40) hx hb dX5_piece_10 (by rw [hsw868]; decide) (by rw [hsw868]; decide) (by rw [hsw868]; rfl) (by decide) ?_
        refine lv_aload_n hx hb dX5_piece_40 rfl (lv_at hl 0 rfl) ?_
        refine va_get (D := G) (ci := 5) (v := .ref qg) (C := RX5) (T := TX5) (N := 6) hx hb hts inlX5 hown hK.1 hP 0 rfl rfl 0 (by decide) (hts _ wd16) (fun _ h9 => h9) rfl dX5_piece_41 ?_
        refine va_getN (D := G) (ci := 1) (v := .ref qb) (C := RX1) (T := TX1) (N := 7) hx hb hts inlX1 hown hK.1 hP 1 rfl rfl 0 (by decide) (va_Nw.use rfl (hK.2 _ nw9)) (fun _ h9 => h9) rfl dX5_piece_44 ?_
        refine va_getN (D := G) (ci := 0) (v := .ref qp) (C := RX0) (T := TX0) (N := 5) hx hb hts inlX0 hown hK.1 hP 3 rfl rfl 0 (by decide) (va_Nw.use rfl (hK.2 _ nw3)) (fun _ h9 => h9) rfl dX5_piece_47 ?_
        refine lv_iload_n hx hb dX5_piece_50 rfl (lv_at hl 1 rfl) ?_
        refine za_ld hx hb hK.1 hP 4 0 rfl rfl j rfl (by omega) (by decide) dX5_piece_51 ?_
        exact W.iret (v := pr j) hx hb hr (fun t ht hW => ⟨pr j, rfl, by rw [p_piece, if_neg (c_867), (show (nI j).toNatClampNeg = j from nI_clamp (by omega)), if_pos (show w0 = 0 from hsw868)], ht⟩) (fun _ h => absurd h List.not_mem_nil) dX5_piece_52
      · refine lv_tableIn (off := 43) (tgt := 53) hx hb dX5_piece_10 (by rw [hsw868]; decide) (by rw [hsw868]; decide) (by rw [hsw868]; rfl) (by decide) ?_
        refine lv_aload_n hx hb dX5_piece_53 rfl (lv_at hl 0 rfl) ?_
        refine va_get (D := G) (ci := 5) (v := .ref qg) (C := RX5) (T := TX5) (N := 6) hx hb hts inlX5 hown hK.1 hP 0 rfl rfl 0 (by decide) (hts _ wd16) (fun _ h9 => h9) rfl dX5_piece_54 ?_
        refine va_getN (D := G) (ci := 1) (v := .ref qb) (C := RX1) (T := TX1) (N := 7) hx hb hts inlX1 hown hK.1 hP 1 rfl rfl 0 (by decide) (va_Nw.use rfl (hK.2 _ nw9)) (fun _ h9 => h9) rfl dX5_piece_57 ?_
        refine lv_iload_n hx hb dX5_piece_60 rfl (lv_at hl 1 rfl) ?_
        have hPc := hP.sub (ws' := [(qb, .inr (0, [.ref qp, .ref qs, .ref qr, .ref qf, .int fl])), (qp, .inl (cI, 12, .inl pr)), (qs, .inl (cI, 12, .inl sb)), (qr, .inl (cI, 4, .inl br)), (qf, .inl (cI, 4, .inl fe))]) [3, 4, 5, 6, 7] rfl
        have hDc := (hD0.sub (ws' := [(qb, .inr (0, [.ref qp, .ref qs, .ref qr, .ref qf, .int fl])), (qp, .inl (cI, 12, .inl pr)), (qs, .inl (cI, 12, .inl sb)), (qr, .inl (cI, 4, .inl br)), (qf, .inl (cI, 4, .inl fe))]) [3, 4, 5, 6, 7] (by decide) rfl).tt
        refine vp_callSi (va_Run.run (va_runVN (As := [.int (nI j)]) (rest := []) ⟨hx, hb, hml, hown, hts⟩ (c_X0_fieldOf l G cI cC cZ cG s.heap.size qb qp qs qr qf pr sb br fe fl j (by omega)) (cf_RX5_138 hts hK.2 ⟨Nat.le_of_ble_eq_true rfl, Nat.le_of_ble_eq_true rfl⟩) (pre_V hK hPc hDc (ci := 0) (q0 := 0) rfl rfl) rfl rfl hl.1 rfl (lv_room (Nat.le_of_ble_eq_true rfl)) dX5_piece_61 ⟨Nat.le_of_ble_eq_true rfl, Nat.le_of_ble_eq_true rfl⟩)) (fun r869 hr869 => ?_)
        subst hr869
        exact W.iret (v := rf (j / 3) (pr j)) hx hb hr (fun t ht hW => ⟨rf (j / 3) (pr j), rfl, by rw [p_piece, if_neg (c_867), (show (nI j).toNatClampNeg = j from nI_clamp (by omega)), if_neg (show ¬ w0 = 0 by rw [hsw868]; decide), if_pos (show w0 = 1 from hsw868)], ht⟩) (fun _ h => absurd h List.not_mem_nil) dX5_piece_64
      · refine lv_tableIn (off := 55) (tgt := 65) hx hb dX5_piece_10 (by rw [hsw868]; decide) (by rw [hsw868]; decide) (by rw [hsw868]; rfl) (by decide) ?_
        refine lv_aload_n hx hb dX5_piece_65 rfl (lv_at hl 0 rfl) ?_
        refine va_get (D := G) (ci := 5) (v := .ref qg) (C := RX5) (T := TX5) (N := 6) hx hb hts inlX5 hown hK.1 hP 0 rfl rfl 0 (by decide) (hts _ wd16) (fun _ h9 => h9) rfl dX5_piece_66 ?_
        refine va_getN (D := G) (ci := 1) (v := .ref qb) (C := RX1) (T := TX1) (N := 7) hx hb hts inlX1 hown hK.1 hP 1 rfl rfl 0 (by decide) (va_Nw.use rfl (hK.2 _ nw9)) (fun _ h9 => h9) rfl dX5_piece_69 ?_
        refine lv_iload_n hx hb dX5_piece_72 rfl (lv_at hl 1 rfl) ?_
        have hPc := hP.sub (ws' := [(qb, .inr (0, [.ref qp, .ref qs, .ref qr, .ref qf, .int fl])), (qp, .inl (cI, 12, .inl pr)), (qs, .inl (cI, 12, .inl sb)), (qr, .inl (cI, 4, .inl br)), (qf, .inl (cI, 4, .inl fe))]) [3, 4, 5, 6, 7] rfl
        have hDc := (hD0.sub (ws' := [(qb, .inr (0, [.ref qp, .ref qs, .ref qr, .ref qf, .int fl])), (qp, .inl (cI, 12, .inl pr)), (qs, .inl (cI, 12, .inl sb)), (qr, .inl (cI, 4, .inl br)), (qf, .inl (cI, 4, .inl fe))]) [3, 4, 5, 6, 7] (by decide) rfl).tt
        refine vp_callSi (va_Run.run (va_runVN (As := [.int (nI j)]) (rest := []) ⟨hx, hb, hml, hown, hts⟩ (c_X0_isInPair l G cI cC cZ cG s.heap.size qb qp qs qr qf pr sb br fe fl j (by omega)) (cf_RX5_141 hts hK.2 ⟨Nat.le_of_ble_eq_true rfl, Nat.le_of_ble_eq_true rfl⟩) (pre_V hK hPc hDc (ci := 0) (q0 := 0) rfl rfl) rfl rfl hl.1 rfl (lv_room (Nat.le_of_ble_eq_true rfl)) dX5_piece_73 ⟨Nat.le_of_ble_eq_true rfl, Nat.le_of_ble_eq_true rfl⟩)) (fun r870 hr870 => ?_)
        subst hr870
        refine zb_eq (tgt := 83) hx hb dX5_piece_76 (by decide) (fun c_871 => ?_) (fun c_871 => ?_)
        · refine lv_iconst (v := 0) hx hb dX5_piece_83 (by decide) ?_
          exact W.iret (v := 0) hx hb hr (fun t ht hW => ⟨0, rfl, by rw [p_piece, if_neg (c_867), (show (nI j).toNatClampNeg = j from nI_clamp (by omega)), if_neg (show ¬ w0 = 0 by rw [hsw868]; decide), if_neg (show ¬ w0 = 1 by rw [hsw868]; decide), if_pos (show w0 = 2 from hsw868), if_neg c_871], ht⟩) (fun _ h => absurd h List.not_mem_nil) dX5_piece_84
        · refine lv_iconst (v := 1) hx hb dX5_piece_79 (by decide) ?_
          refine lv_goto (tgt := 84) hx hb dX5_piece_80 (by decide) ?_
          exact W.iret (v := 1) hx hb hr (fun t ht hW => ⟨1, rfl, by rw [p_piece, if_neg (c_867), (show (nI j).toNatClampNeg = j from nI_clamp (by omega)), if_neg (show ¬ w0 = 0 by rw [hsw868]; decide), if_neg (show ¬ w0 = 1 by rw [hsw868]; decide), if_pos (show w0 = 2 from hsw868), if_pos c_871], ht⟩) (fun _ h => absurd h List.not_mem_nil) dX5_piece_84
      · refine lv_tableIn (off := 75) (tgt := 85) hx hb dX5_piece_10 (by rw [hsw868]; decide) (by rw [hsw868]; decide) (by rw [hsw868]; rfl) (by decide) ?_
        refine lv_aload_n hx hb dX5_piece_85 rfl (lv_at hl 0 rfl) ?_
        refine va_get (D := G) (ci := 5) (v := .ref qg) (C := RX5) (T := TX5) (N := 6) hx hb hts inlX5 hown hK.1 hP 0 rfl rfl 0 (by decide) (hts _ wd16) (fun _ h9 => h9) rfl dX5_piece_86 ?_
        refine va_getN (D := G) (ci := 1) (v := .ref qb) (C := RX1) (T := TX1) (N := 7) hx hb hts inlX1 hown hK.1 hP 1 rfl rfl 0 (by decide) (va_Nw.use rfl (hK.2 _ nw9)) (fun _ h9 => h9) rfl dX5_piece_89 ?_
        refine va_getN (D := G) (ci := 0) (v := .ref qs) (C := RX0) (T := TX0) (N := 5) hx hb hts inlX0 hown hK.1 hP 3 rfl rfl 1 (by decide) (va_Nw.use rfl (hK.2 _ nw4)) (fun _ h9 => h9) rfl dX5_piece_92 ?_
        refine lv_iload_n hx hb dX5_piece_95 rfl (lv_at hl 1 rfl) ?_
        refine za_ld hx hb hK.1 hP 5 0 rfl rfl j rfl (by omega) (by decide) dX5_piece_96 ?_
        exact W.iret (v := sb j) hx hb hr (fun t ht hW => ⟨sb j, rfl, by rw [p_piece, if_neg (c_867), (show (nI j).toNatClampNeg = j from nI_clamp (by omega)), if_neg (show ¬ w0 = 0 by rw [hsw868]; decide), if_neg (show ¬ w0 = 1 by rw [hsw868]; decide), if_neg (show ¬ w0 = 2 by rw [hsw868]; decide), if_pos (show w0 = 3 from hsw868)], ht⟩) (fun _ h => absurd h List.not_mem_nil) dX5_piece_97
  · refine lv_iconst (v := (-1)) hx hb dX5_piece_7 (by decide) ?_
    exact W.iret (v := (-1)) hx hb hr (fun t ht hW => ⟨(-1), rfl, by rw [p_piece, if_pos (c_867)], ht⟩) (fun _ h => absurd h List.not_mem_nil) dX5_piece_8

abbrev rm_X5_field : Room := { frames := 2, cells := 0, slots := 0, locals := 52 }
theorem cf_RX5_147 {R : Room} {s : State} {args : Array Value} (ht : ∀ w ∈ wsL_law, w.before args s = true) (hN : ∀ w ∈ nestW, va_Nw w s) (hR : rm_X0_piecesOn.frames + 1 ≤ R.frames ∧ 8 + (4 + 11) + rm_X0_piecesOn.locals ≤ R.locals) : va_CN R s args RX5 147 yX0_piecesOn "BridgedPachisi" cX0_piecesOn 4 (some .int) (.code yX0_piecesOn cX0_piecesOn 4 (some .int) :: wsL_law) rm_X0_piecesOn 0 0 1 ∧ (Cond.instanceMethod yX0_piecesOn).before args s = true ∧ (Cond.selects RX0 yX0_piecesOn yX0_piecesOn).before args s = true := ⟨cw_N 1 ht hN nw59 wd36 wd246 (by decide +kernel) rfl rfl hR, ht _ wd244, ht _ wd245⟩
theorem cf_RX5_150 {R : Room} {s : State} {args : Array Value} (ht : ∀ w ∈ wsL_law, w.before args s = true) (hN : ∀ w ∈ nestW, va_Nw w s) (hR : rm_X0_lowestOn.frames + 1 ≤ R.frames ∧ 8 + (3 + 11) + rm_X0_lowestOn.locals ≤ R.locals) : va_CN R s args RX5 150 yX0_lowestOn "BridgedPachisi" cX0_lowestOn 3 (some .int) (.code yX0_lowestOn cX0_lowestOn 3 (some .int) :: wsL_law) rm_X0_lowestOn 0 0 1 ∧ (Cond.instanceMethod yX0_lowestOn).before args s = true ∧ (Cond.selects RX0 yX0_lowestOn yX0_lowestOn).before args s = true := ⟨cw_N 1 ht hN nw60 wd36 wd445 (by decide +kernel) rfl rfl hR, ht _ wd443, ht _ wd444⟩
theorem cf_RX5_153 {R : Room} {s : State} {args : Array Value} (ht : ∀ w ∈ wsL_law, w.before args s = true) (hR : rm_X5_isSafe.frames + 1 ≤ R.frames ∧ 8 + (1 + 11) + rm_X5_isSafe.locals ≤ R.locals) : CallB R s args RX5 153 yX5_isSafe cX5_isSafe 1 (some .boolean) (.code yX5_isSafe cX5_isSafe 1 (some .boolean) :: wsL_law) rm_X5_isSafe 0 0 1 ∧ (Cond.static yX5_isSafe).before args s = true := ⟨cw_B 1 ht wd446 wd2 wd229 (by decide +kernel) rfl rfl hR, ht _ wd228⟩
theorem cf_RX5_156 {R : Room} {s : State} {args : Array Value} (ht : ∀ w ∈ wsL_law, w.before args s = true) (hN : ∀ w ∈ nestW, va_Nw w s) (hR : rm_X0_bridgeState.frames + 1 ≤ R.frames ∧ 8 + (3 + 11) + rm_X0_bridgeState.locals ≤ R.locals) : va_CN R s args RX5 156 yX0_bridgeState "BridgedPachisi" cX0_bridgeState 3 (some .int) (.code yX0_bridgeState cX0_bridgeState 3 (some .int) :: wsL_law) rm_X0_bridgeState 0 0 1 ∧ (Cond.instanceMethod yX0_bridgeState).before args s = true ∧ (Cond.selects RX0 yX0_bridgeState yX0_bridgeState).before args s = true := ⟨cw_N 1 ht hN nw61 wd36 wd449 (by decide +kernel) rfl rfl hR, ht _ wd447, ht _ wd448⟩
theorem cf_RX5_159 {R : Room} {s : State} {args : Array Value} (ht : ∀ w ∈ wsL_law, w.before args s = true) (hN : ∀ w ∈ nestW, va_Nw w s) (hR : rm_X1_turnsUntilMended.frames + 1 ≤ R.frames ∧ 8 + (3 + 11) + rm_X1_turnsUntilMended.locals ≤ R.locals) : va_CN R s args RX5 159 yX1_turnsUntilMended "BridgedPachisi" cX1_turnsUntilMended 3 (some .int) (.code yX1_turnsUntilMended cX1_turnsUntilMended 3 (some .int) :: wsL_law) rm_X1_turnsUntilMended 0 0 1 ∧ (Cond.instanceMethod yX1_turnsUntilMended).before args s = true ∧ (Cond.selects RX1 yX1_turnsUntilMended yX1_turnsUntilMended).before args s = true := ⟨cw_N 1 ht hN nw62 wd15 wd452 (by decide +kernel) rfl rfl hR, ht _ wd450, ht _ wd451⟩
set_option maxHeartbeats 1000000 in
set_option maxRecDepth 100000 in
theorem c_X5_field (l : Launch) (G : va_G) (cI cC cZ cG : ClassId) (sz : Nat) (qX wg qR qd qh qk : Nat) (qg qt qb qp qs qr qf : Nat) (pr sb br fe se : IA) (fl x : Int32) (pl : Nat) (th tu ca : Int32) (k0 w0 : Int32) : Met l yX5_field (.code yX5_field cX5_field 3 (some .int) :: wsL_law) rm_X5_field (va_Pc [.ref qX, .int k0, .int w0] (bw G cI cC cZ cG false sz [(qX, .inr (5, [.ref qg, .ref wg, .ref qR, .ref qd, .ref qh, .ref qk])), (qg, .inr (1, [.ref qb, .ref qt, .int x, .int (nI pl), .int th, .int tu, .int ca])), (qt, .inl (cI, 3, .inl se)), (qb, .inr (0, [.ref qp, .ref qs, .ref qr, .ref qf, .int fl])), (qp, .inl (cI, 12, .inl pr)), (qs, .inl (cI, 12, .inl sb)), (qr, .inl (cI, 4, .inl br)), (qf, .inl (cI, 4, .inl fe))])) (vp_Si (fun r => r = p_field k0 w0 pr br fe se tu)) 0 0 (fun _ => False) := by
  refine met_bw rfl (Nat.le_of_ble_eq_true rfl) ?_
  intro p e s m below meth c ls hx hb hr hml hown hts hlocks hin hsz hP hK hD0 hX0 hl
  have hown : s.vm.findClass RX5 = some m.cls := hown
  have hl : lv_has ls 3 [(0, .ref qX), (1, .int k0), (2, .int w0)] := hl
  refine lv_iload_n hx hb dX5_field_0 rfl (lv_at hl 1 rfl) ?_
  refine lv_if_lt (tgt := 10) hx hb dX5_field_1 (by decide) (fun c_872 => ?_) (fun c_872 => ?_)
  · refine lv_iconst (v := (-1)) hx hb dX5_field_10 (by decide) ?_
    exact W.iret (v := (-1)) hx hb hr (fun t ht hW => ⟨(-1), rfl, by rw [p_field, if_pos (Or.inl c_872)], ht⟩) (fun _ h => absurd h List.not_mem_nil) dX5_field_11
  · refine lv_iload_n hx hb dX5_field_4 rfl (lv_at hl 1 rfl) ?_
    refine lv_bipush (v := 32) hx hb dX5_field_5 (by decide) ?_
    refine lv_icmp_lt (tgt := 12) hx hb dX5_field_7 (by decide) (fun c_873 => ?_) (fun c_873 => ?_)
    · have hkj := rg_ok (c := 32) (by decide) (by decide) c_872 c_873
      obtain ⟨j, hj, rfl⟩ := hkj
      refine lv_iload_n hx hb dX5_field_12 rfl (lv_at hl 2 rfl) ?_
      rcases sw_cases2 0 4 w0 with hsw874 | ⟨j874, hg874, hj874, hsw874⟩
      · refine lv_tableOut (tgt := 106) hx hb dX5_field_13 hsw874 (by decide) ?_
        refine lv_bipush (v := (-2)) hx hb dX5_field_106 (by decide) ?_
        exact W.iret (v := (-2)) hx hb hr (fun t ht hW => ⟨(-2), rfl, by rw [p_field, if_neg (fun q => q.elim c_872 (fun r => r c_873)), if_neg (show ¬ w0 = 0 from sw_ne hsw874 (by decide)), if_neg (show ¬ w0 = 1 from sw_ne hsw874 (by decide)), if_neg (show ¬ w0 = 2 from sw_ne hsw874 (by decide)), if_neg (show ¬ w0 = 3 from sw_ne hsw874 (by decide)), if_neg (show ¬ w0 = 4 from sw_ne hsw874 (by decide))], ht⟩) (fun _ h => absurd h List.not_mem_nil) dX5_field_108
      · rcases (show j874 = 0 ∨ j874 = 1 ∨ j874 = 2 ∨ j874 = 3 ∨ j874 = 4 by omega) with rfl | rfl | rfl | rfl | rfl
        · refine lv_tableIn (off := 35) (tgt := 48) hx hb dX5_field_13 (by rw [hsw874]; decide) (by rw [hsw874]; decide) (by rw [hsw874]; rfl) (by decide) ?_
          refine lv_aload_n hx hb dX5_field_48 rfl (lv_at hl 0 rfl) ?_
          refine va_get (D := G) (ci := 5) (v := .ref qg) (C := RX5) (T := TX5) (N := 6) hx hb hts inlX5 hown hK.1 hP 0 rfl rfl 0 (by decide) (hts _ wd16) (fun _ h9 => h9) rfl dX5_field_49 ?_
          refine va_getN (D := G) (ci := 1) (v := .ref qb) (C := RX1) (T := TX1) (N := 7) hx hb hts inlX1 hown hK.1 hP 1 rfl rfl 0 (by decide) (va_Nw.use rfl (hK.2 _ nw9)) (fun _ h9 => h9) rfl dX5_field_52 ?_
          refine lv_iload_n hx hb dX5_field_55 rfl (lv_at hl 1 rfl) ?_
          have hPc := hP.sub (ws' := [(qb, .inr (0, [.ref qp, .ref qs, .ref qr, .ref qf, .int fl])), (qp, .inl (cI, 12, .inl pr)), (qs, .inl (cI, 12, .inl sb)), (qr, .inl (cI, 4, .inl br)), (qf, .inl (cI, 4, .inl fe))]) [3, 4, 5, 6, 7] rfl
          have hDc := (hD0.sub (ws' := [(qb, .inr (0, [.ref qp, .ref qs, .ref qr, .ref qf, .int fl])), (qp, .inl (cI, 12, .inl pr)), (qs, .inl (cI, 12, .inl sb)), (qr, .inl (cI, 4, .inl br)), (qf, .inl (cI, 4, .inl fe))]) [3, 4, 5, 6, 7] (by decide) rfl).tt
          refine vp_callSi (va_Run.run (va_runVN (As := [.int (nI j)]) (rest := []) ⟨hx, hb, hml, hown, hts⟩ (c_X0_piecesOn l G cI cC cZ cG s.heap.size qb qp qs qr qf pr sb br fe fl (nI j)) (cf_RX5_147 hts hK.2 ⟨Nat.le_of_ble_eq_true rfl, Nat.le_of_ble_eq_true rfl⟩) (pre_V hK hPc hDc (ci := 0) (q0 := 0) rfl rfl) rfl rfl hl.1 rfl (lv_room (Nat.le_of_ble_eq_true rfl)) dX5_field_56 ⟨Nat.le_of_ble_eq_true rfl, Nat.le_of_ble_eq_true rfl⟩)) (fun r875 hr875 => ?_)
          subst hr875
          have hf876 := cnt_le (pcP pr (nI j)) 12
          exact W.iret (v := nI (cnt (pcP pr (nI j)) 12)) hx hb hr (fun t ht hW => ⟨nI (cnt (pcP pr (nI j)) 12), rfl, by rw [p_field, if_neg (fun q => q.elim c_872 (fun r => r c_873)), if_pos (show w0 = 0 from hsw874)], ht⟩) (fun _ h => absurd h List.not_mem_nil) dX5_field_59
        · refine lv_tableIn (off := 47) (tgt := 60) hx hb dX5_field_13 (by rw [hsw874]; decide) (by rw [hsw874]; decide) (by rw [hsw874]; rfl) (by decide) ?_
          refine lv_aload_n hx hb dX5_field_60 rfl (lv_at hl 0 rfl) ?_
          refine va_get (D := G) (ci := 5) (v := .ref qg) (C := RX5) (T := TX5) (N := 6) hx hb hts inlX5 hown hK.1 hP 0 rfl rfl 0 (by decide) (hts _ wd16) (fun _ h9 => h9) rfl dX5_field_61 ?_
          refine va_getN (D := G) (ci := 1) (v := .ref qb) (C := RX1) (T := TX1) (N := 7) hx hb hts inlX1 hown hK.1 hP 1 rfl rfl 0 (by decide) (va_Nw.use rfl (hK.2 _ nw9)) (fun _ h9 => h9) rfl dX5_field_64 ?_
          refine lv_iload_n hx hb dX5_field_67 rfl (lv_at hl 1 rfl) ?_
          have hPc := hP.sub (ws' := [(qb, .inr (0, [.ref qp, .ref qs, .ref qr, .ref qf, .int fl])), (qp, .inl (cI, 12, .inl pr)), (qs, .inl (cI, 12, .inl sb)), (qr, .inl (cI, 4, .inl br)), (qf, .inl (cI, 4, .inl fe))]) [3, 4, 5, 6, 7] rfl
          have hDc := (hD0.sub (ws' := [(qb, .inr (0, [.ref qp, .ref qs, .ref qr, .ref qf, .int fl])), (qp, .inl (cI, 12, .inl pr)), (qs, .inl (cI, 12, .inl sb)), (qr, .inl (cI, 4, .inl br)), (qf, .inl (cI, 4, .inl fe))]) [3, 4, 5, 6, 7] (by decide) rfl).tt
          refine vp_callSi (va_Run.run (va_runVN (As := [.int (nI j)]) (rest := []) ⟨hx, hb, hml, hown, hts⟩ (c_X0_lowestOn l G cI cC cZ cG s.heap.size qb qp qs qr qf pr sb br fe fl (nI j)) (cf_RX5_150 hts hK.2 ⟨Nat.le_of_ble_eq_true rfl, Nat.le_of_ble_eq_true rfl⟩) (pre_V hK hPc hDc (ci := 0) (q0 := 0) rfl rfl) rfl rfl hl.1 rfl (lv_room (Nat.le_of_ble_eq_true rfl)) dX5_field_68 ⟨Nat.le_of_ble_eq_true rfl, Nat.le_of_ble_eq_true rfl⟩)) (fun r877 hr877 => ?_)
          subst hr877
          exact W.iret (v := low (pcP pr (nI j)) 0 12) hx hb hr (fun t ht hW => ⟨low (pcP pr (nI j)) 0 12, rfl, by rw [p_field, if_neg (fun q => q.elim c_872 (fun r => r c_873)), if_neg (show ¬ w0 = 0 by rw [hsw874]; decide), if_pos (show w0 = 1 from hsw874)], ht⟩) (fun _ h => absurd h List.not_mem_nil) dX5_field_71
        · refine lv_tableIn (off := 59) (tgt := 72) hx hb dX5_field_13 (by rw [hsw874]; decide) (by rw [hsw874]; decide) (by rw [hsw874]; rfl) (by decide) ?_
          refine lv_iload_n hx hb dX5_field_72 rfl (lv_at hl 1 rfl) ?_
          refine vp_callSi (va_Run.run (va_runS (As := [.int (nI j)]) (rest := []) ⟨hx, hb, hml, hown, hts⟩ (c_X5_isSafe l (nI j)) (cf_RX5_153 hts ⟨Nat.le_of_ble_eq_true rfl, Nat.le_of_ble_eq_true rfl⟩) pre_P rfl rfl hl.1 rfl (lv_room (Nat.le_of_ble_eq_true rfl)) dX5_field_73 ⟨Nat.le_of_ble_eq_true rfl, Nat.le_of_ble_eq_true rfl⟩)) (fun r878 hr878 => ?_)
          subst hr878
          refine zb_eq (tgt := 83) hx hb dX5_field_76 (by decide) (fun c_879 => ?_) (fun c_879 => ?_)
          · refine lv_iconst (v := 0) hx hb dX5_field_83 (by decide) ?_
            exact W.iret (v := 0) hx hb hr (fun t ht hW => ⟨0, rfl, by rw [p_field, if_neg (fun q => q.elim c_872 (fun r => r c_873)), if_neg (show ¬ w0 = 0 by rw [hsw874]; decide), if_neg (show ¬ w0 = 1 by rw [hsw874]; decide), if_pos (show w0 = 2 from hsw874), if_neg c_879], ht⟩) (fun _ h => absurd h List.not_mem_nil) dX5_field_84
          · refine lv_iconst (v := 1) hx hb dX5_field_79 (by decide) ?_
            refine lv_goto (tgt := 84) hx hb dX5_field_80 (by decide) ?_
            exact W.iret (v := 1) hx hb hr (fun t ht hW => ⟨1, rfl, by rw [p_field, if_neg (fun q => q.elim c_872 (fun r => r c_873)), if_neg (show ¬ w0 = 0 by rw [hsw874]; decide), if_neg (show ¬ w0 = 1 by rw [hsw874]; decide), if_pos (show w0 = 2 from hsw874), if_pos c_879], ht⟩) (fun _ h => absurd h List.not_mem_nil) dX5_field_84
        · refine lv_tableIn (off := 72) (tgt := 85) hx hb dX5_field_13 (by rw [hsw874]; decide) (by rw [hsw874]; decide) (by rw [hsw874]; rfl) (by decide) ?_
          refine lv_aload_n hx hb dX5_field_85 rfl (lv_at hl 0 rfl) ?_
          refine va_get (D := G) (ci := 5) (v := .ref qg) (C := RX5) (T := TX5) (N := 6) hx hb hts inlX5 hown hK.1 hP 0 rfl rfl 0 (by decide) (hts _ wd16) (fun _ h9 => h9) rfl dX5_field_86 ?_
          refine va_getN (D := G) (ci := 1) (v := .ref qb) (C := RX1) (T := TX1) (N := 7) hx hb hts inlX1 hown hK.1 hP 1 rfl rfl 0 (by decide) (va_Nw.use rfl (hK.2 _ nw9)) (fun _ h9 => h9) rfl dX5_field_89 ?_
          refine lv_iload_n hx hb dX5_field_92 rfl (lv_at hl 1 rfl) ?_
          have hPc := hP.sub (ws' := [(qb, .inr (0, [.ref qp, .ref qs, .ref qr, .ref qf, .int fl])), (qp, .inl (cI, 12, .inl pr)), (qs, .inl (cI, 12, .inl sb)), (qr, .inl (cI, 4, .inl br)), (qf, .inl (cI, 4, .inl fe))]) [3, 4, 5, 6, 7] rfl
          have hDc := (hD0.sub (ws' := [(qb, .inr (0, [.ref qp, .ref qs, .ref qr, .ref qf, .int fl])), (qp, .inl (cI, 12, .inl pr)), (qs, .inl (cI, 12, .inl sb)), (qr, .inl (cI, 4, .inl br)), (qf, .inl (cI, 4, .inl fe))]) [3, 4, 5, 6, 7] (by decide) rfl).tt
          refine vp_callSi (va_Run.run (va_runVN (As := [.int (nI j)]) (rest := []) ⟨hx, hb, hml, hown, hts⟩ (c_X0_bridgeState l G cI cC cZ cG s.heap.size qb qp qs qr qf pr sb br fe fl (nI j)) (cf_RX5_156 hts hK.2 ⟨Nat.le_of_ble_eq_true rfl, Nat.le_of_ble_eq_true rfl⟩) (pre_V hK hPc hDc (ci := 0) (q0 := 0) rfl rfl) rfl rfl hl.1 rfl (lv_room (Nat.le_of_ble_eq_true rfl)) dX5_field_93 ⟨Nat.le_of_ble_eq_true rfl, Nat.le_of_ble_eq_true rfl⟩)) (fun r880 hr880 => ?_)
          subst hr880
          exact W.iret (v := bs br (nI j)) hx hb hr (fun t ht hW => ⟨bs br (nI j), rfl, by rw [p_field, if_neg (fun q => q.elim c_872 (fun r => r c_873)), if_neg (show ¬ w0 = 0 by rw [hsw874]; decide), if_neg (show ¬ w0 = 1 by rw [hsw874]; decide), if_neg (show ¬ w0 = 2 by rw [hsw874]; decide), if_pos (show w0 = 3 from hsw874)], ht⟩) (fun _ h => absurd h List.not_mem_nil) dX5_field_96
        · refine lv_tableIn (off := 84) (tgt := 97) hx hb dX5_field_13 (by rw [hsw874]; decide) (by rw [hsw874]; decide) (by rw [hsw874]; rfl) (by decide) ?_
          refine lv_aload_n hx hb dX5_field_97 rfl (lv_at hl 0 rfl) ?_
          refine va_get (D := G) (ci := 5) (v := .ref qg) (C := RX5) (T := TX5) (N := 6) hx hb hts inlX5 hown hK.1 hP 0 rfl rfl 0 (by decide) (hts _ wd16) (fun _ h9 => h9) rfl dX5_field_98 ?_
          refine lv_iload_n hx hb dX5_field_101 rfl (lv_at hl 1 rfl) ?_
          have hPc := hP.sub (ws' := [(qg, .inr (1, [.ref qb, .ref qt, .int x, .int (nI pl), .int th, .int tu, .int ca])), (qt, .inl (cI, 3, .inl se)), (qb, .inr (0, [.ref qp, .ref qs, .ref qr, .ref qf, .int fl])), (qp, .inl (cI, 12, .inl pr)), (qs, .inl (cI, 12, .inl sb)), (qr, .inl (cI, 4, .inl br)), (qf, .inl (cI, 4, .inl fe))]) [1, 2, 3, 4, 5, 6, 7] rfl
          have hDc := (hD0.sub (ws' := [(qg, .inr (1, [.ref qb, .ref qt, .int x, .int (nI pl), .int th, .int tu, .int ca])), (qt, .inl (cI, 3, .inl se)), (qb, .inr (0, [.ref qp, .ref qs, .ref qr, .ref qf, .int fl])), (qp, .inl (cI, 12, .inl pr)), (qs, .inl (cI, 12, .inl sb)), (qr, .inl (cI, 4, .inl br)), (qf, .inl (cI, 4, .inl fe))]) [1, 2, 3, 4, 5, 6, 7] (by decide) rfl).tt
          refine vp_callSi (va_Run.run (va_runVN (As := [.int (nI j)]) (rest := []) ⟨hx, hb, hml, hown, hts⟩ (c_X1_turnsUntilMended l G cI cC cZ cG s.heap.size qg qt qb qp qs qr qf pr sb br fe se fl x pl th tu ca (nI j)) (cf_RX5_159 hts hK.2 ⟨Nat.le_of_ble_eq_true rfl, Nat.le_of_ble_eq_true rfl⟩) (pre_V hK hPc hDc (ci := 1) (q0 := 0) rfl rfl) rfl rfl hl.1 rfl (lv_room (Nat.le_of_ble_eq_true rfl)) dX5_field_102 ⟨Nat.le_of_ble_eq_true rfl, Nat.le_of_ble_eq_true rfl⟩)) (fun r881 hr881 => ?_)
          subst hr881
          exact W.iret (v := tum br fe se tu (nI j)) hx hb hr (fun t ht hW => ⟨tum br fe se tu (nI j), rfl, by rw [p_field, if_neg (fun q => q.elim c_872 (fun r => r c_873)), if_neg (show ¬ w0 = 0 by rw [hsw874]; decide), if_neg (show ¬ w0 = 1 by rw [hsw874]; decide), if_neg (show ¬ w0 = 2 by rw [hsw874]; decide), if_neg (show ¬ w0 = 3 by rw [hsw874]; decide), if_pos (show w0 = 4 from hsw874)], ht⟩) (fun _ h => absurd h List.not_mem_nil) dX5_field_105
    · refine lv_iconst (v := (-1)) hx hb dX5_field_10 (by decide) ?_
      exact W.iret (v := (-1)) hx hb hr (fun t ht hW => ⟨(-1), rfl, by rw [p_field, if_pos (Or.inr c_873)], ht⟩) (fun _ h => absurd h List.not_mem_nil) dX5_field_11

abbrev rm_X5_why : Room := { frames := 4, cells := 0, slots := 0, locals := 96 }
theorem cf_RX5_78 {R : Room} {s : State} {args : Array Value} (ht : ∀ w ∈ wsL_law, w.before args s = true) (hN : ∀ w ∈ nestW, va_Nw w s) (hR : rm_X1_reason.frames + 1 ≤ R.frames ∧ 8 + (6 + 11) + rm_X1_reason.locals ≤ R.locals) : va_CN R s args RX5 78 yX1_reason "BridgedPachisi" cX1_reason 6 (some .int) (.code yX1_reason cX1_reason 6 (some .int) :: wsL_law) rm_X1_reason 0 0 2 ∧ (Cond.instanceMethod yX1_reason).before args s = true ∧ (Cond.selects RX1 yX1_reason yX1_reason).before args s = true := ⟨cw_N 2 ht hN nw31 wd15 wd202 (by decide +kernel) rfl rfl hR, ht _ wd200, ht _ wd201⟩
set_option maxHeartbeats 1000000 in
set_option maxRecDepth 100000 in
theorem c_X5_why (l : Launch) (G : va_G) (cI cC cZ cG : ClassId) (sz : Nat) (qX wg qR qd qh qk : Nat) (qg qt qb qp qs qr qf : Nat) (pr sb br fe se : IA) (fl x : Int32) (pl : Nat) (th tu ca : Int32) (k0 c0 : Int32) (hpr : ∀ k, k < 12 → okv (pr k)) : Met l yX5_why (.code yX5_why cX5_why 3 (some .int) :: wsL_law) rm_X5_why (va_Pc [.ref qX, .int k0, .int c0] (bw G cI cC cZ cG false sz [(qX, .inr (5, [.ref qg, .ref wg, .ref qR, .ref qd, .ref qh, .ref qk])), (qg, .inr (1, [.ref qb, .ref qt, .int x, .int (nI pl), .int th, .int tu, .int ca])), (qt, .inl (cI, 3, .inl se)), (qb, .inr (0, [.ref qp, .ref qs, .ref qr, .ref qf, .int fl])), (qp, .inl (cI, 12, .inl pr)), (qs, .inl (cI, 12, .inl sb)), (qr, .inl (cI, 4, .inl br)), (qf, .inl (cI, 4, .inl fe))])) (vp_Si (fun r => r = p_why k0 c0 pr br se)) 0 0 (fun _ => False) := by
  refine met_bw rfl (Nat.le_of_ble_eq_true rfl) ?_
  intro p e s m below meth c ls hx hb hr hml hown hts hlocks hin hsz hP hK hD0 hX0 hl
  have hown : s.vm.findClass RX5 = some m.cls := hown
  have hl : lv_has ls 3 [(0, .ref qX), (1, .int k0), (2, .int c0)] := hl
  refine lv_iload_n hx hb dX5_why_0 rfl (lv_at hl 1 rfl) ?_
  refine vp_callSi (va_Run.run (va_runS (As := [.int k0]) (rest := []) ⟨hx, hb, hml, hown, hts⟩ (c_X5_isNoPiece l k0) (cf_RX5_116 hts ⟨Nat.le_of_ble_eq_true rfl, Nat.le_of_ble_eq_true rfl⟩) pre_P rfl rfl hl.1 rfl (lv_room (Nat.le_of_ble_eq_true rfl)) dX5_why_1 ⟨Nat.le_of_ble_eq_true rfl, Nat.le_of_ble_eq_true rfl⟩)) (fun r882 hr882 => ?_)
  subst hr882
  refine zb_eq (tgt := 9) hx hb dX5_why_4 (by decide) (fun c_883 => ?_) (fun c_883 => ?_)
  · obtain ⟨j, hj, rfl⟩ := np_ok c_883
    refine lv_iload_n hx hb dX5_why_9 rfl (lv_at hl 2 rfl) ?_
    refine lv_iconst (v := 1) hx hb dX5_why_10 (by decide) ?_
    refine lv_icmp_lt (tgt := 20) hx hb dX5_why_11 (by decide) (fun c_884 => ?_) (fun c_884 => ?_)
    · refine lv_bipush (v := (-2)) hx hb dX5_why_20 (by decide) ?_
      exact W.iret (v := (-2)) hx hb hr (fun t ht hW => ⟨(-2), rfl, by rw [p_why, if_neg c_883, if_pos (Or.inl c_884)], ht⟩) (fun _ h => absurd h List.not_mem_nil) dX5_why_22
    · refine lv_iload_n hx hb dX5_why_14 rfl (lv_at hl 2 rfl) ?_
      refine lv_bipush (v := 6) hx hb dX5_why_15 (by decide) ?_
      refine lv_icmp_le (tgt := 23) hx hb dX5_why_17 (by decide) (fun c_885 => ?_) (fun c_885 => ?_)
      · obtain ⟨j2, hj2, hj3, rfl⟩ := rg_1 (c := 6) (by decide) (by decide) c_884 c_885
        refine lv_aload_n hx hb dX5_why_23 rfl (lv_at hl 0 rfl) ?_
        refine va_get (D := G) (ci := 5) (v := .ref qg) (C := RX5) (T := TX5) (N := 6) hx hb hts inlX5 hown hK.1 hP 0 rfl rfl 0 (by decide) (hts _ wd16) (fun _ h9 => h9) rfl dX5_why_24 ?_
        refine lv_iload_n hx hb dX5_why_27 rfl (lv_at hl 1 rfl) ?_
        refine lv_iload_n hx hb dX5_why_28 rfl (lv_at hl 2 rfl) ?_
        have hPc := hP.sub (ws' := [(qg, .inr (1, [.ref qb, .ref qt, .int x, .int (nI pl), .int th, .int tu, .int ca])), (qt, .inl (cI, 3, .inl se)), (qb, .inr (0, [.ref qp, .ref qs, .ref qr, .ref qf, .int fl])), (qp, .inl (cI, 12, .inl pr)), (qs, .inl (cI, 12, .inl sb)), (qr, .inl (cI, 4, .inl br)), (qf, .inl (cI, 4, .inl fe))]) [1, 2, 3, 4, 5, 6, 7] rfl
        have hDc := (hD0.sub (ws' := [(qg, .inr (1, [.ref qb, .ref qt, .int x, .int (nI pl), .int th, .int tu, .int ca])), (qt, .inl (cI, 3, .inl se)), (qb, .inr (0, [.ref qp, .ref qs, .ref qr, .ref qf, .int fl])), (qp, .inl (cI, 12, .inl pr)), (qs, .inl (cI, 12, .inl sb)), (qr, .inl (cI, 4, .inl br)), (qf, .inl (cI, 4, .inl fe))]) [1, 2, 3, 4, 5, 6, 7] (by decide) rfl).tt
        refine vp_callSi (va_Run.run (va_runVN (As := [.int (nI j), .int (nI j2)]) (rest := []) ⟨hx, hb, hml, hown, hts⟩ (c_X1_reason l G cI cC cZ cG s.heap.size qg qt qb qp qs qr qf pr sb br fe se fl x pl th tu ca j j2 hpr (by omega) hj3) (cf_RX5_78 hts hK.2 ⟨Nat.le_of_ble_eq_true rfl, Nat.le_of_ble_eq_true rfl⟩) (pre_V hK hPc hDc (ci := 1) (q0 := 0) rfl rfl) rfl rfl hl.1 rfl (lv_room (Nat.le_of_ble_eq_true rfl)) dX5_why_29 ⟨Nat.le_of_ble_eq_true rfl, Nat.le_of_ble_eq_true rfl⟩)) (fun r886 hr886 => ?_)
        subst hr886
        exact W.iret (v := rs pr br se j j2) hx hb hr (fun t ht hW => ⟨rs pr br se j j2, rfl, by rw [p_why, if_neg c_883, if_neg (fun q => q.elim c_884 (fun r => r c_885)), (show (nI j).toNatClampNeg = j from nI_clamp (by omega)), (show (nI j2).toNatClampNeg = j2 from nI_clamp (by omega))], ht⟩) (fun _ h => absurd h List.not_mem_nil) dX5_why_32
      · refine lv_bipush (v := (-2)) hx hb dX5_why_20 (by decide) ?_
        exact W.iret (v := (-2)) hx hb hr (fun t ht hW => ⟨(-2), rfl, by rw [p_why, if_neg c_883, if_pos (Or.inr c_885)], ht⟩) (fun _ h => absurd h List.not_mem_nil) dX5_why_22
  · refine lv_iconst (v := (-1)) hx hb dX5_why_7 (by decide) ?_
    exact W.iret (v := (-1)) hx hb hr (fun t ht hW => ⟨(-1), rfl, by rw [p_why, if_pos c_883], ht⟩) (fun _ h => absurd h List.not_mem_nil) dX5_why_8

abbrev rm_X5_best : Room := { frames := 5, cells := 0, slots := 0, locals := 120 }
theorem cf_RX5_66 {R : Room} {s : State} {args : Array Value} (ht : ∀ w ∈ wsL_law, w.before args s = true) (hN : ∀ w ∈ nestW, va_Nw w s) (hR : rm_X1_hasThrow.frames + 1 ≤ R.frames ∧ 8 + (1 + 11) + rm_X1_hasThrow.locals ≤ R.locals) : va_CN R s args RX5 66 yX1_hasThrow "BridgedPachisi" cX1_hasThrow 1 (some .boolean) (.code yX1_hasThrow cX1_hasThrow 1 (some .boolean) :: wsL_law) rm_X1_hasThrow 0 0 0 ∧ (Cond.instanceMethod yX1_hasThrow).before args s = true ∧ (Cond.selects RX1 yX1_hasThrow yX1_hasThrow).before args s = true := ⟨cw_N 0 ht hN nw27 wd15 wd148 (by decide +kernel) rfl rfl hR, ht _ wd146, ht _ wd147⟩
theorem cf_RX5_183 {R : Room} {s : State} {args : Array Value} (ht : ∀ w ∈ wsL_law, w.before args s = true) (hN : ∀ w ∈ nestW, va_Nw w s) (hR : rm_X1_bestPiece.frames + 1 ≤ R.frames ∧ 8 + (5 + 11) + rm_X1_bestPiece.locals ≤ R.locals) : va_CN R s args RX5 183 yX1_bestPiece "BridgedPachisi" cX1_bestPiece 5 (some .int) (.code yX1_bestPiece cX1_bestPiece 5 (some .int) :: wsL_law) rm_X1_bestPiece 0 0 0 ∧ (Cond.instanceMethod yX1_bestPiece).before args s = true ∧ (Cond.selects RX1 yX1_bestPiece yX1_bestPiece).before args s = true := ⟨cw_N 0 ht hN nw68 wd15 wd348 (by decide +kernel) rfl rfl hR, ht _ wd346, ht _ wd347⟩
set_option maxHeartbeats 1000000 in
set_option maxRecDepth 100000 in
theorem c_X5_best (l : Launch) (G : va_G) (cI cC cZ cG : ClassId) (sz : Nat) (qX wg qR qd qh qk : Nat) (qg qt qb qp qs qr qf : Nat) (pr sb br fe se : IA) (fl x : Int32) (pl : Nat) (th tu ca : Int32) (hpr : ∀ k, k < 12 → okv (pr k)) (hx0 : ¬ x < 0) (hpl : pl < 4) (hth : okc th) : Met l yX5_best (.code yX5_best cX5_best 2 (some .int) :: wsL_law) rm_X5_best (va_Pc [.ref qX] (bw G cI cC cZ cG false sz [(qX, .inr (5, [.ref qg, .ref wg, .ref qR, .ref qd, .ref qh, .ref qk])), (qg, .inr (1, [.ref qb, .ref qt, .int x, .int (nI pl), .int th, .int tu, .int ca])), (qt, .inl (cI, 3, .inl se)), (qb, .inr (0, [.ref qp, .ref qs, .ref qr, .ref qf, .int fl])), (qp, .inl (cI, 12, .inl pr)), (qs, .inl (cI, 12, .inl sb)), (qr, .inl (cI, 4, .inl br)), (qf, .inl (cI, 4, .inl fe))])) (vp_Si (fun r => r = p_best pr br se pl th)) 0 0 (fun _ => False) := by
  refine met_bw rfl (Nat.le_of_ble_eq_true rfl) ?_
  intro p e s m below meth c ls hx hb hr hml hown hts hlocks hin hsz hP hK hD0 hX0 hl
  have hown : s.vm.findClass RX5 = some m.cls := hown
  have hl : lv_has ls 2 [(0, .ref qX)] := hl
  refine lv_aload_n hx hb dX5_best_0 rfl (lv_at hl 0 rfl) ?_
  refine va_get (D := G) (ci := 5) (v := .ref qg) (C := RX5) (T := TX5) (N := 6) hx hb hts inlX5 hown hK.1 hP 0 rfl rfl 0 (by decide) (hts _ wd16) (fun _ h9 => h9) rfl dX5_best_1 ?_
  have hPc := hP.sub (ws' := [(qg, .inr (1, [.ref qb, .ref qt, .int x, .int (nI pl), .int th, .int tu, .int ca])), (qt, .inl (cI, 3, .inl se)), (qb, .inr (0, [.ref qp, .ref qs, .ref qr, .ref qf, .int fl])), (qp, .inl (cI, 12, .inl pr)), (qs, .inl (cI, 12, .inl sb)), (qr, .inl (cI, 4, .inl br)), (qf, .inl (cI, 4, .inl fe))]) [1, 2, 3, 4, 5, 6, 7] rfl
  have hDc := (hD0.sub (ws' := [(qg, .inr (1, [.ref qb, .ref qt, .int x, .int (nI pl), .int th, .int tu, .int ca])), (qt, .inl (cI, 3, .inl se)), (qb, .inr (0, [.ref qp, .ref qs, .ref qr, .ref qf, .int fl])), (qp, .inl (cI, 12, .inl pr)), (qs, .inl (cI, 12, .inl sb)), (qr, .inl (cI, 4, .inl br)), (qf, .inl (cI, 4, .inl fe))]) [1, 2, 3, 4, 5, 6, 7] (by decide) rfl).tt
  refine vp_callSi (va_Run.run (va_runVN (As := []) (rest := []) ⟨hx, hb, hml, hown, hts⟩ (c_X1_hasThrow l G cI cC cZ cG s.heap.size qg qt qb qp qs qr qf pr sb br fe se fl x pl th tu ca) (cf_RX5_66 hts hK.2 ⟨Nat.le_of_ble_eq_true rfl, Nat.le_of_ble_eq_true rfl⟩) (pre_V hK hPc hDc (ci := 1) (q0 := 0) rfl rfl) rfl rfl hl.1 rfl (lv_room (Nat.le_of_ble_eq_true rfl)) dX5_best_4 ⟨Nat.le_of_ble_eq_true rfl, Nat.le_of_ble_eq_true rfl⟩)) (fun r887 hr887 => ?_)
  subst hr887
  refine zb_ne (tgt := 13) hx hb dX5_best_7 (by decide) (fun c_888 => ?_) (fun c_888 => ?_)
  · obtain ⟨cn, hc1, hc, rfl⟩ := okc_ne hth c_888
    refine lv_aload_n hx hb dX5_best_13 rfl (lv_at hl 0 rfl) ?_
    refine va_get (D := G) (ci := 5) (v := .ref qg) (C := RX5) (T := TX5) (N := 6) hx hb hts inlX5 hown hK.1 hP 0 rfl rfl 0 (by decide) (hts _ wd16) (fun _ h9 => h9) rfl dX5_best_14 ?_
    have hPc := hP.sub (ws' := [(qg, .inr (1, [.ref qb, .ref qt, .int x, .int (nI pl), .int (nI cn), .int tu, .int ca])), (qt, .inl (cI, 3, .inl se)), (qb, .inr (0, [.ref qp, .ref qs, .ref qr, .ref qf, .int fl])), (qp, .inl (cI, 12, .inl pr)), (qs, .inl (cI, 12, .inl sb)), (qr, .inl (cI, 4, .inl br)), (qf, .inl (cI, 4, .inl fe))]) [1, 2, 3, 4, 5, 6, 7] rfl
    have hDc := (hD0.sub (ws' := [(qg, .inr (1, [.ref qb, .ref qt, .int x, .int (nI pl), .int (nI cn), .int tu, .int ca])), (qt, .inl (cI, 3, .inl se)), (qb, .inr (0, [.ref qp, .ref qs, .ref qr, .ref qf, .int fl])), (qp, .inl (cI, 12, .inl pr)), (qs, .inl (cI, 12, .inl sb)), (qr, .inl (cI, 4, .inl br)), (qf, .inl (cI, 4, .inl fe))]) [1, 2, 3, 4, 5, 6, 7] (by decide) rfl).tt
    refine vp_callSi (va_Run.run (va_runVN (As := []) (rest := []) ⟨hx, hb, hml, hown, hts⟩ (c_X1_bestPiece l G cI cC cZ cG s.heap.size qg qt qb qp qs qr qf pr sb br fe se fl x pl cn tu ca hpr hc hpl) (cf_RX5_183 hts hK.2 ⟨Nat.le_of_ble_eq_true rfl, Nat.le_of_ble_eq_true rfl⟩) (pre_V hK hPc hDc (ci := 1) (q0 := 0) rfl rfl) rfl rfl hl.1 rfl (lv_room (Nat.le_of_ble_eq_true rfl)) dX5_best_17 ⟨Nat.le_of_ble_eq_true rfl, Nat.le_of_ble_eq_true rfl⟩)) (fun r889 hr889 => ?_)
    subst hr889
    refine lv_istore_n (lv' := [(1, .int (bp pr br se pl cn)), (0, .ref qX)]) hx hb dX5_best_20 rfl hl (by decide) rfl (fun ls hl => ?_)
    refine lv_iload_n hx hb dX5_best_21 rfl (lv_at hl 0 rfl) ?_
    refine lv_bipush (v := (-6)) hx hb dX5_best_22 (by decide) ?_
    refine lv_icmp_ne (tgt := 32) hx hb dX5_best_24 (by decide) (fun c_890 => ?_) (fun c_890 => ?_)
    · refine lv_iload_n hx hb dX5_best_32 rfl (lv_at hl 0 rfl) ?_
      refine lv_iconst (v := 3) hx hb dX5_best_33 (by decide) ?_
      refine zi_jr hx hb dX5_best_34 (by decide) ?_
      exact W.iret (v := jr (bp pr br se pl cn) 3) hx hb hr (fun t ht hW => ⟨jr (bp pr br se pl cn) 3, rfl, by rw [p_best, if_neg c_888, (show (nI cn).toNatClampNeg = cn from nI_clamp (by omega)), if_neg c_890], ht⟩) (fun _ h => absurd h List.not_mem_nil) dX5_best_35
    · refine lv_bipush (v := (-6)) hx hb dX5_best_27 (by decide) ?_
      refine lv_goto (tgt := 35) hx hb dX5_best_29 (by decide) ?_
      exact W.iret (v := (-6)) hx hb hr (fun t ht hW => ⟨(-6), rfl, by rw [p_best, if_neg c_888, (show (nI cn).toNatClampNeg = cn from nI_clamp (by omega)), if_pos c_890], ht⟩) (fun _ h => absurd h List.not_mem_nil) dX5_best_35
  · refine lv_bipush (v := (-5)) hx hb dX5_best_10 (by decide) ?_
    exact W.iret (v := (-5)) hx hb hr (fun t ht hW => ⟨(-5), rfl, by rw [p_best, if_pos (Decidable.not_not.mp c_888)], ht⟩) (fun _ h => absurd h List.not_mem_nil) dX5_best_12

abbrev rm_X5_nextCast : Room := { frames := 1, cells := 0, slots := 0, locals := 20 }
theorem cf_RX5_196 {R : Room} {s : State} {args : Array Value} (ht : ∀ w ∈ wsL_law, w.before args s = true) (hR : rm_X5_castOf.frames + 1 ≤ R.frames ∧ 8 + (1 + 11) + rm_X5_castOf.locals ≤ R.locals) : CallB R s args RX5 196 yX5_castOf cX5_castOf 1 (some .int) (.code yX5_castOf cX5_castOf 1 (some .int) :: wsL_law) rm_X5_castOf 0 0 1 ∧ (Cond.static yX5_castOf).before args s = true := ⟨cw_B 1 ht wd534 wd2 wd158 (by decide +kernel) rfl rfl hR, ht _ wd157⟩
theorem cf_RX5_193 {R : Room} {s : State} {args : Array Value} (ht : ∀ w ∈ wsL_law, w.before args s = true) (hR : rm_X5_nextX.frames + 1 ≤ R.frames ∧ 8 + (1 + 11) + rm_X5_nextX.locals ≤ R.locals) : CallB R s args RX5 193 yX5_nextX cX5_nextX 1 (some .int) (.code yX5_nextX cX5_nextX 1 (some .int) :: wsL_law) rm_X5_nextX 0 0 1 ∧ (Cond.static yX5_nextX).before args s = true := ⟨cw_B 1 ht wd533 wd2 wd153 (by decide +kernel) rfl rfl hR, ht _ wd152⟩
set_option maxHeartbeats 1000000 in
set_option maxRecDepth 100000 in
theorem c_X5_nextCast (l : Launch) (G : va_G) (cI cC cZ cG : ClassId) (sz : Nat) (qX wg qR qd qh qk : Nat) (qg qt qb qp qs qr qf : Nat) (pr sb br fe se : IA) (fl x : Int32) (pl : Nat) (th tu ca : Int32) (n0 : Int32) : Met l yX5_nextCast (.code yX5_nextCast cX5_nextCast 4 (some .int) :: wsL_law) rm_X5_nextCast (va_Pc [.ref qX, .int n0] (bw G cI cC cZ cG false sz [(qX, .inr (5, [.ref qg, .ref wg, .ref qR, .ref qd, .ref qh, .ref qk])), (qg, .inr (1, [.ref qb, .ref qt, .int x, .int (nI pl), .int th, .int tu, .int ca])), (qt, .inl (cI, 3, .inl se)), (qb, .inr (0, [.ref qp, .ref qs, .ref qr, .ref qf, .int fl])), (qp, .inl (cI, 12, .inl pr)), (qs, .inl (cI, 12, .inl sb)), (qr, .inl (cI, 4, .inl br)), (qf, .inl (cI, 4, .inl fe))])) (vp_Si (fun r => r = p_nextCast n0 x)) 0 0 (fun _ => False) := by
  refine met_bw rfl (Nat.le_of_ble_eq_true rfl) ?_
  intro p e s m below meth c ls hx hb hr hml hown hts hlocks hin hsz hP hK hD0 hX0 hl
  have hown : s.vm.findClass RX5 = some m.cls := hown
  have hl : lv_has ls 4 [(0, .ref qX), (1, .int n0)] := hl
  generalize hQ : MQ below (vp_Si (fun r => r = p_nextCast n0 x)) ([.ref qX, .int n0] : List Value).toArray s 0 0 (fun _ => False) = Q
  generalize hag : ([.ref qX, .int n0] : List Value).toArray = ag at hts hQ ⊢
  refine lv_iload_n hx hb dX5_nextCast_0 rfl (lv_at hl 1 rfl) ?_
  refine lv_if_lt (tgt := 10) hx hb dX5_nextCast_1 (by decide) (fun c_891 => ?_) (fun c_891 => ?_)
  · refine lv_bipush (v := (-2)) hx hb dX5_nextCast_10 (by decide) ?_
    subst hQ
    exact W.iret (v := (-2)) hx hb hr (fun t ht hW => ⟨(-2), rfl, by rw [p_nextCast, if_pos (Or.inl c_891)], ht⟩) (fun _ h => absurd h List.not_mem_nil) dX5_nextCast_12
  · refine lv_iload_n hx hb dX5_nextCast_4 rfl (lv_at hl 1 rfl) ?_
    refine lv_bipush (v := 99) hx hb dX5_nextCast_5 (by decide) ?_
    refine lv_icmp_le (tgt := 13) hx hb dX5_nextCast_7 (by decide) (fun c_892 => ?_) (fun c_892 => ?_)
    · obtain ⟨j, hj, rfl⟩ := rg_le (c := 99) (by decide) (by decide) c_891 c_892
      refine lv_aload_n hx hb dX5_nextCast_13 rfl (lv_at hl 0 rfl) ?_
      refine va_get (D := G) (ci := 5) (v := .ref qg) (C := RX5) (T := TX5) (N := 6) hx hb hts inlX5 hown hK.1 hP 0 rfl rfl 0 (by decide) (hts _ wd16) (fun _ h9 => h9) rfl dX5_nextCast_14 ?_
      refine va_getN (D := G) (ci := 1) (v := .int x) (C := RX1) (T := TX1) (N := 7) hx hb hts inlX1 hown hK.1 hP 1 rfl rfl 2 (by decide) (va_Nw.use rfl (hK.2 _ nw11)) (fun _ h9 => h9) rfl dX5_nextCast_17 ?_
      refine lv_istore_n (lv' := [(2, .int x), (0, .ref qX), (1, .int (nI j))]) hx hb dX5_nextCast_20 rfl hl (by decide) rfl (fun ls hl => ?_)
      refine lv_iconst (v := 0) hx hb dX5_nextCast_21 (by decide) ?_
      refine lv_istore_n (lv' := [(3, .int 0), (2, .int x), (0, .ref qX), (1, .int (nI j))]) hx hb dX5_nextCast_22 rfl hl (by decide) rfl (fun ls hl => ?_)
      have L1 : ∀ (n : Nat), ∀ (i : Nat), ∀ (xc : Int32), ∀ (hi : i ≤ j + 1), ∀ (hf : xc = xN x i), ∀ (hn : j + 2 ≤ i + n), ∀ (ls : Array Slot), lv_has ls 4 [(3, .int (nI i)), (2, .int xc), (0, .ref qX), (1, .int (nI j))] → W p l e rm_X5_nextCast s m ag below meth c s.heap [] 0 0 Q (F0 m 23 ls []) := by
        intro n
        induction n with
        | zero =>
          intro i xc hi hf hn ls hl
          omega
        | succ n ih1 =>
          intro i xc hi hf hn ls hl
          refine lv_iload_n hx hb dX5_nextCast_23 rfl (lv_at hl 0 rfl) ?_
          refine lv_iload_n hx hb dX5_nextCast_24 rfl (lv_at hl 3 rfl) ?_
          refine zi_gt (tgt := 39) hx hb i j dX5_nextCast_25 (by decide) rfl rfl (by omega) (by omega) (fun c_894 => ?_) (fun c_894 => ?_)
          · refine lv_iload_n hx hb dX5_nextCast_39 rfl (lv_at hl 1 rfl) ?_
            refine vp_callSi (va_Run.run (va_runS (As := [.int xc]) (rest := []) ⟨hx, hb, hml, hown, hts⟩ (c_X5_castOf l xc) (cf_RX5_196 hts ⟨Nat.le_of_ble_eq_true rfl, Nat.le_of_ble_eq_true rfl⟩) pre_P rfl rfl hl.1 rfl (lv_room (Nat.le_of_ble_eq_true rfl)) dX5_nextCast_40 ⟨Nat.le_of_ble_eq_true rfl, Nat.le_of_ble_eq_true rfl⟩)) (fun r895 hr895 => ?_)
            subst hr895
            subst hQ
            exact W.iret (v := co xc) hx hb hr (fun t ht hW => ⟨co xc, rfl, by rw [p_nextCast, if_neg (fun q => q.elim c_891 (fun r => r c_892)), (show (nI j).toNatClampNeg = j from nI_clamp (by omega)), hf, show j + 1 = i by omega], ht⟩) (fun _ h => absurd h List.not_mem_nil) dX5_nextCast_43
          · refine lv_iload_n hx hb dX5_nextCast_28 rfl (lv_at hl 1 rfl) ?_
            refine vp_callSi (va_Run.run (va_runS (As := [.int xc]) (rest := []) ⟨hx, hb, hml, hown, hts⟩ (c_X5_nextX l xc) (cf_RX5_193 hts ⟨Nat.le_of_ble_eq_true rfl, Nat.le_of_ble_eq_true rfl⟩) pre_P rfl rfl hl.1 rfl (lv_room (Nat.le_of_ble_eq_true rfl)) dX5_nextCast_29 ⟨Nat.le_of_ble_eq_true rfl, Nat.le_of_ble_eq_true rfl⟩)) (fun r896 hr896 => ?_)
            subst hr896
            refine lv_istore_n (lv' := [(2, .int (nx xc)), (3, .int (nI i)), (0, .ref qX), (1, .int (nI j))]) hx hb dX5_nextCast_32 rfl hl (by decide) rfl (fun ls hl => ?_)
            refine lv_iinc (v := nI (i + 1)) (lv' := [(3, .int (nI (i + 1))), (2, .int (nx xc)), (0, .ref qX), (1, .int (nI j))]) hx hb dX5_nextCast_33 hl (k := 1) rfl (nI_inc i) (by decide) rfl (fun ls hl => ?_)
            refine lv_goto (tgt := 23) hx hb dX5_nextCast_36 (by decide) ?_
            exact ih1 (i + 1) (nx xc) (by omega) (by rw [hf, xN]) (by omega) _ (lv_sub hl [0, 1, 2, 3] rfl)
      exact L1 (j + 2) 0 x (by omega) rfl (by omega) _ (lv_sub hl [0, 1, 2, 3] rfl)
    · refine lv_bipush (v := (-2)) hx hb dX5_nextCast_10 (by decide) ?_
      subst hQ
      exact W.iret (v := (-2)) hx hb hr (fun t ht hW => ⟨(-2), rfl, by rw [p_nextCast, if_pos (Or.inr c_892)], ht⟩) (fun _ h => absurd h List.not_mem_nil) dX5_nextCast_12

abbrev rm_X5_count : Room := { frames := 2, cells := 0, slots := 0, locals := 44 }
theorem cf_RX5_165 {R : Room} {s : State} {args : Array Value} (ht : ∀ w ∈ wsL_law, w.before args s = true) (hN : ∀ w ∈ nestW, va_Nw w s) (hR : rm_X0_winner.frames + 1 ≤ R.frames ∧ 8 + (2 + 11) + rm_X0_winner.locals ≤ R.locals) : va_CN R s args RX5 165 yX0_winner "BridgedPachisi" cX0_winner 2 (some .int) (.code yX0_winner cX0_winner 2 (some .int) :: wsL_law) rm_X0_winner 0 0 0 ∧ (Cond.instanceMethod yX0_winner).before args s = true ∧ (Cond.selects RX0 yX0_winner yX0_winner).before args s = true := ⟨cw_N 0 ht hN nw64 wd36 wd141 (by decide +kernel) rfl rfl hR, ht _ wd139, ht _ wd140⟩
theorem cf_RX5_168 {R : Room} {s : State} {args : Array Value} (ht : ∀ w ∈ wsL_law, w.before args s = true) (hN : ∀ w ∈ nestW, va_Nw w s) (hR : rm_X0_homeOf.frames + 1 ≤ R.frames ∧ 8 + (4 + 11) + rm_X0_homeOf.locals ≤ R.locals) : va_CN R s args RX5 168 yX0_homeOf "BridgedPachisi" cX0_homeOf 4 (some .int) (.code yX0_homeOf cX0_homeOf 4 (some .int) :: wsL_law) rm_X0_homeOf 0 0 1 ∧ (Cond.instanceMethod yX0_homeOf).before args s = true ∧ (Cond.selects RX0 yX0_homeOf yX0_homeOf).before args s = true := ⟨cw_N 1 ht hN nw65 wd36 wd145 (by decide +kernel) rfl rfl hR, ht _ wd143, ht _ wd144⟩
theorem cf_RX5_171 {R : Room} {s : State} {args : Array Value} (ht : ∀ w ∈ wsL_law, w.before args s = true) (hN : ∀ w ∈ nestW, va_Nw w s) (hR : rm_X0_sentBackInAll.frames + 1 ≤ R.frames ∧ 8 + (3 + 11) + rm_X0_sentBackInAll.locals ≤ R.locals) : va_CN R s args RX5 171 yX0_sentBackInAll "BridgedPachisi" cX0_sentBackInAll 3 (some .int) (.code yX0_sentBackInAll cX0_sentBackInAll 3 (some .int) :: wsL_law) rm_X0_sentBackInAll 0 0 0 ∧ (Cond.instanceMethod yX0_sentBackInAll).before args s = true ∧ (Cond.selects RX0 yX0_sentBackInAll yX0_sentBackInAll).before args s = true := ⟨cw_N 0 ht hN nw66 wd36 wd486 (by decide +kernel) rfl rfl hR, ht _ wd484, ht _ wd485⟩
theorem cf_RX5_174 {R : Room} {s : State} {args : Array Value} (ht : ∀ w ∈ wsL_law, w.before args s = true) (hN : ∀ w ∈ nestW, va_Nw w s) (hR : rm_X0_fallenSet.frames + 1 ≤ R.frames ∧ 8 + (3 + 11) + rm_X0_fallenSet.locals ≤ R.locals) : va_CN R s args RX5 174 yX0_fallenSet "BridgedPachisi" cX0_fallenSet 3 (some .int) (.code yX0_fallenSet cX0_fallenSet 3 (some .int) :: wsL_law) rm_X0_fallenSet 0 0 0 ∧ (Cond.instanceMethod yX0_fallenSet).before args s = true ∧ (Cond.selects RX0 yX0_fallenSet yX0_fallenSet).before args s = true := ⟨cw_N 0 ht hN nw67 wd36 wd489 (by decide +kernel) rfl rfl hR, ht _ wd487, ht _ wd488⟩
set_option maxHeartbeats 1000000 in
set_option maxRecDepth 100000 in
theorem c_X5_count (l : Launch) (G : va_G) (cI cC cZ cG : ClassId) (sz : Nat) (qX wg qR qd qh qk : Nat) (qg qt qb qp qs qr qf : Nat) (pr sb br fe se : IA) (fl x : Int32) (pl : Nat) (th tu ca : Int32) (qx qy : Nat) (ln nx0 sz0 : Nat) (w0 : Int32) : Met l yX5_count (.code yX5_count cX5_count 2 (some .int) :: wsL_law) rm_X5_count (va_Pc [.ref qX, .int w0] (bw G cI cC cZ cG false sz [(qX, .inr (5, [.ref qg, .ref wg, .ref qR, .ref qd, .ref qh, .ref qk])), (qg, .inr (1, [.ref qb, .ref qt, .int x, .int (nI pl), .int th, .int tu, .int ca])), (qt, .inl (cI, 3, .inl se)), (qb, .inr (0, [.ref qp, .ref qs, .ref qr, .ref qf, .int fl])), (qp, .inl (cI, 12, .inl pr)), (qs, .inl (cI, 12, .inl sb)), (qr, .inl (cI, 4, .inl br)), (qf, .inl (cI, 4, .inl fe)), (qd, .inr (3, [.ref qx, .int (nI ln)])), (qh, .inr (2, [.ref qy, .int (nI nx0), .int (nI sz0)]))])) (vp_Si (fun r => r = p_count w0 pr sb br se fl x pl th tu ca ln sz0)) 0 0 (fun _ => False) := by
  refine met_bw rfl (Nat.le_of_ble_eq_true rfl) ?_
  intro p e s m below meth c ls hx hb hr hml hown hts hlocks hin hsz hP hK hD0 hX0 hl
  have hown : s.vm.findClass RX5 = some m.cls := hown
  have hl : lv_has ls 2 [(0, .ref qX), (1, .int w0)] := hl
  refine lv_iload_n hx hb dX5_count_0 rfl (lv_at hl 1 rfl) ?_
  rcases sw_cases2 0 17 w0 with hsw897 | ⟨j897, hg897, hj897, hsw897⟩
  · refine lv_tableOut (tgt := 213) hx hb dX5_count_1 hsw897 (by decide) ?_
    refine lv_bipush (v := (-2)) hx hb dX5_count_213 (by decide) ?_
    exact W.iret (v := (-2)) hx hb hr (fun t ht hW => ⟨(-2), rfl, by rw [p_count, if_neg (show ¬ w0 = 0 from sw_ne hsw897 (by decide)), if_neg (show ¬ w0 = 1 from sw_ne hsw897 (by decide)), if_neg (show ¬ w0 = 2 from sw_ne hsw897 (by decide)), if_neg (show ¬ w0 = 3 from sw_ne hsw897 (by decide)), if_neg (show ¬ w0 = 4 from sw_ne hsw897 (by decide)), if_neg (show ¬ w0 = 5 from sw_ne hsw897 (by decide)), if_neg (show ¬ w0 = 6 from sw_ne hsw897 (by decide)), if_neg (show ¬ w0 = 7 from sw_ne hsw897 (by decide)), if_neg (show ¬ w0 = 8 from sw_ne hsw897 (by decide)), if_neg (show ¬ w0 = 9 from sw_ne hsw897 (by decide)), if_neg (show ¬ w0 = 10 from sw_ne hsw897 (by decide)), if_neg (show ¬ w0 = 11 from sw_ne hsw897 (by decide)), if_neg (show ¬ w0 = 12 from sw_ne hsw897 (by decide)), if_neg (show ¬ w0 = 13 from sw_ne hsw897 (by decide)), if_neg (show ¬ w0 = 14 from sw_ne hsw897 (by decide)), if_neg (show ¬ w0 = 15 from sw_ne hsw897 (by decide)), if_neg (show ¬ w0 = 16 from sw_ne hsw897 (by decide)), if_neg (show ¬ w0 = 17 from sw_ne hsw897 (by decide))], ht⟩) (fun _ h => absurd h List.not_mem_nil) dX5_count_215
  · rcases (show j897 = 0 ∨ j897 = 1 ∨ j897 = 2 ∨ j897 = 3 ∨ j897 = 4 ∨ j897 = 5 ∨ j897 = 6 ∨ j897 = 7 ∨ j897 = 8 ∨ j897 = 9 ∨ j897 = 10 ∨ j897 = 11 ∨ j897 = 12 ∨ j897 = 13 ∨ j897 = 14 ∨ j897 = 15 ∨ j897 = 16 ∨ j897 = 17 by omega) with rfl | rfl | rfl | rfl | rfl | rfl | rfl | rfl | rfl | rfl | rfl | rfl | rfl | rfl | rfl | rfl | rfl | rfl
    · refine lv_tableIn (off := 87) (tgt := 88) hx hb dX5_count_1 (by rw [hsw897]; decide) (by rw [hsw897]; decide) (by rw [hsw897]; rfl) (by decide) ?_
      refine lv_aload_n hx hb dX5_count_88 rfl (lv_at hl 0 rfl) ?_
      refine va_get (D := G) (ci := 5) (v := .ref qg) (C := RX5) (T := TX5) (N := 6) hx hb hts inlX5 hown hK.1 hP 0 rfl rfl 0 (by decide) (hts _ wd16) (fun _ h9 => h9) rfl dX5_count_89 ?_
      refine va_getN (D := G) (ci := 1) (v := .ref qt) (C := RX1) (T := TX1) (N := 7) hx hb hts inlX1 hown hK.1 hP 1 rfl rfl 1 (by decide) (va_Nw.use rfl (hK.2 _ nw10)) (fun _ h9 => h9) rfl dX5_count_92 ?_
      refine lv_iload_n hx hb dX5_count_95 rfl (lv_at hl 1 rfl) ?_
      refine za_ld hx hb hK.1 hP 2 0 rfl rfl 0 hsw897 (by decide) (by decide) dX5_count_96 ?_
      exact W.iret (v := se 0) hx hb hr (fun t ht hW => ⟨se 0, rfl, by rw [p_count, if_pos (show w0 = 0 from hsw897)], ht⟩) (fun _ h => absurd h List.not_mem_nil) dX5_count_97
    · refine lv_tableIn (off := 87) (tgt := 88) hx hb dX5_count_1 (by rw [hsw897]; decide) (by rw [hsw897]; decide) (by rw [hsw897]; rfl) (by decide) ?_
      refine lv_aload_n hx hb dX5_count_88 rfl (lv_at hl 0 rfl) ?_
      refine va_get (D := G) (ci := 5) (v := .ref qg) (C := RX5) (T := TX5) (N := 6) hx hb hts inlX5 hown hK.1 hP 0 rfl rfl 0 (by decide) (hts _ wd16) (fun _ h9 => h9) rfl dX5_count_89 ?_
      refine va_getN (D := G) (ci := 1) (v := .ref qt) (C := RX1) (T := TX1) (N := 7) hx hb hts inlX1 hown hK.1 hP 1 rfl rfl 1 (by decide) (va_Nw.use rfl (hK.2 _ nw10)) (fun _ h9 => h9) rfl dX5_count_92 ?_
      refine lv_iload_n hx hb dX5_count_95 rfl (lv_at hl 1 rfl) ?_
      refine za_ld hx hb hK.1 hP 2 0 rfl rfl 1 hsw897 (by decide) (by decide) dX5_count_96 ?_
      exact W.iret (v := se 1) hx hb hr (fun t ht hW => ⟨se 1, rfl, by rw [p_count, if_neg (show ¬ w0 = 0 by rw [hsw897]; decide), if_pos (show w0 = 1 from hsw897)], ht⟩) (fun _ h => absurd h List.not_mem_nil) dX5_count_97
    · refine lv_tableIn (off := 87) (tgt := 88) hx hb dX5_count_1 (by rw [hsw897]; decide) (by rw [hsw897]; decide) (by rw [hsw897]; rfl) (by decide) ?_
      refine lv_aload_n hx hb dX5_count_88 rfl (lv_at hl 0 rfl) ?_
      refine va_get (D := G) (ci := 5) (v := .ref qg) (C := RX5) (T := TX5) (N := 6) hx hb hts inlX5 hown hK.1 hP 0 rfl rfl 0 (by decide) (hts _ wd16) (fun _ h9 => h9) rfl dX5_count_89 ?_
      refine va_getN (D := G) (ci := 1) (v := .ref qt) (C := RX1) (T := TX1) (N := 7) hx hb hts inlX1 hown hK.1 hP 1 rfl rfl 1 (by decide) (va_Nw.use rfl (hK.2 _ nw10)) (fun _ h9 => h9) rfl dX5_count_92 ?_
      refine lv_iload_n hx hb dX5_count_95 rfl (lv_at hl 1 rfl) ?_
      refine za_ld hx hb hK.1 hP 2 0 rfl rfl 2 hsw897 (by decide) (by decide) dX5_count_96 ?_
      exact W.iret (v := se 2) hx hb hr (fun t ht hW => ⟨se 2, rfl, by rw [p_count, if_neg (show ¬ w0 = 0 by rw [hsw897]; decide), if_neg (show ¬ w0 = 1 by rw [hsw897]; decide), if_pos (show w0 = 2 from hsw897)], ht⟩) (fun _ h => absurd h List.not_mem_nil) dX5_count_97
    · refine lv_tableIn (off := 97) (tgt := 98) hx hb dX5_count_1 (by rw [hsw897]; decide) (by rw [hsw897]; decide) (by rw [hsw897]; rfl) (by decide) ?_
      refine lv_aload_n hx hb dX5_count_98 rfl (lv_at hl 0 rfl) ?_
      refine va_get (D := G) (ci := 5) (v := .ref qg) (C := RX5) (T := TX5) (N := 6) hx hb hts inlX5 hown hK.1 hP 0 rfl rfl 0 (by decide) (hts _ wd16) (fun _ h9 => h9) rfl dX5_count_99 ?_
      refine va_getN (D := G) (ci := 1) (v := .int x) (C := RX1) (T := TX1) (N := 7) hx hb hts inlX1 hown hK.1 hP 1 rfl rfl 2 (by decide) (va_Nw.use rfl (hK.2 _ nw11)) (fun _ h9 => h9) rfl dX5_count_102 ?_
      exact W.iret (v := x) hx hb hr (fun t ht hW => ⟨x, rfl, by rw [p_count, if_neg (show ¬ w0 = 0 by rw [hsw897]; decide), if_neg (show ¬ w0 = 1 by rw [hsw897]; decide), if_neg (show ¬ w0 = 2 by rw [hsw897]; decide), if_pos (show w0 = 3 from hsw897)], ht⟩) (fun _ h => absurd h List.not_mem_nil) dX5_count_105
    · refine lv_tableIn (off := 105) (tgt := 106) hx hb dX5_count_1 (by rw [hsw897]; decide) (by rw [hsw897]; decide) (by rw [hsw897]; rfl) (by decide) ?_
      refine lv_aload_n hx hb dX5_count_106 rfl (lv_at hl 0 rfl) ?_
      refine va_get (D := G) (ci := 5) (v := .ref qg) (C := RX5) (T := TX5) (N := 6) hx hb hts inlX5 hown hK.1 hP 0 rfl rfl 0 (by decide) (hts _ wd16) (fun _ h9 => h9) rfl dX5_count_107 ?_
      refine va_getN (D := G) (ci := 1) (v := .int (nI pl)) (C := RX1) (T := TX1) (N := 7) hx hb hts inlX1 hown hK.1 hP 1 rfl rfl 3 (by decide) (va_Nw.use rfl (hK.2 _ nw12)) (fun _ h9 => h9) rfl dX5_count_110 ?_
      exact W.iret (v := nI pl) hx hb hr (fun t ht hW => ⟨nI pl, rfl, by rw [p_count, if_neg (show ¬ w0 = 0 by rw [hsw897]; decide), if_neg (show ¬ w0 = 1 by rw [hsw897]; decide), if_neg (show ¬ w0 = 2 by rw [hsw897]; decide), if_neg (show ¬ w0 = 3 by rw [hsw897]; decide), if_pos (show w0 = 4 from hsw897)], ht⟩) (fun _ h => absurd h List.not_mem_nil) dX5_count_113
    · refine lv_tableIn (off := 113) (tgt := 114) hx hb dX5_count_1 (by rw [hsw897]; decide) (by rw [hsw897]; decide) (by rw [hsw897]; rfl) (by decide) ?_
      refine lv_aload_n hx hb dX5_count_114 rfl (lv_at hl 0 rfl) ?_
      refine va_get (D := G) (ci := 5) (v := .ref qg) (C := RX5) (T := TX5) (N := 6) hx hb hts inlX5 hown hK.1 hP 0 rfl rfl 0 (by decide) (hts _ wd16) (fun _ h9 => h9) rfl dX5_count_115 ?_
      refine va_getN (D := G) (ci := 1) (v := .int th) (C := RX1) (T := TX1) (N := 7) hx hb hts inlX1 hown hK.1 hP 1 rfl rfl 4 (by decide) (va_Nw.use rfl (hK.2 _ nw13)) (fun _ h9 => h9) rfl dX5_count_118 ?_
      exact W.iret (v := th) hx hb hr (fun t ht hW => ⟨th, rfl, by rw [p_count, if_neg (show ¬ w0 = 0 by rw [hsw897]; decide), if_neg (show ¬ w0 = 1 by rw [hsw897]; decide), if_neg (show ¬ w0 = 2 by rw [hsw897]; decide), if_neg (show ¬ w0 = 3 by rw [hsw897]; decide), if_neg (show ¬ w0 = 4 by rw [hsw897]; decide), if_pos (show w0 = 5 from hsw897)], ht⟩) (fun _ h => absurd h List.not_mem_nil) dX5_count_121
    · refine lv_tableIn (off := 121) (tgt := 122) hx hb dX5_count_1 (by rw [hsw897]; decide) (by rw [hsw897]; decide) (by rw [hsw897]; rfl) (by decide) ?_
      refine lv_aload_n hx hb dX5_count_122 rfl (lv_at hl 0 rfl) ?_
      refine va_get (D := G) (ci := 5) (v := .ref qg) (C := RX5) (T := TX5) (N := 6) hx hb hts inlX5 hown hK.1 hP 0 rfl rfl 0 (by decide) (hts _ wd16) (fun _ h9 => h9) rfl dX5_count_123 ?_
      refine va_getN (D := G) (ci := 1) (v := .int tu) (C := RX1) (T := TX1) (N := 7) hx hb hts inlX1 hown hK.1 hP 1 rfl rfl 5 (by decide) (va_Nw.use rfl (hK.2 _ nw14)) (fun _ h9 => h9) rfl dX5_count_126 ?_
      exact W.iret (v := tu) hx hb hr (fun t ht hW => ⟨tu, rfl, by rw [p_count, if_neg (show ¬ w0 = 0 by rw [hsw897]; decide), if_neg (show ¬ w0 = 1 by rw [hsw897]; decide), if_neg (show ¬ w0 = 2 by rw [hsw897]; decide), if_neg (show ¬ w0 = 3 by rw [hsw897]; decide), if_neg (show ¬ w0 = 4 by rw [hsw897]; decide), if_neg (show ¬ w0 = 5 by rw [hsw897]; decide), if_pos (show w0 = 6 from hsw897)], ht⟩) (fun _ h => absurd h List.not_mem_nil) dX5_count_129
    · refine lv_tableIn (off := 129) (tgt := 130) hx hb dX5_count_1 (by rw [hsw897]; decide) (by rw [hsw897]; decide) (by rw [hsw897]; rfl) (by decide) ?_
      refine lv_aload_n hx hb dX5_count_130 rfl (lv_at hl 0 rfl) ?_
      refine va_get (D := G) (ci := 5) (v := .ref qg) (C := RX5) (T := TX5) (N := 6) hx hb hts inlX5 hown hK.1 hP 0 rfl rfl 0 (by decide) (hts _ wd16) (fun _ h9 => h9) rfl dX5_count_131 ?_
      refine va_getN (D := G) (ci := 1) (v := .int ca) (C := RX1) (T := TX1) (N := 7) hx hb hts inlX1 hown hK.1 hP 1 rfl rfl 6 (by decide) (va_Nw.use rfl (hK.2 _ nw15)) (fun _ h9 => h9) rfl dX5_count_134 ?_
      exact W.iret (v := ca) hx hb hr (fun t ht hW => ⟨ca, rfl, by rw [p_count, if_neg (show ¬ w0 = 0 by rw [hsw897]; decide), if_neg (show ¬ w0 = 1 by rw [hsw897]; decide), if_neg (show ¬ w0 = 2 by rw [hsw897]; decide), if_neg (show ¬ w0 = 3 by rw [hsw897]; decide), if_neg (show ¬ w0 = 4 by rw [hsw897]; decide), if_neg (show ¬ w0 = 5 by rw [hsw897]; decide), if_neg (show ¬ w0 = 6 by rw [hsw897]; decide), if_pos (show w0 = 7 from hsw897)], ht⟩) (fun _ h => absurd h List.not_mem_nil) dX5_count_137
    · refine lv_tableIn (off := 137) (tgt := 138) hx hb dX5_count_1 (by rw [hsw897]; decide) (by rw [hsw897]; decide) (by rw [hsw897]; rfl) (by decide) ?_
      refine lv_aload_n hx hb dX5_count_138 rfl (lv_at hl 0 rfl) ?_
      refine va_get (D := G) (ci := 5) (v := .ref qg) (C := RX5) (T := TX5) (N := 6) hx hb hts inlX5 hown hK.1 hP 0 rfl rfl 0 (by decide) (hts _ wd16) (fun _ h9 => h9) rfl dX5_count_139 ?_
      refine va_getN (D := G) (ci := 1) (v := .ref qb) (C := RX1) (T := TX1) (N := 7) hx hb hts inlX1 hown hK.1 hP 1 rfl rfl 0 (by decide) (va_Nw.use rfl (hK.2 _ nw9)) (fun _ h9 => h9) rfl dX5_count_142 ?_
      have hPc := hP.sub (ws' := [(qb, .inr (0, [.ref qp, .ref qs, .ref qr, .ref qf, .int fl])), (qp, .inl (cI, 12, .inl pr)), (qs, .inl (cI, 12, .inl sb)), (qr, .inl (cI, 4, .inl br)), (qf, .inl (cI, 4, .inl fe))]) [3, 4, 5, 6, 7] rfl
      have hDc := (hD0.sub (ws' := [(qb, .inr (0, [.ref qp, .ref qs, .ref qr, .ref qf, .int fl])), (qp, .inl (cI, 12, .inl pr)), (qs, .inl (cI, 12, .inl sb)), (qr, .inl (cI, 4, .inl br)), (qf, .inl (cI, 4, .inl fe))]) [3, 4, 5, 6, 7] (by decide) rfl).tt
      refine vp_callSi (va_Run.run (va_runVN (As := []) (rest := []) ⟨hx, hb, hml, hown, hts⟩ (c_X0_winner l G cI cC cZ cG s.heap.size qb qp qs qr qf pr sb br fe fl) (cf_RX5_165 hts hK.2 ⟨Nat.le_of_ble_eq_true rfl, Nat.le_of_ble_eq_true rfl⟩) (pre_V hK hPc hDc (ci := 0) (q0 := 0) rfl rfl) rfl rfl hl.1 rfl (lv_room (Nat.le_of_ble_eq_true rfl)) dX5_count_145 ⟨Nat.le_of_ble_eq_true rfl, Nat.le_of_ble_eq_true rfl⟩)) (fun r898 hr898 => ?_)
      subst hr898
      exact W.iret (v := wi pr) hx hb hr (fun t ht hW => ⟨wi pr, rfl, by rw [p_count, if_neg (show ¬ w0 = 0 by rw [hsw897]; decide), if_neg (show ¬ w0 = 1 by rw [hsw897]; decide), if_neg (show ¬ w0 = 2 by rw [hsw897]; decide), if_neg (show ¬ w0 = 3 by rw [hsw897]; decide), if_neg (show ¬ w0 = 4 by rw [hsw897]; decide), if_neg (show ¬ w0 = 5 by rw [hsw897]; decide), if_neg (show ¬ w0 = 6 by rw [hsw897]; decide), if_neg (show ¬ w0 = 7 by rw [hsw897]; decide), if_pos (show w0 = 8 from hsw897)], ht⟩) (fun _ h => absurd h List.not_mem_nil) dX5_count_148
    · refine lv_tableIn (off := 148) (tgt := 149) hx hb dX5_count_1 (by rw [hsw897]; decide) (by rw [hsw897]; decide) (by rw [hsw897]; rfl) (by decide) ?_
      refine lv_aload_n hx hb dX5_count_149 rfl (lv_at hl 0 rfl) ?_
      refine va_get (D := G) (ci := 5) (v := .ref qg) (C := RX5) (T := TX5) (N := 6) hx hb hts inlX5 hown hK.1 hP 0 rfl rfl 0 (by decide) (hts _ wd16) (fun _ h9 => h9) rfl dX5_count_150 ?_
      refine va_getN (D := G) (ci := 1) (v := .ref qb) (C := RX1) (T := TX1) (N := 7) hx hb hts inlX1 hown hK.1 hP 1 rfl rfl 0 (by decide) (va_Nw.use rfl (hK.2 _ nw9)) (fun _ h9 => h9) rfl dX5_count_153 ?_
      refine lv_iload_n hx hb dX5_count_156 rfl (lv_at hl 1 rfl) ?_
      refine lv_bipush (v := 9) hx hb dX5_count_157 (by decide) ?_
      refine zi_sub hx hb 9 9 dX5_count_159 hsw897 rfl (by decide) ?_
      have hPc := hP.sub (ws' := [(qb, .inr (0, [.ref qp, .ref qs, .ref qr, .ref qf, .int fl])), (qp, .inl (cI, 12, .inl pr)), (qs, .inl (cI, 12, .inl sb)), (qr, .inl (cI, 4, .inl br)), (qf, .inl (cI, 4, .inl fe))]) [3, 4, 5, 6, 7] rfl
      have hDc := (hD0.sub (ws' := [(qb, .inr (0, [.ref qp, .ref qs, .ref qr, .ref qf, .int fl])), (qp, .inl (cI, 12, .inl pr)), (qs, .inl (cI, 12, .inl sb)), (qr, .inl (cI, 4, .inl br)), (qf, .inl (cI, 4, .inl fe))]) [3, 4, 5, 6, 7] (by decide) rfl).tt
      refine vp_callSi (va_Run.run (va_runVN (As := [.int (nI (9 - 9))]) (rest := []) ⟨hx, hb, hml, hown, hts⟩ (c_X0_homeOf l G cI cC cZ cG s.heap.size qb qp qs qr qf pr sb br fe fl (9 - 9) (by omega)) (cf_RX5_168 hts hK.2 ⟨Nat.le_of_ble_eq_true rfl, Nat.le_of_ble_eq_true rfl⟩) (pre_V hK hPc hDc (ci := 0) (q0 := 0) rfl rfl) rfl rfl hl.1 rfl (lv_room (Nat.le_of_ble_eq_true rfl)) dX5_count_160 ⟨Nat.le_of_ble_eq_true rfl, Nat.le_of_ble_eq_true rfl⟩)) (fun r899 hr899 => ?_)
      subst hr899
      have hf900 := (show ho pr (9 - 9) ≤ 3 from cnt_le (hoP pr (9 - 9)) 3)
      exact W.iret (v := nI (ho pr (9 - 9))) hx hb hr (fun t ht hW => ⟨nI (ho pr (9 - 9)), rfl, by rw [p_count, if_neg (show ¬ w0 = 0 by rw [hsw897]; decide), if_neg (show ¬ w0 = 1 by rw [hsw897]; decide), if_neg (show ¬ w0 = 2 by rw [hsw897]; decide), if_neg (show ¬ w0 = 3 by rw [hsw897]; decide), if_neg (show ¬ w0 = 4 by rw [hsw897]; decide), if_neg (show ¬ w0 = 5 by rw [hsw897]; decide), if_neg (show ¬ w0 = 6 by rw [hsw897]; decide), if_neg (show ¬ w0 = 7 by rw [hsw897]; decide), if_neg (show ¬ w0 = 8 by rw [hsw897]; decide), if_pos (show w0 = 9 from hsw897)], ht⟩) (fun _ h => absurd h List.not_mem_nil) dX5_count_163
    · refine lv_tableIn (off := 148) (tgt := 149) hx hb dX5_count_1 (by rw [hsw897]; decide) (by rw [hsw897]; decide) (by rw [hsw897]; rfl) (by decide) ?_
      refine lv_aload_n hx hb dX5_count_149 rfl (lv_at hl 0 rfl) ?_
      refine va_get (D := G) (ci := 5) (v := .ref qg) (C := RX5) (T := TX5) (N := 6) hx hb hts inlX5 hown hK.1 hP 0 rfl rfl 0 (by decide) (hts _ wd16) (fun _ h9 => h9) rfl dX5_count_150 ?_
      refine va_getN (D := G) (ci := 1) (v := .ref qb) (C := RX1) (T := TX1) (N := 7) hx hb hts inlX1 hown hK.1 hP 1 rfl rfl 0 (by decide) (va_Nw.use rfl (hK.2 _ nw9)) (fun _ h9 => h9) rfl dX5_count_153 ?_
      refine lv_iload_n hx hb dX5_count_156 rfl (lv_at hl 1 rfl) ?_
      refine lv_bipush (v := 9) hx hb dX5_count_157 (by decide) ?_
      refine zi_sub hx hb 10 9 dX5_count_159 hsw897 rfl (by decide) ?_
      have hPc := hP.sub (ws' := [(qb, .inr (0, [.ref qp, .ref qs, .ref qr, .ref qf, .int fl])), (qp, .inl (cI, 12, .inl pr)), (qs, .inl (cI, 12, .inl sb)), (qr, .inl (cI, 4, .inl br)), (qf, .inl (cI, 4, .inl fe))]) [3, 4, 5, 6, 7] rfl
      have hDc := (hD0.sub (ws' := [(qb, .inr (0, [.ref qp, .ref qs, .ref qr, .ref qf, .int fl])), (qp, .inl (cI, 12, .inl pr)), (qs, .inl (cI, 12, .inl sb)), (qr, .inl (cI, 4, .inl br)), (qf, .inl (cI, 4, .inl fe))]) [3, 4, 5, 6, 7] (by decide) rfl).tt
      refine vp_callSi (va_Run.run (va_runVN (As := [.int (nI (10 - 9))]) (rest := []) ⟨hx, hb, hml, hown, hts⟩ (c_X0_homeOf l G cI cC cZ cG s.heap.size qb qp qs qr qf pr sb br fe fl (10 - 9) (by omega)) (cf_RX5_168 hts hK.2 ⟨Nat.le_of_ble_eq_true rfl, Nat.le_of_ble_eq_true rfl⟩) (pre_V hK hPc hDc (ci := 0) (q0 := 0) rfl rfl) rfl rfl hl.1 rfl (lv_room (Nat.le_of_ble_eq_true rfl)) dX5_count_160 ⟨Nat.le_of_ble_eq_true rfl, Nat.le_of_ble_eq_true rfl⟩)) (fun r901 hr901 => ?_)
      subst hr901
      have hf902 := (show ho pr (10 - 9) ≤ 3 from cnt_le (hoP pr (10 - 9)) 3)
      exact W.iret (v := nI (ho pr (10 - 9))) hx hb hr (fun t ht hW => ⟨nI (ho pr (10 - 9)), rfl, by rw [p_count, if_neg (show ¬ w0 = 0 by rw [hsw897]; decide), if_neg (show ¬ w0 = 1 by rw [hsw897]; decide), if_neg (show ¬ w0 = 2 by rw [hsw897]; decide), if_neg (show ¬ w0 = 3 by rw [hsw897]; decide), if_neg (show ¬ w0 = 4 by rw [hsw897]; decide), if_neg (show ¬ w0 = 5 by rw [hsw897]; decide), if_neg (show ¬ w0 = 6 by rw [hsw897]; decide), if_neg (show ¬ w0 = 7 by rw [hsw897]; decide), if_neg (show ¬ w0 = 8 by rw [hsw897]; decide), if_neg (show ¬ w0 = 9 by rw [hsw897]; decide), if_pos (show w0 = 10 from hsw897)], ht⟩) (fun _ h => absurd h List.not_mem_nil) dX5_count_163
    · refine lv_tableIn (off := 148) (tgt := 149) hx hb dX5_count_1 (by rw [hsw897]; decide) (by rw [hsw897]; decide) (by rw [hsw897]; rfl) (by decide) ?_
      refine lv_aload_n hx hb dX5_count_149 rfl (lv_at hl 0 rfl) ?_
      refine va_get (D := G) (ci := 5) (v := .ref qg) (C := RX5) (T := TX5) (N := 6) hx hb hts inlX5 hown hK.1 hP 0 rfl rfl 0 (by decide) (hts _ wd16) (fun _ h9 => h9) rfl dX5_count_150 ?_
      refine va_getN (D := G) (ci := 1) (v := .ref qb) (C := RX1) (T := TX1) (N := 7) hx hb hts inlX1 hown hK.1 hP 1 rfl rfl 0 (by decide) (va_Nw.use rfl (hK.2 _ nw9)) (fun _ h9 => h9) rfl dX5_count_153 ?_
      refine lv_iload_n hx hb dX5_count_156 rfl (lv_at hl 1 rfl) ?_
      refine lv_bipush (v := 9) hx hb dX5_count_157 (by decide) ?_
      refine zi_sub hx hb 11 9 dX5_count_159 hsw897 rfl (by decide) ?_
      have hPc := hP.sub (ws' := [(qb, .inr (0, [.ref qp, .ref qs, .ref qr, .ref qf, .int fl])), (qp, .inl (cI, 12, .inl pr)), (qs, .inl (cI, 12, .inl sb)), (qr, .inl (cI, 4, .inl br)), (qf, .inl (cI, 4, .inl fe))]) [3, 4, 5, 6, 7] rfl
      have hDc := (hD0.sub (ws' := [(qb, .inr (0, [.ref qp, .ref qs, .ref qr, .ref qf, .int fl])), (qp, .inl (cI, 12, .inl pr)), (qs, .inl (cI, 12, .inl sb)), (qr, .inl (cI, 4, .inl br)), (qf, .inl (cI, 4, .inl fe))]) [3, 4, 5, 6, 7] (by decide) rfl).tt
      refine vp_callSi (va_Run.run (va_runVN (As := [.int (nI (11 - 9))]) (rest := []) ⟨hx, hb, hml, hown, hts⟩ (c_X0_homeOf l G cI cC cZ cG s.heap.size qb qp qs qr qf pr sb br fe fl (11 - 9) (by omega)) (cf_RX5_168 hts hK.2 ⟨Nat.le_of_ble_eq_true rfl, Nat.le_of_ble_eq_true rfl⟩) (pre_V hK hPc hDc (ci := 0) (q0 := 0) rfl rfl) rfl rfl hl.1 rfl (lv_room (Nat.le_of_ble_eq_true rfl)) dX5_count_160 ⟨Nat.le_of_ble_eq_true rfl, Nat.le_of_ble_eq_true rfl⟩)) (fun r903 hr903 => ?_)
      subst hr903
      have hf904 := (show ho pr (11 - 9) ≤ 3 from cnt_le (hoP pr (11 - 9)) 3)
      exact W.iret (v := nI (ho pr (11 - 9))) hx hb hr (fun t ht hW => ⟨nI (ho pr (11 - 9)), rfl, by rw [p_count, if_neg (show ¬ w0 = 0 by rw [hsw897]; decide), if_neg (show ¬ w0 = 1 by rw [hsw897]; decide), if_neg (show ¬ w0 = 2 by rw [hsw897]; decide), if_neg (show ¬ w0 = 3 by rw [hsw897]; decide), if_neg (show ¬ w0 = 4 by rw [hsw897]; decide), if_neg (show ¬ w0 = 5 by rw [hsw897]; decide), if_neg (show ¬ w0 = 6 by rw [hsw897]; decide), if_neg (show ¬ w0 = 7 by rw [hsw897]; decide), if_neg (show ¬ w0 = 8 by rw [hsw897]; decide), if_neg (show ¬ w0 = 9 by rw [hsw897]; decide), if_neg (show ¬ w0 = 10 by rw [hsw897]; decide), if_pos (show w0 = 11 from hsw897)], ht⟩) (fun _ h => absurd h List.not_mem_nil) dX5_count_163
    · refine lv_tableIn (off := 148) (tgt := 149) hx hb dX5_count_1 (by rw [hsw897]; decide) (by rw [hsw897]; decide) (by rw [hsw897]; rfl) (by decide) ?_
      refine lv_aload_n hx hb dX5_count_149 rfl (lv_at hl 0 rfl) ?_
      refine va_get (D := G) (ci := 5) (v := .ref qg) (C := RX5) (T := TX5) (N := 6) hx hb hts inlX5 hown hK.1 hP 0 rfl rfl 0 (by decide) (hts _ wd16) (fun _ h9 => h9) rfl dX5_count_150 ?_
      refine va_getN (D := G) (ci := 1) (v := .ref qb) (C := RX1) (T := TX1) (N := 7) hx hb hts inlX1 hown hK.1 hP 1 rfl rfl 0 (by decide) (va_Nw.use rfl (hK.2 _ nw9)) (fun _ h9 => h9) rfl dX5_count_153 ?_
      refine lv_iload_n hx hb dX5_count_156 rfl (lv_at hl 1 rfl) ?_
      refine lv_bipush (v := 9) hx hb dX5_count_157 (by decide) ?_
      refine zi_sub hx hb 12 9 dX5_count_159 hsw897 rfl (by decide) ?_
      have hPc := hP.sub (ws' := [(qb, .inr (0, [.ref qp, .ref qs, .ref qr, .ref qf, .int fl])), (qp, .inl (cI, 12, .inl pr)), (qs, .inl (cI, 12, .inl sb)), (qr, .inl (cI, 4, .inl br)), (qf, .inl (cI, 4, .inl fe))]) [3, 4, 5, 6, 7] rfl
      have hDc := (hD0.sub (ws' := [(qb, .inr (0, [.ref qp, .ref qs, .ref qr, .ref qf, .int fl])), (qp, .inl (cI, 12, .inl pr)), (qs, .inl (cI, 12, .inl sb)), (qr, .inl (cI, 4, .inl br)), (qf, .inl (cI, 4, .inl fe))]) [3, 4, 5, 6, 7] (by decide) rfl).tt
      refine vp_callSi (va_Run.run (va_runVN (As := [.int (nI (12 - 9))]) (rest := []) ⟨hx, hb, hml, hown, hts⟩ (c_X0_homeOf l G cI cC cZ cG s.heap.size qb qp qs qr qf pr sb br fe fl (12 - 9) (by omega)) (cf_RX5_168 hts hK.2 ⟨Nat.le_of_ble_eq_true rfl, Nat.le_of_ble_eq_true rfl⟩) (pre_V hK hPc hDc (ci := 0) (q0 := 0) rfl rfl) rfl rfl hl.1 rfl (lv_room (Nat.le_of_ble_eq_true rfl)) dX5_count_160 ⟨Nat.le_of_ble_eq_true rfl, Nat.le_of_ble_eq_true rfl⟩)) (fun r905 hr905 => ?_)
      subst hr905
      have hf906 := (show ho pr (12 - 9) ≤ 3 from cnt_le (hoP pr (12 - 9)) 3)
      exact W.iret (v := nI (ho pr (12 - 9))) hx hb hr (fun t ht hW => ⟨nI (ho pr (12 - 9)), rfl, by rw [p_count, if_neg (show ¬ w0 = 0 by rw [hsw897]; decide), if_neg (show ¬ w0 = 1 by rw [hsw897]; decide), if_neg (show ¬ w0 = 2 by rw [hsw897]; decide), if_neg (show ¬ w0 = 3 by rw [hsw897]; decide), if_neg (show ¬ w0 = 4 by rw [hsw897]; decide), if_neg (show ¬ w0 = 5 by rw [hsw897]; decide), if_neg (show ¬ w0 = 6 by rw [hsw897]; decide), if_neg (show ¬ w0 = 7 by rw [hsw897]; decide), if_neg (show ¬ w0 = 8 by rw [hsw897]; decide), if_neg (show ¬ w0 = 9 by rw [hsw897]; decide), if_neg (show ¬ w0 = 10 by rw [hsw897]; decide), if_neg (show ¬ w0 = 11 by rw [hsw897]; decide), if_pos (show w0 = 12 from hsw897)], ht⟩) (fun _ h => absurd h List.not_mem_nil) dX5_count_163
    · refine lv_tableIn (off := 163) (tgt := 164) hx hb dX5_count_1 (by rw [hsw897]; decide) (by rw [hsw897]; decide) (by rw [hsw897]; rfl) (by decide) ?_
      refine lv_aload_n hx hb dX5_count_164 rfl (lv_at hl 0 rfl) ?_
      refine va_get (D := G) (ci := 5) (v := .ref qg) (C := RX5) (T := TX5) (N := 6) hx hb hts inlX5 hown hK.1 hP 0 rfl rfl 0 (by decide) (hts _ wd16) (fun _ h9 => h9) rfl dX5_count_165 ?_
      refine va_getN (D := G) (ci := 1) (v := .ref qb) (C := RX1) (T := TX1) (N := 7) hx hb hts inlX1 hown hK.1 hP 1 rfl rfl 0 (by decide) (va_Nw.use rfl (hK.2 _ nw9)) (fun _ h9 => h9) rfl dX5_count_168 ?_
      have hPc := hP.sub (ws' := [(qb, .inr (0, [.ref qp, .ref qs, .ref qr, .ref qf, .int fl])), (qp, .inl (cI, 12, .inl pr)), (qs, .inl (cI, 12, .inl sb)), (qr, .inl (cI, 4, .inl br)), (qf, .inl (cI, 4, .inl fe))]) [3, 4, 5, 6, 7] rfl
      have hDc := (hD0.sub (ws' := [(qb, .inr (0, [.ref qp, .ref qs, .ref qr, .ref qf, .int fl])), (qp, .inl (cI, 12, .inl pr)), (qs, .inl (cI, 12, .inl sb)), (qr, .inl (cI, 4, .inl br)), (qf, .inl (cI, 4, .inl fe))]) [3, 4, 5, 6, 7] (by decide) rfl).tt
      refine vp_callSi (va_Run.run (va_runVN (As := []) (rest := []) ⟨hx, hb, hml, hown, hts⟩ (c_X0_sentBackInAll l G cI cC cZ cG s.heap.size qb qp qs qr qf pr sb br fe fl) (cf_RX5_171 hts hK.2 ⟨Nat.le_of_ble_eq_true rfl, Nat.le_of_ble_eq_true rfl⟩) (pre_V hK hPc hDc (ci := 0) (q0 := 0) rfl rfl) rfl rfl hl.1 rfl (lv_room (Nat.le_of_ble_eq_true rfl)) dX5_count_171 ⟨Nat.le_of_ble_eq_true rfl, Nat.le_of_ble_eq_true rfl⟩)) (fun r907 hr907 => ?_)
      subst hr907
      exact W.iret (v := sumI sb 12) hx hb hr (fun t ht hW => ⟨sumI sb 12, rfl, by rw [p_count, if_neg (show ¬ w0 = 0 by rw [hsw897]; decide), if_neg (show ¬ w0 = 1 by rw [hsw897]; decide), if_neg (show ¬ w0 = 2 by rw [hsw897]; decide), if_neg (show ¬ w0 = 3 by rw [hsw897]; decide), if_neg (show ¬ w0 = 4 by rw [hsw897]; decide), if_neg (show ¬ w0 = 5 by rw [hsw897]; decide), if_neg (show ¬ w0 = 6 by rw [hsw897]; decide), if_neg (show ¬ w0 = 7 by rw [hsw897]; decide), if_neg (show ¬ w0 = 8 by rw [hsw897]; decide), if_neg (show ¬ w0 = 9 by rw [hsw897]; decide), if_neg (show ¬ w0 = 10 by rw [hsw897]; decide), if_neg (show ¬ w0 = 11 by rw [hsw897]; decide), if_neg (show ¬ w0 = 12 by rw [hsw897]; decide), if_pos (show w0 = 13 from hsw897)], ht⟩) (fun _ h => absurd h List.not_mem_nil) dX5_count_174
    · refine lv_tableIn (off := 174) (tgt := 175) hx hb dX5_count_1 (by rw [hsw897]; decide) (by rw [hsw897]; decide) (by rw [hsw897]; rfl) (by decide) ?_
      refine lv_aload_n hx hb dX5_count_175 rfl (lv_at hl 0 rfl) ?_
      refine va_get (D := G) (ci := 5) (v := .ref qg) (C := RX5) (T := TX5) (N := 6) hx hb hts inlX5 hown hK.1 hP 0 rfl rfl 0 (by decide) (hts _ wd16) (fun _ h9 => h9) rfl dX5_count_176 ?_
      refine va_getN (D := G) (ci := 1) (v := .ref qb) (C := RX1) (T := TX1) (N := 7) hx hb hts inlX1 hown hK.1 hP 1 rfl rfl 0 (by decide) (va_Nw.use rfl (hK.2 _ nw9)) (fun _ h9 => h9) rfl dX5_count_179 ?_
      have hPc := hP.sub (ws' := [(qb, .inr (0, [.ref qp, .ref qs, .ref qr, .ref qf, .int fl])), (qp, .inl (cI, 12, .inl pr)), (qs, .inl (cI, 12, .inl sb)), (qr, .inl (cI, 4, .inl br)), (qf, .inl (cI, 4, .inl fe))]) [3, 4, 5, 6, 7] rfl
      have hDc := (hD0.sub (ws' := [(qb, .inr (0, [.ref qp, .ref qs, .ref qr, .ref qf, .int fl])), (qp, .inl (cI, 12, .inl pr)), (qs, .inl (cI, 12, .inl sb)), (qr, .inl (cI, 4, .inl br)), (qf, .inl (cI, 4, .inl fe))]) [3, 4, 5, 6, 7] (by decide) rfl).tt
      refine vp_callSi (va_Run.run (va_runVN (As := []) (rest := []) ⟨hx, hb, hml, hown, hts⟩ (c_X0_fallenSet l G cI cC cZ cG s.heap.size qb qp qs qr qf pr sb br fe fl) (cf_RX5_174 hts hK.2 ⟨Nat.le_of_ble_eq_true rfl, Nat.le_of_ble_eq_true rfl⟩) (pre_V hK hPc hDc (ci := 0) (q0 := 0) rfl rfl) rfl rfl hl.1 rfl (lv_room (Nat.le_of_ble_eq_true rfl)) dX5_count_182 ⟨Nat.le_of_ble_eq_true rfl, Nat.le_of_ble_eq_true rfl⟩)) (fun r908 hr908 => ?_)
      subst hr908
      exact W.iret (v := fset br 4) hx hb hr (fun t ht hW => ⟨fset br 4, rfl, by rw [p_count, if_neg (show ¬ w0 = 0 by rw [hsw897]; decide), if_neg (show ¬ w0 = 1 by rw [hsw897]; decide), if_neg (show ¬ w0 = 2 by rw [hsw897]; decide), if_neg (show ¬ w0 = 3 by rw [hsw897]; decide), if_neg (show ¬ w0 = 4 by rw [hsw897]; decide), if_neg (show ¬ w0 = 5 by rw [hsw897]; decide), if_neg (show ¬ w0 = 6 by rw [hsw897]; decide), if_neg (show ¬ w0 = 7 by rw [hsw897]; decide), if_neg (show ¬ w0 = 8 by rw [hsw897]; decide), if_neg (show ¬ w0 = 9 by rw [hsw897]; decide), if_neg (show ¬ w0 = 10 by rw [hsw897]; decide), if_neg (show ¬ w0 = 11 by rw [hsw897]; decide), if_neg (show ¬ w0 = 12 by rw [hsw897]; decide), if_neg (show ¬ w0 = 13 by rw [hsw897]; decide), if_pos (show w0 = 14 from hsw897)], ht⟩) (fun _ h => absurd h List.not_mem_nil) dX5_count_185
    · refine lv_tableIn (off := 185) (tgt := 186) hx hb dX5_count_1 (by rw [hsw897]; decide) (by rw [hsw897]; decide) (by rw [hsw897]; rfl) (by decide) ?_
      refine lv_aload_n hx hb dX5_count_186 rfl (lv_at hl 0 rfl) ?_
      refine va_get (D := G) (ci := 5) (v := .ref qg) (C := RX5) (T := TX5) (N := 6) hx hb hts inlX5 hown hK.1 hP 0 rfl rfl 0 (by decide) (hts _ wd16) (fun _ h9 => h9) rfl dX5_count_187 ?_
      refine va_getN (D := G) (ci := 1) (v := .ref qb) (C := RX1) (T := TX1) (N := 7) hx hb hts inlX1 hown hK.1 hP 1 rfl rfl 0 (by decide) (va_Nw.use rfl (hK.2 _ nw9)) (fun _ h9 => h9) rfl dX5_count_190 ?_
      refine va_getN (D := G) (ci := 0) (v := .int fl) (C := RX0) (T := TX0) (N := 5) hx hb hts inlX0 hown hK.1 hP 3 rfl rfl 4 (by decide) (va_Nw.use rfl (hK.2 _ nw7)) (fun _ h9 => h9) rfl dX5_count_193 ?_
      exact W.iret (v := fl) hx hb hr (fun t ht hW => ⟨fl, rfl, by rw [p_count, if_neg (show ¬ w0 = 0 by rw [hsw897]; decide), if_neg (show ¬ w0 = 1 by rw [hsw897]; decide), if_neg (show ¬ w0 = 2 by rw [hsw897]; decide), if_neg (show ¬ w0 = 3 by rw [hsw897]; decide), if_neg (show ¬ w0 = 4 by rw [hsw897]; decide), if_neg (show ¬ w0 = 5 by rw [hsw897]; decide), if_neg (show ¬ w0 = 6 by rw [hsw897]; decide), if_neg (show ¬ w0 = 7 by rw [hsw897]; decide), if_neg (show ¬ w0 = 8 by rw [hsw897]; decide), if_neg (show ¬ w0 = 9 by rw [hsw897]; decide), if_neg (show ¬ w0 = 10 by rw [hsw897]; decide), if_neg (show ¬ w0 = 11 by rw [hsw897]; decide), if_neg (show ¬ w0 = 12 by rw [hsw897]; decide), if_neg (show ¬ w0 = 13 by rw [hsw897]; decide), if_neg (show ¬ w0 = 14 by rw [hsw897]; decide), if_pos (show w0 = 15 from hsw897)], ht⟩) (fun _ h => absurd h List.not_mem_nil) dX5_count_196
    · refine lv_tableIn (off := 196) (tgt := 197) hx hb dX5_count_1 (by rw [hsw897]; decide) (by rw [hsw897]; decide) (by rw [hsw897]; rfl) (by decide) ?_
      refine lv_aload_n hx hb dX5_count_197 rfl (lv_at hl 0 rfl) ?_
      refine va_get (D := G) (ci := 5) (v := .ref qd) (C := RX5) (T := TX5) (N := 6) hx hb hts inlX5 hown hK.1 hP 0 rfl rfl 3 (by decide) (hts _ wd25) (fun _ h9 => h9) rfl dX5_count_198 ?_
      refine va_getN (D := G) (ci := 3) (v := .int (nI ln)) (C := RX3) (T := TX3) (N := 2) hx hb hts inlX3 hown hK.1 hP 8 rfl rfl 1 (by decide) (va_Nw.use rfl (hK.2 _ nw18)) (fun _ h9 => h9) rfl dX5_count_201 ?_
      exact W.iret (v := nI ln) hx hb hr (fun t ht hW => ⟨nI ln, rfl, by rw [p_count, if_neg (show ¬ w0 = 0 by rw [hsw897]; decide), if_neg (show ¬ w0 = 1 by rw [hsw897]; decide), if_neg (show ¬ w0 = 2 by rw [hsw897]; decide), if_neg (show ¬ w0 = 3 by rw [hsw897]; decide), if_neg (show ¬ w0 = 4 by rw [hsw897]; decide), if_neg (show ¬ w0 = 5 by rw [hsw897]; decide), if_neg (show ¬ w0 = 6 by rw [hsw897]; decide), if_neg (show ¬ w0 = 7 by rw [hsw897]; decide), if_neg (show ¬ w0 = 8 by rw [hsw897]; decide), if_neg (show ¬ w0 = 9 by rw [hsw897]; decide), if_neg (show ¬ w0 = 10 by rw [hsw897]; decide), if_neg (show ¬ w0 = 11 by rw [hsw897]; decide), if_neg (show ¬ w0 = 12 by rw [hsw897]; decide), if_neg (show ¬ w0 = 13 by rw [hsw897]; decide), if_neg (show ¬ w0 = 14 by rw [hsw897]; decide), if_neg (show ¬ w0 = 15 by rw [hsw897]; decide), if_pos (show w0 = 16 from hsw897)], ht⟩) (fun _ h => absurd h List.not_mem_nil) dX5_count_204
    · refine lv_tableIn (off := 204) (tgt := 205) hx hb dX5_count_1 (by rw [hsw897]; decide) (by rw [hsw897]; decide) (by rw [hsw897]; rfl) (by decide) ?_
      refine lv_aload_n hx hb dX5_count_205 rfl (lv_at hl 0 rfl) ?_
      refine va_get (D := G) (ci := 5) (v := .ref qh) (C := RX5) (T := TX5) (N := 6) hx hb hts inlX5 hown hK.1 hP 0 rfl rfl 4 (by decide) (hts _ wd29) (fun _ h9 => h9) rfl dX5_count_206 ?_
      refine va_getN (D := G) (ci := 2) (v := .int (nI sz0)) (C := RX2) (T := TX2) (N := 3) hx hb hts inlX2 hown hK.1 hP 9 rfl rfl 2 (by decide) (va_Nw.use rfl (hK.2 _ nw20)) (fun _ h9 => h9) rfl dX5_count_209 ?_
      exact W.iret (v := nI sz0) hx hb hr (fun t ht hW => ⟨nI sz0, rfl, by rw [p_count, if_neg (show ¬ w0 = 0 by rw [hsw897]; decide), if_neg (show ¬ w0 = 1 by rw [hsw897]; decide), if_neg (show ¬ w0 = 2 by rw [hsw897]; decide), if_neg (show ¬ w0 = 3 by rw [hsw897]; decide), if_neg (show ¬ w0 = 4 by rw [hsw897]; decide), if_neg (show ¬ w0 = 5 by rw [hsw897]; decide), if_neg (show ¬ w0 = 6 by rw [hsw897]; decide), if_neg (show ¬ w0 = 7 by rw [hsw897]; decide), if_neg (show ¬ w0 = 8 by rw [hsw897]; decide), if_neg (show ¬ w0 = 9 by rw [hsw897]; decide), if_neg (show ¬ w0 = 10 by rw [hsw897]; decide), if_neg (show ¬ w0 = 11 by rw [hsw897]; decide), if_neg (show ¬ w0 = 12 by rw [hsw897]; decide), if_neg (show ¬ w0 = 13 by rw [hsw897]; decide), if_neg (show ¬ w0 = 14 by rw [hsw897]; decide), if_neg (show ¬ w0 = 15 by rw [hsw897]; decide), if_neg (show ¬ w0 = 16 by rw [hsw897]; decide), if_pos (show w0 = 17 from hsw897)], ht⟩) (fun _ h => absurd h List.not_mem_nil) dX5_count_212

abbrev rm_X5_fault : Room := { frames := 2, cells := 0, slots := 0, locals := 41 }
theorem cf_RX5_96 {R : Room} {s : State} {args : Array Value} (ht : ∀ w ∈ wsL_law, w.before args s = true) (hN : ∀ w ∈ nestW, va_Nw w s) (hR : rm_X3_faultIndex.frames + 1 ≤ R.frames ∧ 8 + (2 + 11) + rm_X3_faultIndex.locals ≤ R.locals) : va_CN R s args RX5 96 yX3_faultIndex "BridgedPachisi" cX3_faultIndex 2 (some .int) (.code yX3_faultIndex cX3_faultIndex 2 (some .int) :: wsL_law) rm_X3_faultIndex 0 0 0 ∧ (Cond.instanceMethod yX3_faultIndex).before args s = true ∧ (Cond.selects RX3 yX3_faultIndex yX3_faultIndex).before args s = true := ⟨cw_N 0 ht hN nw49 wd24 wd378 (by decide +kernel) rfl rfl hR, ht _ wd376, ht _ wd377⟩
set_option maxHeartbeats 1000000 in
set_option maxRecDepth 100000 in
theorem c_X5_fault (l : Launch) (G : va_G) (cI cC cZ cG : ClassId) (sz : Nat) (qX qg wg qR qd qh qk qx : Nat) (tx : IA) (ln : Nat) (hln : ln ≤ 60) : Met l yX5_fault (.code yX5_fault cX5_fault 1 (some .int) :: wsL_law) rm_X5_fault (va_Pc [.ref qX] (bw G cI cC cZ cG false sz [(qX, .inr (5, [.ref qg, .ref wg, .ref qR, .ref qd, .ref qh, .ref qk])), (qd, .inr (3, [.ref qx, .int (nI ln)])), (qx, .inl (cC, 60, .inl tx))])) (vp_Si (fun r => r = ffM tx ln)) 0 0 (fun _ => False) := by
  refine met_bw rfl (Nat.le_of_ble_eq_true rfl) ?_
  intro p e s m below meth c ls hx hb hr hml hown hts hlocks hin hsz hP hK hD0 hX0 hl
  have hown : s.vm.findClass RX5 = some m.cls := hown
  have hl : lv_has ls 1 [(0, .ref qX)] := hl
  refine lv_aload_n hx hb dX5_fault_0 rfl (lv_at hl 0 rfl) ?_
  refine va_get (D := G) (ci := 5) (v := .ref qd) (C := RX5) (T := TX5) (N := 6) hx hb hts inlX5 hown hK.1 hP 0 rfl rfl 3 (by decide) (hts _ wd25) (fun _ h9 => h9) rfl dX5_fault_1 ?_
  have hPc := hP.sub (ws' := [(qd, .inr (3, [.ref qx, .int (nI ln)])), (qx, .inl (cC, 60, .inl tx))]) [1, 2] rfl
  have hDc := (hD0.sub (ws' := [(qd, .inr (3, [.ref qx, .int (nI ln)])), (qx, .inl (cC, 60, .inl tx))]) [1, 2] (by decide) rfl).tt
  refine vp_callSi (va_Run.run (va_runVN (As := []) (rest := []) ⟨hx, hb, hml, hown, hts⟩ (c_X3_faultIndex l G cI cC cZ cG s.heap.size qd qx tx ln hln) (cf_RX5_96 hts hK.2 ⟨Nat.le_of_ble_eq_true rfl, Nat.le_of_ble_eq_true rfl⟩) (pre_V hK hPc hDc (ci := 3) (q0 := 0) rfl rfl) rfl rfl hl.1 rfl (lv_room (Nat.le_of_ble_eq_true rfl)) dX5_fault_4 ⟨Nat.le_of_ble_eq_true rfl, Nat.le_of_ble_eq_true rfl⟩)) (fun r909 hr909 => ?_)
  subst hr909
  exact W.iret (v := ffM tx ln) hx hb hr (fun t ht hW => ⟨ffM tx ln, rfl, rfl, ht⟩) (fun _ h => absurd h List.not_mem_nil) dX5_fault_7

abbrev rm_X5_wipe : Room := { frames := 0, cells := 0, slots := 0, locals := 0 }
set_option maxHeartbeats 1000000 in
set_option maxRecDepth 100000 in
theorem c_X5_wipe (l : Launch) (G : va_G) (cI cC cZ cG : ClassId) (sz : Nat) (qX qg wg qR qd qh qk qx : Nat) (tx : IA) (ln : Nat) : Met l yX5_wipe (.code yX5_wipe cX5_wipe 2 (some .int) :: wsL_law) rm_X5_wipe (va_Pc [.ref qX] (bw G cI cC cZ cG false sz [(qX, .inr (5, [.ref qg, .ref wg, .ref qR, .ref qd, .ref qh, .ref qk])), (qd, .inr (3, [.ref qx, .int (nI ln)])), (qx, .inl (cC, 60, .inl tx))])) (va_Qi (fun (r : Int32) (u : Unit) => r = nI ln ∧ True) (fun (u : Unit) t => va_P G vwCl [(qX, .inr (5, [.ref qg, .ref wg, .ref qR, .ref qd, .ref qh, .ref qk])), (qd, .inr (3, [.ref qx, .int 0])), (qx, .inl (cC, 60, .inl tx))] t.heap ∧ va_D (va_A [(qX, .inr (5, [.ref qg, .ref wg, .ref qR, .ref qd, .ref qh, .ref qk])), (qd, .inr (3, [.ref qx, .int (nI ln)])), (qx, .inl (cC, 60, .inl tx))] sz) [(qX, .inr (5, [.ref qg, .ref wg, .ref qR, .ref qd, .ref qh, .ref qk])), (qd, .inr (3, [.ref qx, .int 0])), (qx, .inl (cC, 60, .inl tx))]) (va_A [(qX, .inr (5, [.ref qg, .ref wg, .ref qR, .ref qd, .ref qh, .ref qk])), (qd, .inr (3, [.ref qx, .int (nI ln)])), (qx, .inl (cC, 60, .inl tx))] sz)) 0 0 (va_A [(qX, .inr (5, [.ref qg, .ref wg, .ref qR, .ref qd, .ref qh, .ref qk])), (qd, .inr (3, [.ref qx, .int (nI ln)])), (qx, .inl (cC, 60, .inl tx))] sz) := by
  refine met_bw rfl (Nat.le_of_ble_eq_true rfl) ?_
  intro p e s m below meth c ls hx hb hr hml hown hts hlocks hin hsz hP hK hD0 hX0 hl
  have hown : s.vm.findClass RX5 = some m.cls := hown
  have hl : lv_has ls 2 [(0, .ref qX)] := hl
  subst hsz
  have hD := hD0.self (sz := s.heap.size)
  generalize hAe : va_A [(qX, .inr (5, [.ref qg, .ref wg, .ref qR, .ref qd, .ref qh, .ref qk])), (qd, .inr (3, [.ref qx, .int (nI ln)])), (qx, .inl (cC, 60, .inl tx))] s.heap.size = A at hD ⊢
  have hA : ∀ q : Nat, s.heap.size ≤ q → A q := fun q h => by rw [← hAe]; exact Or.inr h
  have hS : va_S A s.heap s.heap [] := va_S.rf
  refine lv_aload_n hx hb dX5_wipe_0 rfl (lv_at hl 0 rfl) ?_
  refine va_get (D := G) (ci := 5) (v := .ref qd) (C := RX5) (T := TX5) (N := 6) hx hb hts inlX5 hown hK.1 hP 0 rfl rfl 3 (by decide) (hts _ wd25) (fun _ h9 => h9) rfl dX5_wipe_1 ?_
  refine va_getN (D := G) (ci := 3) (v := .int (nI ln)) (C := RX3) (T := TX3) (N := 2) hx hb hts inlX3 hown hK.1 hP 1 rfl rfl 1 (by decide) (va_Nw.use rfl (hK.2 _ nw18)) (fun _ h9 => h9) rfl dX5_wipe_4 ?_
  refine lv_istore_n (lv' := [(1, .int (nI ln)), (0, .ref qX)]) hx hb dX5_wipe_7 rfl hl (by decide) rfl (fun ls hl => ?_)
  refine lv_aload_n hx hb dX5_wipe_8 rfl (lv_at hl 1 rfl) ?_
  refine va_get (D := G) (ci := 5) (v := .ref qd) (C := RX5) (T := TX5) (N := 6) hx hb hts inlX5 hown hK.1 hP 0 rfl rfl 3 (by decide) (hts _ wd25) (fun _ h9 => h9) rfl dX5_wipe_9 ?_
  refine lv_iconst (v := 0) hx hb dX5_wipe_12 (by decide) ?_
  refine va_putN (D := G) (ci := 3) (v := .int 0) (ty := .int) (C := RX3) (T := TX3) (N := 2) hx hb hts inlX3 tyX3 tyX3_ok nmX3 hown hK.1 hP hD hS 1 rfl rfl 1 (by decide) (va_Nw.use rfl (hK.2 _ nw18)) (fun _ h9 => h9) rfl (by decide +kernel) rfl rfl (Nat.le_of_ble_eq_true rfl) dX5_wipe_13 (fun H910 locs910 hP hD hS => ?_)
  have hP : va_P G vwCl [(qX, .inr (5, [.ref qg, .ref wg, .ref qR, .ref qd, .ref qh, .ref qk])), (qd, .inr (3, [.ref qx, .int 0])), (qx, .inl (cC, 60, .inl tx))] H910 := hP
  have hD : va_D A [(qX, .inr (5, [.ref qg, .ref wg, .ref qR, .ref qd, .ref qh, .ref qk])), (qd, .inr (3, [.ref qx, .int 0])), (qx, .inl (cC, 60, .inl tx))] := hD
  refine lv_iload_n hx hb dX5_wipe_16 rfl (lv_at hl 0 rfl) ?_
  exact W.iret (v := nI ln) hx hb hr (fun t ht hW => ⟨⟨nI ln, (), rfl, ⟨rfl, trivial⟩, by rw [ht]; exact hP, hD⟩, hS.F ht⟩) hS.2.2 dX5_wipe_17

abbrev rm_X5_put : Room := { frames := 1, cells := 0, slots := 0, locals := 26 }
theorem cf_RX5_202 {R : Room} {s : State} {args : Array Value} (ht : ∀ w ∈ wsL_law, w.before args s = true) (hR : rm_X5_lengthOf.frames + 1 ≤ R.frames ∧ 8 + (7 + 11) + rm_X5_lengthOf.locals ≤ R.locals) : CallB R s args RX5 202 yX5_lengthOf cX5_lengthOf 7 (some .int) (.code yX5_lengthOf cX5_lengthOf 7 (some .int) :: wsL_law) rm_X5_lengthOf 0 0 1 ∧ (Cond.static yX5_lengthOf).before args s = true := ⟨cw_B 1 ht wd559 wd2 wd561 (by decide +kernel) rfl rfl hR, ht _ wd560⟩
theorem cf_RX5_206 {R : Room} {s : State} {args : Array Value} (ht : ∀ w ∈ wsL_law, w.before args s = true) (hN : ∀ w ∈ nestW, va_Nw w s) (hR : rm_X3_append.frames + 1 ≤ R.frames ∧ 8 + (5 + 11) + rm_X3_append.locals ≤ R.locals) : va_CN R s args RX5 206 yX3_append "BridgedPachisi" cX3_append 5 none (.code yX3_append cX3_append 5 none :: wsL_law) rm_X3_append 0 0 2 ∧ (Cond.instanceMethod yX3_append).before args s = true ∧ (Cond.selects RX3 yX3_append yX3_append).before args s = true := ⟨cw_N 2 ht hN nw73 wd24 wd567 (by decide +kernel) rfl rfl hR, ht _ wd565, ht _ wd566⟩
set_option maxHeartbeats 1000000 in
set_option maxRecDepth 100000 in
theorem c_X5_put (l : Launch) (G : va_G) (cI cC cZ cG : ClassId) (sz : Nat) (qX qg wg qR qd qh qk qx : Nat) (tx : IA) (ln : Nat) (ch : Int64) (hln : ln ≤ 60) : Met l yX5_put (.code yX5_put cX5_put 4 (some .int) :: wsL_law) rm_X5_put (va_Pc [.ref qX, .long ch] (bw G cI cC cZ cG false sz [(qX, .inr (5, [.ref qg, .ref wg, .ref qR, .ref qd, .ref qh, .ref qk])), (qd, .inr (3, [.ref qx, .int (nI ln)])), (qx, .inl (cC, 60, .inl tx))])) (va_Qi (fun (r : Int32) (u : IA × Nat) => r = (p_put ch tx ln).1 ∧ u = (p_put ch tx ln).2) (fun (u : IA × Nat) t => va_P G vwCl [(qX, .inr (5, [.ref qg, .ref wg, .ref qR, .ref qd, .ref qh, .ref qk])), (qd, .inr (3, [.ref qx, .int (nI u.2)])), (qx, .inl (cC, 60, .inl u.1))] t.heap ∧ va_D (va_A [(qX, .inr (5, [.ref qg, .ref wg, .ref qR, .ref qd, .ref qh, .ref qk])), (qd, .inr (3, [.ref qx, .int (nI ln)])), (qx, .inl (cC, 60, .inl tx))] sz) [(qX, .inr (5, [.ref qg, .ref wg, .ref qR, .ref qd, .ref qh, .ref qk])), (qd, .inr (3, [.ref qx, .int (nI u.2)])), (qx, .inl (cC, 60, .inl u.1))]) (va_A [(qX, .inr (5, [.ref qg, .ref wg, .ref qR, .ref qd, .ref qh, .ref qk])), (qd, .inr (3, [.ref qx, .int (nI ln)])), (qx, .inl (cC, 60, .inl tx))] sz)) 0 0 (va_A [(qX, .inr (5, [.ref qg, .ref wg, .ref qR, .ref qd, .ref qh, .ref qk])), (qd, .inr (3, [.ref qx, .int (nI ln)])), (qx, .inl (cC, 60, .inl tx))] sz) := by
  refine met_bw rfl (Nat.le_of_ble_eq_true rfl) ?_
  intro p e s m below meth c ls hx hb hr hml hown hts hlocks hin hsz hP hK hD0 hX0 hl
  have hown : s.vm.findClass RX5 = some m.cls := hown
  have hl : lv_has ls 4 [(0, .ref qX), (1, .long ch)] := hl
  subst hsz
  have hD := hD0.self (sz := s.heap.size)
  generalize hAe : va_A [(qX, .inr (5, [.ref qg, .ref wg, .ref qR, .ref qd, .ref qh, .ref qk])), (qd, .inr (3, [.ref qx, .int (nI ln)])), (qx, .inl (cC, 60, .inl tx))] s.heap.size = A at hD ⊢
  have hA : ∀ q : Nat, s.heap.size ≤ q → A q := fun q h => by rw [← hAe]; exact Or.inr h
  have hS : va_S A s.heap s.heap [] := va_S.rf
  refine lv_lload_n hx hb dX5_put_0 rfl (lv_at hl 1 rfl) ?_
  refine vp_callSi (va_Run.run (va_runS (As := [.long ch]) (rest := []) ⟨hx, hb, hml, hown, hts⟩ (c_X5_lengthOf l ch) (cf_RX5_202 hts ⟨Nat.le_of_ble_eq_true rfl, Nat.le_of_ble_eq_true rfl⟩) pre_P rfl rfl hl.1 rfl (lv_room (Nat.le_of_ble_eq_true rfl)) dX5_put_1 ⟨Nat.le_of_ble_eq_true rfl, Nat.le_of_ble_eq_true rfl⟩)) (fun r911 hr911 => ?_)
  subst hr911
  have hf912 := (lenL_le ch)
  refine lv_istore_n (lv' := [(3, .int (nI (lenL ch))), (0, .ref qX), (1, .long ch)]) hx hb dX5_put_4 rfl hl (by decide) rfl (fun ls hl => ?_)
  refine lv_iload_n hx hb dX5_put_5 rfl (lv_at hl 0 rfl) ?_
  refine z0_ne (tgt := 12) hx hb (lenL ch) dX5_put_6 (by decide) rfl (by omega) (fun c_913 => ?_) (fun c_913 => ?_)
  · refine lv_aload_n hx hb dX5_put_12 rfl (lv_at hl 1 rfl) ?_
    refine va_get (D := G) (ci := 5) (v := .ref qd) (C := RX5) (T := TX5) (N := 6) hx hb hts inlX5 hown hK.1 hP 0 rfl rfl 3 (by decide) (hts _ wd25) (fun _ h9 => h9) rfl dX5_put_13 ?_
    refine va_getN (D := G) (ci := 3) (v := .int (nI ln)) (C := RX3) (T := TX3) (N := 2) hx hb hts inlX3 hown hK.1 hP 1 rfl rfl 1 (by decide) (va_Nw.use rfl (hK.2 _ nw18)) (fun _ h9 => h9) rfl dX5_put_16 ?_
    refine lv_iload_n hx hb dX5_put_19 rfl (lv_at hl 0 rfl) ?_
    refine zi_add hx hb ln (lenL ch) dX5_put_20 rfl rfl ?_
    refine lv_bipush (v := 60) hx hb dX5_put_21 (by decide) ?_
    refine zi_le (tgt := 29) hx hb (ln + (lenL ch)) 60 dX5_put_23 (by decide) rfl rfl (by omega) (by decide) (fun c_914 => ?_) (fun c_914 => ?_)
    · refine lv_aload_n hx hb dX5_put_29 rfl (lv_at hl 1 rfl) ?_
      refine va_get (D := G) (ci := 5) (v := .ref qd) (C := RX5) (T := TX5) (N := 6) hx hb hts inlX5 hown hK.1 hP 0 rfl rfl 3 (by decide) (hts _ wd25) (fun _ h9 => h9) rfl dX5_put_30 ?_
      refine lv_lload_n hx hb dX5_put_33 rfl (lv_at hl 2 rfl) ?_
      refine lv_iload_n hx hb dX5_put_34 rfl (lv_at hl 0 rfl) ?_
      have hPc := hP.sub (ws' := [(qd, .inr (3, [.ref qx, .int (nI ln)])), (qx, .inl (cC, 60, .inl tx))]) [1, 2] rfl
      have hDc := (hD.sub (ws' := [(qd, .inr (3, [.ref qx, .int (nI ln)])), (qx, .inl (cC, 60, .inl tx))]) [1, 2] (by decide) rfl).tt
      have hFc := va_free (wc := [(qd, .inr (3, [.ref qx, .int (nI ln)])), (qx, .inl (cC, 60, .inl tx))]) hD hS hA [1, 2] rfl
      refine va_callv (va_runVN (As := [.long ch, .int (nI (lenL ch))]) (rest := []) ⟨hx, hb, hml, hown, hts⟩ (c_X3_append l G cI cC cZ cG s.heap.size qd qx tx ln ch (lenL ch) (by omega) (by omega)) (cf_RX5_206 hts hK.2 ⟨Nat.le_of_ble_eq_true rfl, Nat.le_of_ble_eq_true rfl⟩) (pre_V hK hPc hDc (ci := 3) (q0 := 0) rfl rfl) rfl rfl hl.1 rfl (lv_room (Nat.le_of_ble_eq_true rfl)) dX5_put_35 ⟨Nat.le_of_ble_eq_true rfl, Nat.le_of_ble_eq_true rfl⟩) hS (fun q _ h => hFc q h) hFc (fun u915 t915 H915 locs915 ht915 hvm915 hw915 hB915 hz915 hk915 hS => ?_)
      obtain ⟨tx915, ln915⟩ := u915
      obtain ⟨hP1, hD1⟩ := hB915
      rw [ht915] at hP1
      try dsimp only at hw915
      obtain ⟨hP, hD⟩ := va_join (wr := [(qX, .inr (5, [.ref qg, .ref wg, .ref qR, .ref qd, .ref qh, .ref qk]))]) (w1 := [(qd, .inr (3, [.ref qx, .int (nI ln915)])), (qx, .inl (cC, 60, .inl tx915))]) hP hD [1, 2] [0] rfl rfl (by decide) (by decide) hk915 hFc hP1 hD1
      have hP : va_P G vwCl [(qX, .inr (5, [.ref qg, .ref wg, .ref qR, .ref qd, .ref qh, .ref qk])), (qd, .inr (3, [.ref qx, .int (nI ln915)])), (qx, .inl (cC, 60, .inl tx915))] H915 := hP
      have hD : va_D A [(qX, .inr (5, [.ref qg, .ref wg, .ref qR, .ref qd, .ref qh, .ref qk])), (qd, .inr (3, [.ref qx, .int (nI ln915)])), (qx, .inl (cC, 60, .inl tx915))] := hD
      refine lv_aload_n hx hb dX5_put_38 rfl (lv_at hl 1 rfl) ?_
      refine va_get (D := G) (ci := 5) (v := .ref qd) (C := RX5) (T := TX5) (N := 6) hx hb hts inlX5 hown hK.1 hP 0 rfl rfl 3 (by decide) (hts _ wd25) (fun _ h9 => h9) rfl dX5_put_39 ?_
      refine va_getN (D := G) (ci := 3) (v := .int (nI ln915)) (C := RX3) (T := TX3) (N := 2) hx hb hts inlX3 hown hK.1 hP 1 rfl rfl 1 (by decide) (va_Nw.use rfl (hK.2 _ nw18)) (fun _ h9 => h9) rfl dX5_put_42 ?_
      exact W.iret (v := nI ln915) hx hb hr (fun t ht hW => ⟨⟨nI ln915, (tx915, ln915), rfl, ⟨(by rw [p_put, if_neg c_913, if_neg (by omega)]; exact congrArg (fun q : IA × Nat => nI q.2) hw915), (by rw [p_put, if_neg c_913, if_neg (by omega)]; exact hw915)⟩, by rw [ht]; exact hP, hD⟩, hS.F ht⟩) hS.2.2 dX5_put_45
    · refine lv_bipush (v := (-4)) hx hb dX5_put_26 (by decide) ?_
      exact W.iret (v := (-4)) hx hb hr (fun t ht hW => ⟨⟨(-4), (tx, ln), rfl, ⟨(by rw [p_put, if_neg c_913, if_pos c_914]), (by rw [p_put, if_neg c_913, if_pos c_914])⟩, by rw [ht]; exact hP, hD⟩, hS.F ht⟩) hS.2.2 dX5_put_28
  · refine lv_bipush (v := (-2)) hx hb dX5_put_9 (by decide) ?_
    exact W.iret (v := (-2)) hx hb hr (fun t ht hW => ⟨⟨(-2), (tx, ln), rfl, ⟨(by rw [p_put, if_pos c_913]), (by rw [p_put, if_pos c_913])⟩, by rw [ht]; exact hP, hD⟩, hS.F ht⟩) hS.2.2 dX5_put_11

abbrev rm_X5_needs : Room := { frames := 5, cells := 0, slots := 0, locals := 119 }
theorem cf_RX5_186 {R : Room} {s : State} {args : Array Value} (ht : ∀ w ∈ wsL_law, w.before args s = true) (hN : ∀ w ∈ nestW, va_Nw w s) (hR : rm_X4_fromHomeOn.frames + 1 ≤ R.frames ∧ 8 + (8 + 11) + rm_X4_fromHomeOn.locals ≤ R.locals) : va_CN R s args RX5 186 yX4_fromHomeOn "BridgedPachisi" cX4_fromHomeOn 8 (some .int) (.code yX4_fromHomeOn cX4_fromHomeOn 8 (some .int) :: wsL_law) rm_X4_fromHomeOn 0 0 3 ∧ (Cond.instanceMethod yX4_fromHomeOn).before args s = true ∧ (Cond.selects RX4 yX4_fromHomeOn yX4_fromHomeOn).before args s = true := ⟨cw_N 3 ht hN nw69 wd20 wd512 (by decide +kernel) rfl rfl hR, ht _ wd510, ht _ wd511⟩
theorem cf_RX5_190 {R : Room} {s : State} {args : Array Value} (ht : ∀ w ∈ wsL_law, w.before args s = true) (hN : ∀ w ∈ nestW, va_Nw w s) (hR : rm_X4_goingWide.frames + 1 ≤ R.frames ∧ 8 + (5 + 11) + rm_X4_goingWide.locals ≤ R.locals) : va_CN R s args RX5 190 yX4_goingWide "BridgedPachisi" cX4_goingWide 5 (some .int) (.code yX4_goingWide cX4_goingWide 5 (some .int) :: wsL_law) rm_X4_goingWide 0 0 3 ∧ (Cond.instanceMethod yX4_goingWide).before args s = true ∧ (Cond.selects RX4 yX4_goingWide yX4_goingWide).before args s = true := ⟨cw_N 3 ht hN nw71 wd20 wd516 (by decide +kernel) rfl rfl hR, ht _ wd514, ht _ wd515⟩
set_option maxHeartbeats 1000000 in
set_option maxRecDepth 100000 in
theorem c_X5_needs (l : Launch) (G : va_G) (cI cC cZ cG : ClassId) (sz : Nat) (qX wg qR qd qh qk : Nat) (qg qt qb qp qs qr qf : Nat) (pr sb br fe se : IA) (fl x : Int32) (pl : Nat) (th tu ca : Int32) (qn : Nat) (nd : IA) (k0 w0 : Int32) (hpr : ∀ k, k < 12 → okv (pr k)) : Met l yX5_needs (.code yX5_needs cX5_needs 7 (some .int) :: wsL_law) rm_X5_needs (va_Pc [.ref qX, .int k0, .int w0] (bw G cI cC cZ cG false sz [(qX, .inr (5, [.ref qg, .ref wg, .ref qR, .ref qd, .ref qh, .ref qk])), (qg, .inr (1, [.ref qb, .ref qt, .int x, .int (nI pl), .int th, .int tu, .int ca])), (qt, .inl (cI, 3, .inl se)), (qb, .inr (0, [.ref qp, .ref qs, .ref qr, .ref qf, .int fl])), (qp, .inl (cI, 12, .inl pr)), (qs, .inl (cI, 12, .inl sb)), (qr, .inl (cI, 4, .inl br)), (qf, .inl (cI, 4, .inl fe)), (qR, .inr (4, [.ref qn])), (qn, .inl (cI, 36, .inl nd))])) (va_Qi (fun (r : Int32) (u : IA) => r = p_needs k0 w0 pr br nd ∧ True) (fun (u : IA) t => va_P G vwCl [(qX, .inr (5, [.ref qg, .ref wg, .ref qR, .ref qd, .ref qh, .ref qk])), (qg, .inr (1, [.ref qb, .ref qt, .int x, .int (nI pl), .int th, .int tu, .int ca])), (qt, .inl (cI, 3, .inl se)), (qb, .inr (0, [.ref qp, .ref qs, .ref qr, .ref qf, .int fl])), (qp, .inl (cI, 12, .inl pr)), (qs, .inl (cI, 12, .inl sb)), (qr, .inl (cI, 4, .inl br)), (qf, .inl (cI, 4, .inl fe)), (qR, .inr (4, [.ref qn])), (qn, .inl (cI, 36, .inl u))] t.heap ∧ va_D (va_A [(qX, .inr (5, [.ref qg, .ref wg, .ref qR, .ref qd, .ref qh, .ref qk])), (qg, .inr (1, [.ref qb, .ref qt, .int x, .int (nI pl), .int th, .int tu, .int ca])), (qt, .inl (cI, 3, .inl se)), (qb, .inr (0, [.ref qp, .ref qs, .ref qr, .ref qf, .int fl])), (qp, .inl (cI, 12, .inl pr)), (qs, .inl (cI, 12, .inl sb)), (qr, .inl (cI, 4, .inl br)), (qf, .inl (cI, 4, .inl fe)), (qR, .inr (4, [.ref qn])), (qn, .inl (cI, 36, .inl nd))] sz) [(qX, .inr (5, [.ref qg, .ref wg, .ref qR, .ref qd, .ref qh, .ref qk])), (qg, .inr (1, [.ref qb, .ref qt, .int x, .int (nI pl), .int th, .int tu, .int ca])), (qt, .inl (cI, 3, .inl se)), (qb, .inr (0, [.ref qp, .ref qs, .ref qr, .ref qf, .int fl])), (qp, .inl (cI, 12, .inl pr)), (qs, .inl (cI, 12, .inl sb)), (qr, .inl (cI, 4, .inl br)), (qf, .inl (cI, 4, .inl fe)), (qR, .inr (4, [.ref qn])), (qn, .inl (cI, 36, .inl u))]) (va_A [(qX, .inr (5, [.ref qg, .ref wg, .ref qR, .ref qd, .ref qh, .ref qk])), (qg, .inr (1, [.ref qb, .ref qt, .int x, .int (nI pl), .int th, .int tu, .int ca])), (qt, .inl (cI, 3, .inl se)), (qb, .inr (0, [.ref qp, .ref qs, .ref qr, .ref qf, .int fl])), (qp, .inl (cI, 12, .inl pr)), (qs, .inl (cI, 12, .inl sb)), (qr, .inl (cI, 4, .inl br)), (qf, .inl (cI, 4, .inl fe)), (qR, .inr (4, [.ref qn])), (qn, .inl (cI, 36, .inl nd))] sz)) 0 0 (va_A [(qX, .inr (5, [.ref qg, .ref wg, .ref qR, .ref qd, .ref qh, .ref qk])), (qg, .inr (1, [.ref qb, .ref qt, .int x, .int (nI pl), .int th, .int tu, .int ca])), (qt, .inl (cI, 3, .inl se)), (qb, .inr (0, [.ref qp, .ref qs, .ref qr, .ref qf, .int fl])), (qp, .inl (cI, 12, .inl pr)), (qs, .inl (cI, 12, .inl sb)), (qr, .inl (cI, 4, .inl br)), (qf, .inl (cI, 4, .inl fe)), (qR, .inr (4, [.ref qn])), (qn, .inl (cI, 36, .inl nd))] sz) := by
  refine met_bw rfl (Nat.le_of_ble_eq_true rfl) ?_
  intro p e s m below meth c ls hx hb hr hml hown hts hlocks hin hsz hP hK hD0 hX0 hl
  have hown : s.vm.findClass RX5 = some m.cls := hown
  have hl : lv_has ls 7 [(0, .ref qX), (1, .int k0), (2, .int w0)] := hl
  subst hsz
  have hD := hD0.self (sz := s.heap.size)
  generalize hAe : va_A [(qX, .inr (5, [.ref qg, .ref wg, .ref qR, .ref qd, .ref qh, .ref qk])), (qg, .inr (1, [.ref qb, .ref qt, .int x, .int (nI pl), .int th, .int tu, .int ca])), (qt, .inl (cI, 3, .inl se)), (qb, .inr (0, [.ref qp, .ref qs, .ref qr, .ref qf, .int fl])), (qp, .inl (cI, 12, .inl pr)), (qs, .inl (cI, 12, .inl sb)), (qr, .inl (cI, 4, .inl br)), (qf, .inl (cI, 4, .inl fe)), (qR, .inr (4, [.ref qn])), (qn, .inl (cI, 36, .inl nd))] s.heap.size = A at hD ⊢
  have hA : ∀ q : Nat, s.heap.size ≤ q → A q := fun q h => by rw [← hAe]; exact Or.inr h
  have hS : va_S A s.heap s.heap [] := va_S.rf
  refine lv_iload_n hx hb dX5_needs_0 rfl (lv_at hl 1 rfl) ?_
  refine vp_callSi (va_Run.run (va_runS (As := [.int k0]) (rest := []) ⟨hx, hb, hml, hown, hts⟩ (c_X5_isNoPiece l k0) (cf_RX5_116 hts ⟨Nat.le_of_ble_eq_true rfl, Nat.le_of_ble_eq_true rfl⟩) pre_P rfl rfl hl.1 rfl (lv_room (Nat.le_of_ble_eq_true rfl)) dX5_needs_1 ⟨Nat.le_of_ble_eq_true rfl, Nat.le_of_ble_eq_true rfl⟩)) (fun r916 hr916 => ?_)
  subst hr916
  refine zb_eq (tgt := 9) hx hb dX5_needs_4 (by decide) (fun c_917 => ?_) (fun c_917 => ?_)
  · obtain ⟨j, hj, rfl⟩ := np_ok c_917
    refine lv_iload_n hx hb dX5_needs_9 rfl (lv_at hl 2 rfl) ?_
    refine lv_if_eq (tgt := 21) hx hb dX5_needs_10 (by decide) (fun c_918 => ?_) (fun c_918 => ?_)
    · obtain rfl : w0 = 0 := c_918
      refine lv_iload_n hx hb dX5_needs_21 rfl (lv_at hl 1 rfl) ?_
      refine lv_iconst (v := 3) hx hb dX5_needs_22 (by decide) ?_
      refine zi_div hx hb j 3 dX5_needs_23 rfl rfl (by omega) (by decide) (by decide) ?_
      refine lv_istore_n (lv' := [(3, .int (nI (j / 3))), (0, .ref qX), (1, .int (nI j)), (2, .int 0)]) hx hb dX5_needs_24 rfl hl (by decide) rfl (fun ls hl => ?_)
      refine lv_aload_n hx hb dX5_needs_25 rfl (lv_at hl 1 rfl) ?_
      refine va_get (D := G) (ci := 5) (v := .ref qg) (C := RX5) (T := TX5) (N := 6) hx hb hts inlX5 hown hK.1 hP 0 rfl rfl 0 (by decide) (hts _ wd16) (fun _ h9 => h9) rfl dX5_needs_26 ?_
      refine va_getN (D := G) (ci := 1) (v := .ref qb) (C := RX1) (T := TX1) (N := 7) hx hb hts inlX1 hown hK.1 hP 1 rfl rfl 0 (by decide) (va_Nw.use rfl (hK.2 _ nw9)) (fun _ h9 => h9) rfl dX5_needs_29 ?_
      refine va_getN (D := G) (ci := 0) (v := .ref qp) (C := RX0) (T := TX0) (N := 5) hx hb hts inlX0 hown hK.1 hP 3 rfl rfl 0 (by decide) (va_Nw.use rfl (hK.2 _ nw3)) (fun _ h9 => h9) rfl dX5_needs_32 ?_
      refine lv_iload_n hx hb dX5_needs_35 rfl (lv_at hl 2 rfl) ?_
      refine za_ld hx hb hK.1 hP 4 0 rfl rfl j rfl (by omega) (by decide) dX5_needs_36 ?_
      rcases hpr j hj with ea | ⟨a, ha, ea⟩
      · rw [ea]
        refine lv_istore (lv' := [(4, .int (-6)), (3, .int (nI (j / 3))), (0, .ref qX), (1, .int (nI j)), (2, .int 0)]) hx hb dX5_needs_37 hl (by decide) rfl (fun ls hl => ?_)
        refine lv_iload hx hb dX5_needs_39 (lv_at hl 0 rfl) ?_
        refine lv_bipush (v := (-6)) hx hb dX5_needs_41 (by decide) ?_
        refine lv_icmp_ne (tgt := 50) hx hb dX5_needs_43 (by decide) (fun c_919 => ?_) (fun c_919 => ?_)
        · exact absurd c_919 (by decide)
        · refine lv_iconst (v := 1) hx hb dX5_needs_46 (by decide) ?_
          refine lv_goto (tgt := 51) hx hb dX5_needs_47 (by decide) ?_
          refine lv_istore (lv' := [(5, .int 1), (4, .int (-6)), (3, .int (nI (j / 3))), (0, .ref qX), (1, .int (nI j)), (2, .int 0)]) hx hb dX5_needs_51 hl (by decide) rfl (fun ls hl => ?_)
          refine lv_iload hx hb dX5_needs_53 (lv_at hl 1 rfl) ?_
          refine lv_bipush (v := (-6)) hx hb dX5_needs_55 (by decide) ?_
          refine lv_icmp_ne (tgt := 64) hx hb dX5_needs_57 (by decide) (fun c_920 => ?_) (fun c_920 => ?_)
          · exact absurd c_920 (by decide)
          · refine lv_iconst (v := 0) hx hb dX5_needs_60 (by decide) ?_
            refine lv_goto (tgt := 66) hx hb dX5_needs_61 (by decide) ?_
            refine lv_istore (lv' := [(6, .int 0), (5, .int 1), (4, .int (-6)), (3, .int (nI (j / 3))), (0, .ref qX), (1, .int (nI j)), (2, .int 0)]) hx hb dX5_needs_66 hl (by decide) rfl (fun ls hl => ?_)
            refine lv_iload hx hb dX5_needs_68 (lv_at hl 1 rfl) ?_
            refine lv_iload_n hx hb dX5_needs_70 rfl (lv_at hl 6 rfl) ?_
            refine lv_if_ne (tgt := 94) hx hb dX5_needs_71 (by decide) (fun c_921 => ?_) (fun c_921 => ?_)
            · exact absurd c_921 (by decide)
            · refine lv_aload_n hx hb dX5_needs_74 rfl (lv_at hl 4 rfl) ?_
              refine va_get (D := G) (ci := 5) (v := .ref qR) (C := RX5) (T := TX5) (N := 6) hx hb hts inlX5 hown hK.1 hP 0 rfl rfl 2 (by decide) (hts _ wd21) (fun _ h9 => h9) rfl dX5_needs_75 ?_
              refine lv_aload_n hx hb dX5_needs_78 rfl (lv_at hl 4 rfl) ?_
              refine va_get (D := G) (ci := 5) (v := .ref qg) (C := RX5) (T := TX5) (N := 6) hx hb hts inlX5 hown hK.1 hP 0 rfl rfl 0 (by decide) (hts _ wd16) (fun _ h9 => h9) rfl dX5_needs_79 ?_
              refine va_getN (D := G) (ci := 1) (v := .ref qb) (C := RX1) (T := TX1) (N := 7) hx hb hts inlX1 hown hK.1 hP 1 rfl rfl 0 (by decide) (va_Nw.use rfl (hK.2 _ nw9)) (fun _ h9 => h9) rfl dX5_needs_82 ?_
              refine lv_iload_n hx hb dX5_needs_85 rfl (lv_at hl 3 rfl) ?_
              refine lv_iload hx hb dX5_needs_86 (lv_at hl 0 rfl) ?_
              have hPc := hP.sub (ws' := [(qR, .inr (4, [.ref qn])), (qn, .inl (cI, 36, .inl nd)), (qb, .inr (0, [.ref qp, .ref qs, .ref qr, .ref qf, .int fl])), (qp, .inl (cI, 12, .inl pr)), (qs, .inl (cI, 12, .inl sb)), (qr, .inl (cI, 4, .inl br)), (qf, .inl (cI, 4, .inl fe))]) [8, 9, 3, 4, 5, 6, 7] rfl
              have hDc := (hD.sub (ws' := [(qR, .inr (4, [.ref qn])), (qn, .inl (cI, 36, .inl nd)), (qb, .inr (0, [.ref qp, .ref qs, .ref qr, .ref qf, .int fl])), (qp, .inl (cI, 12, .inl pr)), (qs, .inl (cI, 12, .inl sb)), (qr, .inl (cI, 4, .inl br)), (qf, .inl (cI, 4, .inl fe))]) [8, 9, 3, 4, 5, 6, 7] (by decide) rfl).tt
              have hFc := va_free (wc := [(qR, .inr (4, [.ref qn])), (qn, .inl (cI, 36, .inl nd)), (qb, .inr (0, [.ref qp, .ref qs, .ref qr, .ref qf, .int fl])), (qp, .inl (cI, 12, .inl pr)), (qs, .inl (cI, 12, .inl sb)), (qr, .inl (cI, 4, .inl br)), (qf, .inl (cI, 4, .inl fe))]) hD hS hA [8, 9, 3, 4, 5, 6, 7] rfl
              refine va_calli (va_runVN (As := [.ref qb, .int (nI (j / 3)), .int 0]) (rest := [.int 1]) ⟨hx, hb, hml, hown, hts⟩ (c_X4_fromHomeOn l G cI cC cZ cG s.heap.size qR qn nd qb qp qs qr qf pr sb br fe fl (j / 3) 0 (by omega) (by omega)) (cf_RX5_186 hts hK.2 ⟨Nat.le_of_ble_eq_true rfl, Nat.le_of_ble_eq_true rfl⟩) (pre_V hK hPc hDc (ci := 4) (q0 := 0) rfl rfl) rfl rfl hl.1 rfl (lv_room (Nat.le_of_ble_eq_true rfl)) dX5_needs_88 ⟨Nat.le_of_ble_eq_true rfl, Nat.le_of_ble_eq_true rfl⟩) hS (fun q _ h => hFc q h) hFc (fun r922 u922 t922 H922 locs922 ht922 hvm922 hw922 hB922 hz922 hk922 hS => ?_)
              obtain ⟨nd922, rfl⟩ : ∃ z, z = u922 := ⟨_, rfl⟩
              obtain ⟨hP1, hD1⟩ := hB922
              rw [ht922] at hP1
              try dsimp only at hw922
              obtain ⟨hr922, hw922⟩ := hw922
              subst hr922
              obtain ⟨hP, hD⟩ := va_join (wr := [(qX, .inr (5, [.ref qg, .ref wg, .ref qR, .ref qd, .ref qh, .ref qk])), (qg, .inr (1, [.ref qb, .ref qt, .int x, .int (nI pl), .int th, .int tu, .int ca])), (qt, .inl (cI, 3, .inl se))]) (w1 := [(qR, .inr (4, [.ref qn])), (qn, .inl (cI, 36, .inl nd922)), (qb, .inr (0, [.ref qp, .ref qs, .ref qr, .ref qf, .int fl])), (qp, .inl (cI, 12, .inl pr)), (qs, .inl (cI, 12, .inl sb)), (qr, .inl (cI, 4, .inl br)), (qf, .inl (cI, 4, .inl fe))]) hP hD [8, 9, 3, 4, 5, 6, 7] [0, 1, 2] rfl rfl (by decide) (by decide) hk922 hFc hP1 hD1
              have hP : va_P G vwCl [(qX, .inr (5, [.ref qg, .ref wg, .ref qR, .ref qd, .ref qh, .ref qk])), (qg, .inr (1, [.ref qb, .ref qt, .int x, .int (nI pl), .int th, .int tu, .int ca])), (qt, .inl (cI, 3, .inl se)), (qR, .inr (4, [.ref qn])), (qn, .inl (cI, 36, .inl nd922)), (qb, .inr (0, [.ref qp, .ref qs, .ref qr, .ref qf, .int fl])), (qp, .inl (cI, 12, .inl pr)), (qs, .inl (cI, 12, .inl sb)), (qr, .inl (cI, 4, .inl br)), (qf, .inl (cI, 4, .inl fe))] H922 := hP
              have hD : va_D A [(qX, .inr (5, [.ref qg, .ref wg, .ref qR, .ref qd, .ref qh, .ref qk])), (qg, .inr (1, [.ref qb, .ref qt, .int x, .int (nI pl), .int th, .int tu, .int ca])), (qt, .inl (cI, 3, .inl se)), (qR, .inr (4, [.ref qn])), (qn, .inl (cI, 36, .inl nd922)), (qb, .inr (0, [.ref qp, .ref qs, .ref qr, .ref qf, .int fl])), (qp, .inl (cI, 12, .inl pr)), (qs, .inl (cI, 12, .inl sb)), (qr, .inl (cI, 4, .inl br)), (qf, .inl (cI, 4, .inl fe))] := hD
              refine lv_goto (tgt := 111) hx hb dX5_needs_91 (by decide) ?_
              refine lv_iadd hx hb dX5_needs_111 ?_
              have hP := hP.sub (ws' := [(qX, .inr (5, [.ref qg, .ref wg, .ref qR, .ref qd, .ref qh, .ref qk])), (qg, .inr (1, [.ref qb, .ref qt, .int x, .int (nI pl), .int th, .int tu, .int ca])), (qt, .inl (cI, 3, .inl se)), (qb, .inr (0, [.ref qp, .ref qs, .ref qr, .ref qf, .int fl])), (qp, .inl (cI, 12, .inl pr)), (qs, .inl (cI, 12, .inl sb)), (qr, .inl (cI, 4, .inl br)), (qf, .inl (cI, 4, .inl fe)), (qR, .inr (4, [.ref qn])), (qn, .inl (cI, 36, .inl nd922))]) [0, 1, 2, 5, 6, 7, 8, 9, 3, 4] rfl
              have hD := hD.sub (ws' := [(qX, .inr (5, [.ref qg, .ref wg, .ref qR, .ref qd, .ref qh, .ref qk])), (qg, .inr (1, [.ref qb, .ref qt, .int x, .int (nI pl), .int th, .int tu, .int ca])), (qt, .inl (cI, 3, .inl se)), (qb, .inr (0, [.ref qp, .ref qs, .ref qr, .ref qf, .int fl])), (qp, .inl (cI, 12, .inl pr)), (qs, .inl (cI, 12, .inl sb)), (qr, .inl (cI, 4, .inl br)), (qf, .inl (cI, 4, .inl fe)), (qR, .inr (4, [.ref qn])), (qn, .inl (cI, 36, .inl nd922))]) [0, 1, 2, 5, 6, 7, 8, 9, 3, 4] (by decide) rfl
              exact W.iret (v := 1 + (tnW nd br (j / 3) 0)) hx hb hr (fun t ht hW => ⟨⟨1 + (tnW nd br (j / 3) 0), nd922, rfl, ⟨by rw [p_needs, if_neg c_917, if_neg (fun q => q.1 (by decide)), (show (nI j).toNatClampNeg = j from nI_clamp (by omega)), ea, if_pos rfl, if_pos rfl] <;> rfl, trivial⟩, by rw [ht]; exact hP, hD⟩, hS.F ht⟩) hS.2.2 dX5_needs_112
      · rw [ea]
        refine lv_istore (lv' := [(4, .int (nI a)), (3, .int (nI (j / 3))), (0, .ref qX), (1, .int (nI j)), (2, .int 0)]) hx hb dX5_needs_37 hl (by decide) rfl (fun ls hl => ?_)
        refine lv_iload hx hb dX5_needs_39 (lv_at hl 0 rfl) ?_
        refine lv_bipush (v := (-6)) hx hb dX5_needs_41 (by decide) ?_
        refine lv_icmp_ne (tgt := 50) hx hb dX5_needs_43 (by decide) (fun c_923 => ?_) (fun c_923 => ?_)
        · refine lv_iconst (v := 0) hx hb dX5_needs_50 (by decide) ?_
          refine lv_istore (lv' := [(5, .int 0), (4, .int (nI a)), (3, .int (nI (j / 3))), (0, .ref qX), (1, .int (nI j)), (2, .int 0)]) hx hb dX5_needs_51 hl (by decide) rfl (fun ls hl => ?_)
          refine lv_iload hx hb dX5_needs_53 (lv_at hl 1 rfl) ?_
          refine lv_bipush (v := (-6)) hx hb dX5_needs_55 (by decide) ?_
          refine lv_icmp_ne (tgt := 64) hx hb dX5_needs_57 (by decide) (fun c_924 => ?_) (fun c_924 => ?_)
          · refine lv_iload hx hb dX5_needs_64 (lv_at hl 1 rfl) ?_
            refine lv_istore (lv' := [(6, .int (nI a)), (5, .int 0), (4, .int (nI a)), (3, .int (nI (j / 3))), (0, .ref qX), (1, .int (nI j)), (2, .int 0)]) hx hb dX5_needs_66 hl (by decide) rfl (fun ls hl => ?_)
            refine lv_iload hx hb dX5_needs_68 (lv_at hl 1 rfl) ?_
            refine lv_iload_n hx hb dX5_needs_70 rfl (lv_at hl 6 rfl) ?_
            refine lv_if_ne (tgt := 94) hx hb dX5_needs_71 (by decide) (fun c_925 => ?_) (fun c_925 => ?_)
            · exact absurd c_925 (by decide)
            · refine lv_aload_n hx hb dX5_needs_74 rfl (lv_at hl 4 rfl) ?_
              refine va_get (D := G) (ci := 5) (v := .ref qR) (C := RX5) (T := TX5) (N := 6) hx hb hts inlX5 hown hK.1 hP 0 rfl rfl 2 (by decide) (hts _ wd21) (fun _ h9 => h9) rfl dX5_needs_75 ?_
              refine lv_aload_n hx hb dX5_needs_78 rfl (lv_at hl 4 rfl) ?_
              refine va_get (D := G) (ci := 5) (v := .ref qg) (C := RX5) (T := TX5) (N := 6) hx hb hts inlX5 hown hK.1 hP 0 rfl rfl 0 (by decide) (hts _ wd16) (fun _ h9 => h9) rfl dX5_needs_79 ?_
              refine va_getN (D := G) (ci := 1) (v := .ref qb) (C := RX1) (T := TX1) (N := 7) hx hb hts inlX1 hown hK.1 hP 1 rfl rfl 0 (by decide) (va_Nw.use rfl (hK.2 _ nw9)) (fun _ h9 => h9) rfl dX5_needs_82 ?_
              refine lv_iload_n hx hb dX5_needs_85 rfl (lv_at hl 3 rfl) ?_
              refine lv_iload hx hb dX5_needs_86 (lv_at hl 0 rfl) ?_
              have hPc := hP.sub (ws' := [(qR, .inr (4, [.ref qn])), (qn, .inl (cI, 36, .inl nd)), (qb, .inr (0, [.ref qp, .ref qs, .ref qr, .ref qf, .int fl])), (qp, .inl (cI, 12, .inl pr)), (qs, .inl (cI, 12, .inl sb)), (qr, .inl (cI, 4, .inl br)), (qf, .inl (cI, 4, .inl fe))]) [8, 9, 3, 4, 5, 6, 7] rfl
              have hDc := (hD.sub (ws' := [(qR, .inr (4, [.ref qn])), (qn, .inl (cI, 36, .inl nd)), (qb, .inr (0, [.ref qp, .ref qs, .ref qr, .ref qf, .int fl])), (qp, .inl (cI, 12, .inl pr)), (qs, .inl (cI, 12, .inl sb)), (qr, .inl (cI, 4, .inl br)), (qf, .inl (cI, 4, .inl fe))]) [8, 9, 3, 4, 5, 6, 7] (by decide) rfl).tt
              have hFc := va_free (wc := [(qR, .inr (4, [.ref qn])), (qn, .inl (cI, 36, .inl nd)), (qb, .inr (0, [.ref qp, .ref qs, .ref qr, .ref qf, .int fl])), (qp, .inl (cI, 12, .inl pr)), (qs, .inl (cI, 12, .inl sb)), (qr, .inl (cI, 4, .inl br)), (qf, .inl (cI, 4, .inl fe))]) hD hS hA [8, 9, 3, 4, 5, 6, 7] rfl
              refine va_calli (va_runVN (As := [.ref qb, .int (nI (j / 3)), .int (nI a)]) (rest := [.int 0]) ⟨hx, hb, hml, hown, hts⟩ (c_X4_fromHomeOn l G cI cC cZ cG s.heap.size qR qn nd qb qp qs qr qf pr sb br fe fl (j / 3) a (by omega) (by omega)) (cf_RX5_186 hts hK.2 ⟨Nat.le_of_ble_eq_true rfl, Nat.le_of_ble_eq_true rfl⟩) (pre_V hK hPc hDc (ci := 4) (q0 := 0) rfl rfl) rfl rfl hl.1 rfl (lv_room (Nat.le_of_ble_eq_true rfl)) dX5_needs_88 ⟨Nat.le_of_ble_eq_true rfl, Nat.le_of_ble_eq_true rfl⟩) hS (fun q _ h => hFc q h) hFc (fun r926 u926 t926 H926 locs926 ht926 hvm926 hw926 hB926 hz926 hk926 hS => ?_)
              obtain ⟨nd926, rfl⟩ : ∃ z, z = u926 := ⟨_, rfl⟩
              obtain ⟨hP1, hD1⟩ := hB926
              rw [ht926] at hP1
              try dsimp only at hw926
              obtain ⟨hr926, hw926⟩ := hw926
              subst hr926
              obtain ⟨hP, hD⟩ := va_join (wr := [(qX, .inr (5, [.ref qg, .ref wg, .ref qR, .ref qd, .ref qh, .ref qk])), (qg, .inr (1, [.ref qb, .ref qt, .int x, .int (nI pl), .int th, .int tu, .int ca])), (qt, .inl (cI, 3, .inl se))]) (w1 := [(qR, .inr (4, [.ref qn])), (qn, .inl (cI, 36, .inl nd926)), (qb, .inr (0, [.ref qp, .ref qs, .ref qr, .ref qf, .int fl])), (qp, .inl (cI, 12, .inl pr)), (qs, .inl (cI, 12, .inl sb)), (qr, .inl (cI, 4, .inl br)), (qf, .inl (cI, 4, .inl fe))]) hP hD [8, 9, 3, 4, 5, 6, 7] [0, 1, 2] rfl rfl (by decide) (by decide) hk926 hFc hP1 hD1
              have hP : va_P G vwCl [(qX, .inr (5, [.ref qg, .ref wg, .ref qR, .ref qd, .ref qh, .ref qk])), (qg, .inr (1, [.ref qb, .ref qt, .int x, .int (nI pl), .int th, .int tu, .int ca])), (qt, .inl (cI, 3, .inl se)), (qR, .inr (4, [.ref qn])), (qn, .inl (cI, 36, .inl nd926)), (qb, .inr (0, [.ref qp, .ref qs, .ref qr, .ref qf, .int fl])), (qp, .inl (cI, 12, .inl pr)), (qs, .inl (cI, 12, .inl sb)), (qr, .inl (cI, 4, .inl br)), (qf, .inl (cI, 4, .inl fe))] H926 := hP
              have hD : va_D A [(qX, .inr (5, [.ref qg, .ref wg, .ref qR, .ref qd, .ref qh, .ref qk])), (qg, .inr (1, [.ref qb, .ref qt, .int x, .int (nI pl), .int th, .int tu, .int ca])), (qt, .inl (cI, 3, .inl se)), (qR, .inr (4, [.ref qn])), (qn, .inl (cI, 36, .inl nd926)), (qb, .inr (0, [.ref qp, .ref qs, .ref qr, .ref qf, .int fl])), (qp, .inl (cI, 12, .inl pr)), (qs, .inl (cI, 12, .inl sb)), (qr, .inl (cI, 4, .inl br)), (qf, .inl (cI, 4, .inl fe))] := hD
              refine lv_goto (tgt := 111) hx hb dX5_needs_91 (by decide) ?_
              refine lv_iadd hx hb dX5_needs_111 ?_
              have hP := hP.sub (ws' := [(qX, .inr (5, [.ref qg, .ref wg, .ref qR, .ref qd, .ref qh, .ref qk])), (qg, .inr (1, [.ref qb, .ref qt, .int x, .int (nI pl), .int th, .int tu, .int ca])), (qt, .inl (cI, 3, .inl se)), (qb, .inr (0, [.ref qp, .ref qs, .ref qr, .ref qf, .int fl])), (qp, .inl (cI, 12, .inl pr)), (qs, .inl (cI, 12, .inl sb)), (qr, .inl (cI, 4, .inl br)), (qf, .inl (cI, 4, .inl fe)), (qR, .inr (4, [.ref qn])), (qn, .inl (cI, 36, .inl nd926))]) [0, 1, 2, 5, 6, 7, 8, 9, 3, 4] rfl
              have hD := hD.sub (ws' := [(qX, .inr (5, [.ref qg, .ref wg, .ref qR, .ref qd, .ref qh, .ref qk])), (qg, .inr (1, [.ref qb, .ref qt, .int x, .int (nI pl), .int th, .int tu, .int ca])), (qt, .inl (cI, 3, .inl se)), (qb, .inr (0, [.ref qp, .ref qs, .ref qr, .ref qf, .int fl])), (qp, .inl (cI, 12, .inl pr)), (qs, .inl (cI, 12, .inl sb)), (qr, .inl (cI, 4, .inl br)), (qf, .inl (cI, 4, .inl fe)), (qR, .inr (4, [.ref qn])), (qn, .inl (cI, 36, .inl nd926))]) [0, 1, 2, 5, 6, 7, 8, 9, 3, 4] (by decide) rfl
              exact W.iret (v := 0 + (tnW nd br (j / 3) a)) hx hb hr (fun t ht hW => ⟨⟨0 + (tnW nd br (j / 3) a), nd926, rfl, ⟨by rw [p_needs, if_neg c_917, if_neg (fun q => q.1 (by decide)), (show (nI j).toNatClampNeg = j from nI_clamp (by omega)), ea, if_neg (nI_neg (by omega) (by decide)), (show (nI a).toNatClampNeg = a from nI_clamp (by omega)), if_pos rfl] <;> rfl, trivial⟩, by rw [ht]; exact hP, hD⟩, hS.F ht⟩) hS.2.2 dX5_needs_112
          · exact absurd c_924 (nI_neg (by omega) (by decide))
        · exact absurd c_923 (nI_neg (by omega) (by decide))
    · refine lv_iload_n hx hb dX5_needs_13 rfl (lv_at hl 2 rfl) ?_
      refine lv_iconst (v := 1) hx hb dX5_needs_14 (by decide) ?_
      refine lv_icmp_eq (tgt := 21) hx hb dX5_needs_15 (by decide) (fun c_927 => ?_) (fun c_927 => ?_)
      · obtain rfl : w0 = 1 := c_927
        refine lv_iload_n hx hb dX5_needs_21 rfl (lv_at hl 1 rfl) ?_
        refine lv_iconst (v := 3) hx hb dX5_needs_22 (by decide) ?_
        refine zi_div hx hb j 3 dX5_needs_23 rfl rfl (by omega) (by decide) (by decide) ?_
        refine lv_istore_n (lv' := [(3, .int (nI (j / 3))), (0, .ref qX), (1, .int (nI j)), (2, .int 1)]) hx hb dX5_needs_24 rfl hl (by decide) rfl (fun ls hl => ?_)
        refine lv_aload_n hx hb dX5_needs_25 rfl (lv_at hl 1 rfl) ?_
        refine va_get (D := G) (ci := 5) (v := .ref qg) (C := RX5) (T := TX5) (N := 6) hx hb hts inlX5 hown hK.1 hP 0 rfl rfl 0 (by decide) (hts _ wd16) (fun _ h9 => h9) rfl dX5_needs_26 ?_
        refine va_getN (D := G) (ci := 1) (v := .ref qb) (C := RX1) (T := TX1) (N := 7) hx hb hts inlX1 hown hK.1 hP 1 rfl rfl 0 (by decide) (va_Nw.use rfl (hK.2 _ nw9)) (fun _ h9 => h9) rfl dX5_needs_29 ?_
        refine va_getN (D := G) (ci := 0) (v := .ref qp) (C := RX0) (T := TX0) (N := 5) hx hb hts inlX0 hown hK.1 hP 3 rfl rfl 0 (by decide) (va_Nw.use rfl (hK.2 _ nw3)) (fun _ h9 => h9) rfl dX5_needs_32 ?_
        refine lv_iload_n hx hb dX5_needs_35 rfl (lv_at hl 2 rfl) ?_
        refine za_ld hx hb hK.1 hP 4 0 rfl rfl j rfl (by omega) (by decide) dX5_needs_36 ?_
        rcases hpr j hj with ea | ⟨a, ha, ea⟩
        · rw [ea]
          refine lv_istore (lv' := [(4, .int (-6)), (3, .int (nI (j / 3))), (0, .ref qX), (1, .int (nI j)), (2, .int 1)]) hx hb dX5_needs_37 hl (by decide) rfl (fun ls hl => ?_)
          refine lv_iload hx hb dX5_needs_39 (lv_at hl 0 rfl) ?_
          refine lv_bipush (v := (-6)) hx hb dX5_needs_41 (by decide) ?_
          refine lv_icmp_ne (tgt := 50) hx hb dX5_needs_43 (by decide) (fun c_928 => ?_) (fun c_928 => ?_)
          · exact absurd c_928 (by decide)
          · refine lv_iconst (v := 1) hx hb dX5_needs_46 (by decide) ?_
            refine lv_goto (tgt := 51) hx hb dX5_needs_47 (by decide) ?_
            refine lv_istore (lv' := [(5, .int 1), (4, .int (-6)), (3, .int (nI (j / 3))), (0, .ref qX), (1, .int (nI j)), (2, .int 1)]) hx hb dX5_needs_51 hl (by decide) rfl (fun ls hl => ?_)
            refine lv_iload hx hb dX5_needs_53 (lv_at hl 1 rfl) ?_
            refine lv_bipush (v := (-6)) hx hb dX5_needs_55 (by decide) ?_
            refine lv_icmp_ne (tgt := 64) hx hb dX5_needs_57 (by decide) (fun c_929 => ?_) (fun c_929 => ?_)
            · exact absurd c_929 (by decide)
            · refine lv_iconst (v := 0) hx hb dX5_needs_60 (by decide) ?_
              refine lv_goto (tgt := 66) hx hb dX5_needs_61 (by decide) ?_
              refine lv_istore (lv' := [(6, .int 0), (5, .int 1), (4, .int (-6)), (3, .int (nI (j / 3))), (0, .ref qX), (1, .int (nI j)), (2, .int 1)]) hx hb dX5_needs_66 hl (by decide) rfl (fun ls hl => ?_)
              refine lv_iload hx hb dX5_needs_68 (lv_at hl 1 rfl) ?_
              refine lv_iload_n hx hb dX5_needs_70 rfl (lv_at hl 6 rfl) ?_
              refine lv_if_ne (tgt := 94) hx hb dX5_needs_71 (by decide) (fun c_930 => ?_) (fun c_930 => ?_)
              · refine lv_aload_n hx hb dX5_needs_94 rfl (lv_at hl 4 rfl) ?_
                refine va_get (D := G) (ci := 5) (v := .ref qR) (C := RX5) (T := TX5) (N := 6) hx hb hts inlX5 hown hK.1 hP 0 rfl rfl 2 (by decide) (hts _ wd21) (fun _ h9 => h9) rfl dX5_needs_95 ?_
                refine lv_aload_n hx hb dX5_needs_98 rfl (lv_at hl 4 rfl) ?_
                refine va_get (D := G) (ci := 5) (v := .ref qg) (C := RX5) (T := TX5) (N := 6) hx hb hts inlX5 hown hK.1 hP 0 rfl rfl 0 (by decide) (hts _ wd16) (fun _ h9 => h9) rfl dX5_needs_99 ?_
                refine va_getN (D := G) (ci := 1) (v := .ref qb) (C := RX1) (T := TX1) (N := 7) hx hb hts inlX1 hown hK.1 hP 1 rfl rfl 0 (by decide) (va_Nw.use rfl (hK.2 _ nw9)) (fun _ h9 => h9) rfl dX5_needs_102 ?_
                refine lv_iload_n hx hb dX5_needs_105 rfl (lv_at hl 3 rfl) ?_
                refine lv_iload hx hb dX5_needs_106 (lv_at hl 0 rfl) ?_
                have hPc := hP.sub (ws' := [(qR, .inr (4, [.ref qn])), (qn, .inl (cI, 36, .inl nd)), (qb, .inr (0, [.ref qp, .ref qs, .ref qr, .ref qf, .int fl])), (qp, .inl (cI, 12, .inl pr)), (qs, .inl (cI, 12, .inl sb)), (qr, .inl (cI, 4, .inl br)), (qf, .inl (cI, 4, .inl fe))]) [8, 9, 3, 4, 5, 6, 7] rfl
                have hDc := (hD.sub (ws' := [(qR, .inr (4, [.ref qn])), (qn, .inl (cI, 36, .inl nd)), (qb, .inr (0, [.ref qp, .ref qs, .ref qr, .ref qf, .int fl])), (qp, .inl (cI, 12, .inl pr)), (qs, .inl (cI, 12, .inl sb)), (qr, .inl (cI, 4, .inl br)), (qf, .inl (cI, 4, .inl fe))]) [8, 9, 3, 4, 5, 6, 7] (by decide) rfl).tt
                have hFc := va_free (wc := [(qR, .inr (4, [.ref qn])), (qn, .inl (cI, 36, .inl nd)), (qb, .inr (0, [.ref qp, .ref qs, .ref qr, .ref qf, .int fl])), (qp, .inl (cI, 12, .inl pr)), (qs, .inl (cI, 12, .inl sb)), (qr, .inl (cI, 4, .inl br)), (qf, .inl (cI, 4, .inl fe))]) hD hS hA [8, 9, 3, 4, 5, 6, 7] rfl
                refine va_calli (va_runVN (As := [.ref qb, .int (nI (j / 3)), .int 0]) (rest := [.int 1]) ⟨hx, hb, hml, hown, hts⟩ (c_X4_goingWide l G cI cC cZ cG s.heap.size qR qn nd qb qp qs qr qf pr sb br fe fl (j / 3) 0 (by omega) (by omega)) (cf_RX5_190 hts hK.2 ⟨Nat.le_of_ble_eq_true rfl, Nat.le_of_ble_eq_true rfl⟩) (pre_V hK hPc hDc (ci := 4) (q0 := 0) rfl rfl) rfl rfl hl.1 rfl (lv_room (Nat.le_of_ble_eq_true rfl)) dX5_needs_108 ⟨Nat.le_of_ble_eq_true rfl, Nat.le_of_ble_eq_true rfl⟩) hS (fun q _ h => hFc q h) hFc (fun r931 u931 t931 H931 locs931 ht931 hvm931 hw931 hB931 hz931 hk931 hS => ?_)
                obtain ⟨nd931, rfl⟩ : ∃ z, z = u931 := ⟨_, rfl⟩
                obtain ⟨hP1, hD1⟩ := hB931
                rw [ht931] at hP1
                try dsimp only at hw931
                obtain ⟨hr931, hw931⟩ := hw931
                subst hr931
                obtain ⟨hP, hD⟩ := va_join (wr := [(qX, .inr (5, [.ref qg, .ref wg, .ref qR, .ref qd, .ref qh, .ref qk])), (qg, .inr (1, [.ref qb, .ref qt, .int x, .int (nI pl), .int th, .int tu, .int ca])), (qt, .inl (cI, 3, .inl se))]) (w1 := [(qR, .inr (4, [.ref qn])), (qn, .inl (cI, 36, .inl nd931)), (qb, .inr (0, [.ref qp, .ref qs, .ref qr, .ref qf, .int fl])), (qp, .inl (cI, 12, .inl pr)), (qs, .inl (cI, 12, .inl sb)), (qr, .inl (cI, 4, .inl br)), (qf, .inl (cI, 4, .inl fe))]) hP hD [8, 9, 3, 4, 5, 6, 7] [0, 1, 2] rfl rfl (by decide) (by decide) hk931 hFc hP1 hD1
                have hP : va_P G vwCl [(qX, .inr (5, [.ref qg, .ref wg, .ref qR, .ref qd, .ref qh, .ref qk])), (qg, .inr (1, [.ref qb, .ref qt, .int x, .int (nI pl), .int th, .int tu, .int ca])), (qt, .inl (cI, 3, .inl se)), (qR, .inr (4, [.ref qn])), (qn, .inl (cI, 36, .inl nd931)), (qb, .inr (0, [.ref qp, .ref qs, .ref qr, .ref qf, .int fl])), (qp, .inl (cI, 12, .inl pr)), (qs, .inl (cI, 12, .inl sb)), (qr, .inl (cI, 4, .inl br)), (qf, .inl (cI, 4, .inl fe))] H931 := hP
                have hD : va_D A [(qX, .inr (5, [.ref qg, .ref wg, .ref qR, .ref qd, .ref qh, .ref qk])), (qg, .inr (1, [.ref qb, .ref qt, .int x, .int (nI pl), .int th, .int tu, .int ca])), (qt, .inl (cI, 3, .inl se)), (qR, .inr (4, [.ref qn])), (qn, .inl (cI, 36, .inl nd931)), (qb, .inr (0, [.ref qp, .ref qs, .ref qr, .ref qf, .int fl])), (qp, .inl (cI, 12, .inl pr)), (qs, .inl (cI, 12, .inl sb)), (qr, .inl (cI, 4, .inl br)), (qf, .inl (cI, 4, .inl fe))] := hD
                refine lv_iadd hx hb dX5_needs_111 ?_
                have hP := hP.sub (ws' := [(qX, .inr (5, [.ref qg, .ref wg, .ref qR, .ref qd, .ref qh, .ref qk])), (qg, .inr (1, [.ref qb, .ref qt, .int x, .int (nI pl), .int th, .int tu, .int ca])), (qt, .inl (cI, 3, .inl se)), (qb, .inr (0, [.ref qp, .ref qs, .ref qr, .ref qf, .int fl])), (qp, .inl (cI, 12, .inl pr)), (qs, .inl (cI, 12, .inl sb)), (qr, .inl (cI, 4, .inl br)), (qf, .inl (cI, 4, .inl fe)), (qR, .inr (4, [.ref qn])), (qn, .inl (cI, 36, .inl nd931))]) [0, 1, 2, 5, 6, 7, 8, 9, 3, 4] rfl
                have hD := hD.sub (ws' := [(qX, .inr (5, [.ref qg, .ref wg, .ref qR, .ref qd, .ref qh, .ref qk])), (qg, .inr (1, [.ref qb, .ref qt, .int x, .int (nI pl), .int th, .int tu, .int ca])), (qt, .inl (cI, 3, .inl se)), (qb, .inr (0, [.ref qp, .ref qs, .ref qr, .ref qf, .int fl])), (qp, .inl (cI, 12, .inl pr)), (qs, .inl (cI, 12, .inl sb)), (qr, .inl (cI, 4, .inl br)), (qf, .inl (cI, 4, .inl fe)), (qR, .inr (4, [.ref qn])), (qn, .inl (cI, 36, .inl nd931))]) [0, 1, 2, 5, 6, 7, 8, 9, 3, 4] (by decide) rfl
                exact W.iret (v := 1 + (ndW nd br (j / 3) 0 35)) hx hb hr (fun t ht hW => ⟨⟨1 + (ndW nd br (j / 3) 0 35), nd931, rfl, ⟨by rw [p_needs, if_neg c_917, if_neg (fun q => q.2 (by decide)), (show (nI j).toNatClampNeg = j from nI_clamp (by omega)), ea, if_pos rfl, if_neg (by decide)] <;> rfl, trivial⟩, by rw [ht]; exact hP, hD⟩, hS.F ht⟩) hS.2.2 dX5_needs_112
              · exact absurd c_930 (by decide)
        · rw [ea]
          refine lv_istore (lv' := [(4, .int (nI a)), (3, .int (nI (j / 3))), (0, .ref qX), (1, .int (nI j)), (2, .int 1)]) hx hb dX5_needs_37 hl (by decide) rfl (fun ls hl => ?_)
          refine lv_iload hx hb dX5_needs_39 (lv_at hl 0 rfl) ?_
          refine lv_bipush (v := (-6)) hx hb dX5_needs_41 (by decide) ?_
          refine lv_icmp_ne (tgt := 50) hx hb dX5_needs_43 (by decide) (fun c_932 => ?_) (fun c_932 => ?_)
          · refine lv_iconst (v := 0) hx hb dX5_needs_50 (by decide) ?_
            refine lv_istore (lv' := [(5, .int 0), (4, .int (nI a)), (3, .int (nI (j / 3))), (0, .ref qX), (1, .int (nI j)), (2, .int 1)]) hx hb dX5_needs_51 hl (by decide) rfl (fun ls hl => ?_)
            refine lv_iload hx hb dX5_needs_53 (lv_at hl 1 rfl) ?_
            refine lv_bipush (v := (-6)) hx hb dX5_needs_55 (by decide) ?_
            refine lv_icmp_ne (tgt := 64) hx hb dX5_needs_57 (by decide) (fun c_933 => ?_) (fun c_933 => ?_)
            · refine lv_iload hx hb dX5_needs_64 (lv_at hl 1 rfl) ?_
              refine lv_istore (lv' := [(6, .int (nI a)), (5, .int 0), (4, .int (nI a)), (3, .int (nI (j / 3))), (0, .ref qX), (1, .int (nI j)), (2, .int 1)]) hx hb dX5_needs_66 hl (by decide) rfl (fun ls hl => ?_)
              refine lv_iload hx hb dX5_needs_68 (lv_at hl 1 rfl) ?_
              refine lv_iload_n hx hb dX5_needs_70 rfl (lv_at hl 6 rfl) ?_
              refine lv_if_ne (tgt := 94) hx hb dX5_needs_71 (by decide) (fun c_934 => ?_) (fun c_934 => ?_)
              · refine lv_aload_n hx hb dX5_needs_94 rfl (lv_at hl 4 rfl) ?_
                refine va_get (D := G) (ci := 5) (v := .ref qR) (C := RX5) (T := TX5) (N := 6) hx hb hts inlX5 hown hK.1 hP 0 rfl rfl 2 (by decide) (hts _ wd21) (fun _ h9 => h9) rfl dX5_needs_95 ?_
                refine lv_aload_n hx hb dX5_needs_98 rfl (lv_at hl 4 rfl) ?_
                refine va_get (D := G) (ci := 5) (v := .ref qg) (C := RX5) (T := TX5) (N := 6) hx hb hts inlX5 hown hK.1 hP 0 rfl rfl 0 (by decide) (hts _ wd16) (fun _ h9 => h9) rfl dX5_needs_99 ?_
                refine va_getN (D := G) (ci := 1) (v := .ref qb) (C := RX1) (T := TX1) (N := 7) hx hb hts inlX1 hown hK.1 hP 1 rfl rfl 0 (by decide) (va_Nw.use rfl (hK.2 _ nw9)) (fun _ h9 => h9) rfl dX5_needs_102 ?_
                refine lv_iload_n hx hb dX5_needs_105 rfl (lv_at hl 3 rfl) ?_
                refine lv_iload hx hb dX5_needs_106 (lv_at hl 0 rfl) ?_
                have hPc := hP.sub (ws' := [(qR, .inr (4, [.ref qn])), (qn, .inl (cI, 36, .inl nd)), (qb, .inr (0, [.ref qp, .ref qs, .ref qr, .ref qf, .int fl])), (qp, .inl (cI, 12, .inl pr)), (qs, .inl (cI, 12, .inl sb)), (qr, .inl (cI, 4, .inl br)), (qf, .inl (cI, 4, .inl fe))]) [8, 9, 3, 4, 5, 6, 7] rfl
                have hDc := (hD.sub (ws' := [(qR, .inr (4, [.ref qn])), (qn, .inl (cI, 36, .inl nd)), (qb, .inr (0, [.ref qp, .ref qs, .ref qr, .ref qf, .int fl])), (qp, .inl (cI, 12, .inl pr)), (qs, .inl (cI, 12, .inl sb)), (qr, .inl (cI, 4, .inl br)), (qf, .inl (cI, 4, .inl fe))]) [8, 9, 3, 4, 5, 6, 7] (by decide) rfl).tt
                have hFc := va_free (wc := [(qR, .inr (4, [.ref qn])), (qn, .inl (cI, 36, .inl nd)), (qb, .inr (0, [.ref qp, .ref qs, .ref qr, .ref qf, .int fl])), (qp, .inl (cI, 12, .inl pr)), (qs, .inl (cI, 12, .inl sb)), (qr, .inl (cI, 4, .inl br)), (qf, .inl (cI, 4, .inl fe))]) hD hS hA [8, 9, 3, 4, 5, 6, 7] rfl
                refine va_calli (va_runVN (As := [.ref qb, .int (nI (j / 3)), .int (nI a)]) (rest := [.int 0]) ⟨hx, hb, hml, hown, hts⟩ (c_X4_goingWide l G cI cC cZ cG s.heap.size qR qn nd qb qp qs qr qf pr sb br fe fl (j / 3) a (by omega) (by omega)) (cf_RX5_190 hts hK.2 ⟨Nat.le_of_ble_eq_true rfl, Nat.le_of_ble_eq_true rfl⟩) (pre_V hK hPc hDc (ci := 4) (q0 := 0) rfl rfl) rfl rfl hl.1 rfl (lv_room (Nat.le_of_ble_eq_true rfl)) dX5_needs_108 ⟨Nat.le_of_ble_eq_true rfl, Nat.le_of_ble_eq_true rfl⟩) hS (fun q _ h => hFc q h) hFc (fun r935 u935 t935 H935 locs935 ht935 hvm935 hw935 hB935 hz935 hk935 hS => ?_)
                obtain ⟨nd935, rfl⟩ : ∃ z, z = u935 := ⟨_, rfl⟩
                obtain ⟨hP1, hD1⟩ := hB935
                rw [ht935] at hP1
                try dsimp only at hw935
                obtain ⟨hr935, hw935⟩ := hw935
                subst hr935
                obtain ⟨hP, hD⟩ := va_join (wr := [(qX, .inr (5, [.ref qg, .ref wg, .ref qR, .ref qd, .ref qh, .ref qk])), (qg, .inr (1, [.ref qb, .ref qt, .int x, .int (nI pl), .int th, .int tu, .int ca])), (qt, .inl (cI, 3, .inl se))]) (w1 := [(qR, .inr (4, [.ref qn])), (qn, .inl (cI, 36, .inl nd935)), (qb, .inr (0, [.ref qp, .ref qs, .ref qr, .ref qf, .int fl])), (qp, .inl (cI, 12, .inl pr)), (qs, .inl (cI, 12, .inl sb)), (qr, .inl (cI, 4, .inl br)), (qf, .inl (cI, 4, .inl fe))]) hP hD [8, 9, 3, 4, 5, 6, 7] [0, 1, 2] rfl rfl (by decide) (by decide) hk935 hFc hP1 hD1
                have hP : va_P G vwCl [(qX, .inr (5, [.ref qg, .ref wg, .ref qR, .ref qd, .ref qh, .ref qk])), (qg, .inr (1, [.ref qb, .ref qt, .int x, .int (nI pl), .int th, .int tu, .int ca])), (qt, .inl (cI, 3, .inl se)), (qR, .inr (4, [.ref qn])), (qn, .inl (cI, 36, .inl nd935)), (qb, .inr (0, [.ref qp, .ref qs, .ref qr, .ref qf, .int fl])), (qp, .inl (cI, 12, .inl pr)), (qs, .inl (cI, 12, .inl sb)), (qr, .inl (cI, 4, .inl br)), (qf, .inl (cI, 4, .inl fe))] H935 := hP
                have hD : va_D A [(qX, .inr (5, [.ref qg, .ref wg, .ref qR, .ref qd, .ref qh, .ref qk])), (qg, .inr (1, [.ref qb, .ref qt, .int x, .int (nI pl), .int th, .int tu, .int ca])), (qt, .inl (cI, 3, .inl se)), (qR, .inr (4, [.ref qn])), (qn, .inl (cI, 36, .inl nd935)), (qb, .inr (0, [.ref qp, .ref qs, .ref qr, .ref qf, .int fl])), (qp, .inl (cI, 12, .inl pr)), (qs, .inl (cI, 12, .inl sb)), (qr, .inl (cI, 4, .inl br)), (qf, .inl (cI, 4, .inl fe))] := hD
                refine lv_iadd hx hb dX5_needs_111 ?_
                have hP := hP.sub (ws' := [(qX, .inr (5, [.ref qg, .ref wg, .ref qR, .ref qd, .ref qh, .ref qk])), (qg, .inr (1, [.ref qb, .ref qt, .int x, .int (nI pl), .int th, .int tu, .int ca])), (qt, .inl (cI, 3, .inl se)), (qb, .inr (0, [.ref qp, .ref qs, .ref qr, .ref qf, .int fl])), (qp, .inl (cI, 12, .inl pr)), (qs, .inl (cI, 12, .inl sb)), (qr, .inl (cI, 4, .inl br)), (qf, .inl (cI, 4, .inl fe)), (qR, .inr (4, [.ref qn])), (qn, .inl (cI, 36, .inl nd935))]) [0, 1, 2, 5, 6, 7, 8, 9, 3, 4] rfl
                have hD := hD.sub (ws' := [(qX, .inr (5, [.ref qg, .ref wg, .ref qR, .ref qd, .ref qh, .ref qk])), (qg, .inr (1, [.ref qb, .ref qt, .int x, .int (nI pl), .int th, .int tu, .int ca])), (qt, .inl (cI, 3, .inl se)), (qb, .inr (0, [.ref qp, .ref qs, .ref qr, .ref qf, .int fl])), (qp, .inl (cI, 12, .inl pr)), (qs, .inl (cI, 12, .inl sb)), (qr, .inl (cI, 4, .inl br)), (qf, .inl (cI, 4, .inl fe)), (qR, .inr (4, [.ref qn])), (qn, .inl (cI, 36, .inl nd935))]) [0, 1, 2, 5, 6, 7, 8, 9, 3, 4] (by decide) rfl
                exact W.iret (v := 0 + (ndW nd br (j / 3) a 35)) hx hb hr (fun t ht hW => ⟨⟨0 + (ndW nd br (j / 3) a 35), nd935, rfl, ⟨by rw [p_needs, if_neg c_917, if_neg (fun q => q.2 (by decide)), (show (nI j).toNatClampNeg = j from nI_clamp (by omega)), ea, if_neg (nI_neg (by omega) (by decide)), (show (nI a).toNatClampNeg = a from nI_clamp (by omega)), if_neg (by decide)] <;> rfl, trivial⟩, by rw [ht]; exact hP, hD⟩, hS.F ht⟩) hS.2.2 dX5_needs_112
              · exact absurd c_934 (by decide)
            · exact absurd c_933 (nI_neg (by omega) (by decide))
          · exact absurd c_932 (nI_neg (by omega) (by decide))
      · refine lv_bipush (v := (-2)) hx hb dX5_needs_18 (by decide) ?_
        exact W.iret (v := (-2)) hx hb hr (fun t ht hW => ⟨⟨(-2), nd, rfl, ⟨by rw [p_needs, if_neg c_917, if_pos ⟨c_918, c_927⟩], trivial⟩, by rw [ht]; exact hP, hD⟩, hS.F ht⟩) hS.2.2 dX5_needs_20
  · refine lv_iconst (v := (-1)) hx hb dX5_needs_7 (by decide) ?_
    exact W.iret (v := (-1)) hx hb hr (fun t ht hW => ⟨⟨(-1), nd, rfl, ⟨by rw [p_needs, if_pos c_917], trivial⟩, by rw [ht]; exact hP, hD⟩, hS.F ht⟩) hS.2.2 dX5_needs_8

abbrev rm_X5_untilOver : Room := { frames := 6, cells := 0, slots := 0, locals := 143 }
theorem cf_RX5_199 {R : Room} {s : State} {args : Array Value} (ht : ∀ w ∈ wsL_law, w.before args s = true) (hN : ∀ w ∈ nestW, va_Nw w s) (hR : rm_X1_copyFrom.frames + 1 ≤ R.frames ∧ 8 + (2 + 11) + rm_X1_copyFrom.locals ≤ R.locals) : va_CN R s args RX5 199 yX1_copyFrom "BridgedPachisi" cX1_copyFrom 2 none (.code yX1_copyFrom cX1_copyFrom 2 none :: wsL_law) rm_X1_copyFrom 0 0 1 ∧ (Cond.instanceMethod yX1_copyFrom).before args s = true ∧ (Cond.selects RX1 yX1_copyFrom yX1_copyFrom).before args s = true := ⟨cw_N 1 ht hN nw72 wd15 wd101 (by decide +kernel) rfl rfl hR, ht _ wd99, ht _ wd100⟩
theorem cf_RX5_93 {R : Room} {s : State} {args : Array Value} (ht : ∀ w ∈ wsL_law, w.before args s = true) (hN : ∀ w ∈ nestW, va_Nw w s) (hR : rm_X1_playOn.frames + 1 ≤ R.frames ∧ 8 + (4 + 11) + rm_X1_playOn.locals ≤ R.locals) : va_CN R s args RX5 93 yX1_playOn "BridgedPachisi" cX1_playOn 4 (some .int) (.code yX1_playOn cX1_playOn 4 (some .int) :: wsL_law) rm_X1_playOn 0 0 1 ∧ (Cond.instanceMethod yX1_playOn).before args s = true ∧ (Cond.selects RX1 yX1_playOn yX1_playOn).before args s = true := ⟨cw_N 1 ht hN nw46 wd15 wd343 (by decide +kernel) rfl rfl hR, ht _ wd341, ht _ wd342⟩
theorem cf_RX5_62 {R : Room} {s : State} {args : Array Value} (ht : ∀ w ∈ wsL_law, w.before args s = true) (hN : ∀ w ∈ nestW, va_Nw w s) (hR : rm_X1_isOver.frames + 1 ≤ R.frames ∧ 8 + (1 + 11) + rm_X1_isOver.locals ≤ R.locals) : va_CN R s args RX5 62 yX1_isOver "BridgedPachisi" cX1_isOver 1 (some .boolean) (.code yX1_isOver cX1_isOver 1 (some .boolean) :: wsL_law) rm_X1_isOver 0 0 0 ∧ (Cond.instanceMethod yX1_isOver).before args s = true ∧ (Cond.selects RX1 yX1_isOver yX1_isOver).before args s = true := ⟨cw_N 0 ht hN nw25 wd15 wd138 (by decide +kernel) rfl rfl hR, ht _ wd136, ht _ wd137⟩
set_option maxHeartbeats 1000000 in
set_option maxRecDepth 100000 in
theorem c_X5_untilOver (l : Launch) (G : va_G) (cI cC cZ cG : ClassId) (sz : Nat) (qX wg qR qd qh qk : Nat) (qg qt qb qp qs qr qf : Nat) (pr sb br fe se : IA) (fl x : Int32) (pl : Nat) (th tu ca : Int32) (wt wb wp ws wr wf : Nat) (ypr ysb ybr yfe yse : IA) (yfl yx : Int32) (ypl : Nat) (yth ytu yca : Int32) (hpr : ∀ k, k < 12 → okv (pr k)) (hx0 : ¬ x < 0) (hpl : pl < 4) (hth : okc th) : Met l yX5_untilOver (.code yX5_untilOver cX5_untilOver 2 (some .int) :: wsL_law) rm_X5_untilOver (va_Pc [.ref qX] (bw G cI cC cZ cG false sz [(qX, .inr (5, [.ref qg, .ref wg, .ref qR, .ref qd, .ref qh, .ref qk])), (qg, .inr (1, [.ref qb, .ref qt, .int x, .int (nI pl), .int th, .int tu, .int ca])), (qt, .inl (cI, 3, .inl se)), (qb, .inr (0, [.ref qp, .ref qs, .ref qr, .ref qf, .int fl])), (qp, .inl (cI, 12, .inl pr)), (qs, .inl (cI, 12, .inl sb)), (qr, .inl (cI, 4, .inl br)), (qf, .inl (cI, 4, .inl fe)), (wg, .inr (1, [.ref wb, .ref wt, .int yx, .int (nI ypl), .int yth, .int ytu, .int yca])), (wt, .inl (cI, 3, .inl yse)), (wb, .inr (0, [.ref wp, .ref ws, .ref wr, .ref wf, .int yfl])), (wp, .inl (cI, 12, .inl ypr)), (ws, .inl (cI, 12, .inl ysb)), (wr, .inl (cI, 4, .inl ybr)), (wf, .inl (cI, 4, .inl yfe))])) (va_Qi (fun (r : Int32) (u : IA × IA × IA × IA × IA × Int32 × Int32 × Nat × Int32 × Int32 × Int32) => r = p_until th (va_cpy se yse 0 0 3) (va_cpy pr ypr 0 0 12, va_cpy sb ysb 0 0 12, va_cpy br ybr 0 0 4, va_cpy fe yfe 0 0 4, fl, x, pl, th, tu, ca) ∧ True) (fun (u : IA × IA × IA × IA × IA × Int32 × Int32 × Nat × Int32 × Int32 × Int32) t => va_P G vwCl [(qX, .inr (5, [.ref qg, .ref wg, .ref qR, .ref qd, .ref qh, .ref qk])), (qg, .inr (1, [.ref qb, .ref qt, .int x, .int (nI pl), .int th, .int tu, .int ca])), (qt, .inl (cI, 3, .inl se)), (qb, .inr (0, [.ref qp, .ref qs, .ref qr, .ref qf, .int fl])), (qp, .inl (cI, 12, .inl pr)), (qs, .inl (cI, 12, .inl sb)), (qr, .inl (cI, 4, .inl br)), (qf, .inl (cI, 4, .inl fe)), (wg, .inr (1, [.ref wb, .ref wt, .int u.2.2.2.2.2.2.1, .int (nI u.2.2.2.2.2.2.2.1), .int u.2.2.2.2.2.2.2.2.1, .int u.2.2.2.2.2.2.2.2.2.1, .int u.2.2.2.2.2.2.2.2.2.2])), (wt, .inl (cI, 3, .inl u.2.2.2.2.1)), (wb, .inr (0, [.ref wp, .ref ws, .ref wr, .ref wf, .int u.2.2.2.2.2.1])), (wp, .inl (cI, 12, .inl u.1)), (ws, .inl (cI, 12, .inl u.2.1)), (wr, .inl (cI, 4, .inl u.2.2.1)), (wf, .inl (cI, 4, .inl u.2.2.2.1))] t.heap ∧ va_D (va_A [(qX, .inr (5, [.ref qg, .ref wg, .ref qR, .ref qd, .ref qh, .ref qk])), (qg, .inr (1, [.ref qb, .ref qt, .int x, .int (nI pl), .int th, .int tu, .int ca])), (qt, .inl (cI, 3, .inl se)), (qb, .inr (0, [.ref qp, .ref qs, .ref qr, .ref qf, .int fl])), (qp, .inl (cI, 12, .inl pr)), (qs, .inl (cI, 12, .inl sb)), (qr, .inl (cI, 4, .inl br)), (qf, .inl (cI, 4, .inl fe)), (wg, .inr (1, [.ref wb, .ref wt, .int yx, .int (nI ypl), .int yth, .int ytu, .int yca])), (wt, .inl (cI, 3, .inl yse)), (wb, .inr (0, [.ref wp, .ref ws, .ref wr, .ref wf, .int yfl])), (wp, .inl (cI, 12, .inl ypr)), (ws, .inl (cI, 12, .inl ysb)), (wr, .inl (cI, 4, .inl ybr)), (wf, .inl (cI, 4, .inl yfe))] sz) [(qX, .inr (5, [.ref qg, .ref wg, .ref qR, .ref qd, .ref qh, .ref qk])), (qg, .inr (1, [.ref qb, .ref qt, .int x, .int (nI pl), .int th, .int tu, .int ca])), (qt, .inl (cI, 3, .inl se)), (qb, .inr (0, [.ref qp, .ref qs, .ref qr, .ref qf, .int fl])), (qp, .inl (cI, 12, .inl pr)), (qs, .inl (cI, 12, .inl sb)), (qr, .inl (cI, 4, .inl br)), (qf, .inl (cI, 4, .inl fe)), (wg, .inr (1, [.ref wb, .ref wt, .int u.2.2.2.2.2.2.1, .int (nI u.2.2.2.2.2.2.2.1), .int u.2.2.2.2.2.2.2.2.1, .int u.2.2.2.2.2.2.2.2.2.1, .int u.2.2.2.2.2.2.2.2.2.2])), (wt, .inl (cI, 3, .inl u.2.2.2.2.1)), (wb, .inr (0, [.ref wp, .ref ws, .ref wr, .ref wf, .int u.2.2.2.2.2.1])), (wp, .inl (cI, 12, .inl u.1)), (ws, .inl (cI, 12, .inl u.2.1)), (wr, .inl (cI, 4, .inl u.2.2.1)), (wf, .inl (cI, 4, .inl u.2.2.2.1))]) (va_A [(qX, .inr (5, [.ref qg, .ref wg, .ref qR, .ref qd, .ref qh, .ref qk])), (qg, .inr (1, [.ref qb, .ref qt, .int x, .int (nI pl), .int th, .int tu, .int ca])), (qt, .inl (cI, 3, .inl se)), (qb, .inr (0, [.ref qp, .ref qs, .ref qr, .ref qf, .int fl])), (qp, .inl (cI, 12, .inl pr)), (qs, .inl (cI, 12, .inl sb)), (qr, .inl (cI, 4, .inl br)), (qf, .inl (cI, 4, .inl fe)), (wg, .inr (1, [.ref wb, .ref wt, .int yx, .int (nI ypl), .int yth, .int ytu, .int yca])), (wt, .inl (cI, 3, .inl yse)), (wb, .inr (0, [.ref wp, .ref ws, .ref wr, .ref wf, .int yfl])), (wp, .inl (cI, 12, .inl ypr)), (ws, .inl (cI, 12, .inl ysb)), (wr, .inl (cI, 4, .inl ybr)), (wf, .inl (cI, 4, .inl yfe))] sz)) 0 0 (va_A [(qX, .inr (5, [.ref qg, .ref wg, .ref qR, .ref qd, .ref qh, .ref qk])), (qg, .inr (1, [.ref qb, .ref qt, .int x, .int (nI pl), .int th, .int tu, .int ca])), (qt, .inl (cI, 3, .inl se)), (qb, .inr (0, [.ref qp, .ref qs, .ref qr, .ref qf, .int fl])), (qp, .inl (cI, 12, .inl pr)), (qs, .inl (cI, 12, .inl sb)), (qr, .inl (cI, 4, .inl br)), (qf, .inl (cI, 4, .inl fe)), (wg, .inr (1, [.ref wb, .ref wt, .int yx, .int (nI ypl), .int yth, .int ytu, .int yca])), (wt, .inl (cI, 3, .inl yse)), (wb, .inr (0, [.ref wp, .ref ws, .ref wr, .ref wf, .int yfl])), (wp, .inl (cI, 12, .inl ypr)), (ws, .inl (cI, 12, .inl ysb)), (wr, .inl (cI, 4, .inl ybr)), (wf, .inl (cI, 4, .inl yfe))] sz) := by
  refine met_bw rfl (Nat.le_of_ble_eq_true rfl) ?_
  intro p e s m below meth c ls hx hb hr hml hown hts hlocks hin hsz hP hK hD0 hX0 hl
  have hown : s.vm.findClass RX5 = some m.cls := hown
  have hl : lv_has ls 2 [(0, .ref qX)] := hl
  subst hsz
  have hD := hD0.self (sz := s.heap.size)
  generalize hAe : va_A [(qX, .inr (5, [.ref qg, .ref wg, .ref qR, .ref qd, .ref qh, .ref qk])), (qg, .inr (1, [.ref qb, .ref qt, .int x, .int (nI pl), .int th, .int tu, .int ca])), (qt, .inl (cI, 3, .inl se)), (qb, .inr (0, [.ref qp, .ref qs, .ref qr, .ref qf, .int fl])), (qp, .inl (cI, 12, .inl pr)), (qs, .inl (cI, 12, .inl sb)), (qr, .inl (cI, 4, .inl br)), (qf, .inl (cI, 4, .inl fe)), (wg, .inr (1, [.ref wb, .ref wt, .int yx, .int (nI ypl), .int yth, .int ytu, .int yca])), (wt, .inl (cI, 3, .inl yse)), (wb, .inr (0, [.ref wp, .ref ws, .ref wr, .ref wf, .int yfl])), (wp, .inl (cI, 12, .inl ypr)), (ws, .inl (cI, 12, .inl ysb)), (wr, .inl (cI, 4, .inl ybr)), (wf, .inl (cI, 4, .inl yfe))] s.heap.size = A at hD ⊢
  have hA : ∀ q : Nat, s.heap.size ≤ q → A q := fun q h => by rw [← hAe]; exact Or.inr h
  have hS : va_S A s.heap s.heap [] := va_S.rf
  refine lv_aload_n hx hb dX5_untilOver_0 rfl (lv_at hl 0 rfl) ?_
  refine va_get (D := G) (ci := 5) (v := .ref qg) (C := RX5) (T := TX5) (N := 6) hx hb hts inlX5 hown hK.1 hP 0 rfl rfl 0 (by decide) (hts _ wd16) (fun _ h9 => h9) rfl dX5_untilOver_1 ?_
  have hPc := hP.sub (ws' := [(qg, .inr (1, [.ref qb, .ref qt, .int x, .int (nI pl), .int th, .int tu, .int ca])), (qt, .inl (cI, 3, .inl se)), (qb, .inr (0, [.ref qp, .ref qs, .ref qr, .ref qf, .int fl])), (qp, .inl (cI, 12, .inl pr)), (qs, .inl (cI, 12, .inl sb)), (qr, .inl (cI, 4, .inl br)), (qf, .inl (cI, 4, .inl fe))]) [1, 2, 3, 4, 5, 6, 7] rfl
  have hDc := (hD.sub (ws' := [(qg, .inr (1, [.ref qb, .ref qt, .int x, .int (nI pl), .int th, .int tu, .int ca])), (qt, .inl (cI, 3, .inl se)), (qb, .inr (0, [.ref qp, .ref qs, .ref qr, .ref qf, .int fl])), (qp, .inl (cI, 12, .inl pr)), (qs, .inl (cI, 12, .inl sb)), (qr, .inl (cI, 4, .inl br)), (qf, .inl (cI, 4, .inl fe))]) [1, 2, 3, 4, 5, 6, 7] (by decide) rfl).tt
  refine vp_callSi (va_Run.run (va_runVN (As := []) (rest := []) ⟨hx, hb, hml, hown, hts⟩ (c_X1_hasThrow l G cI cC cZ cG s.heap.size qg qt qb qp qs qr qf pr sb br fe se fl x pl th tu ca) (cf_RX5_66 hts hK.2 ⟨Nat.le_of_ble_eq_true rfl, Nat.le_of_ble_eq_true rfl⟩) (pre_V hK hPc hDc (ci := 1) (q0 := 0) rfl rfl) rfl rfl hl.1 rfl (lv_room (Nat.le_of_ble_eq_true rfl)) dX5_untilOver_4 ⟨Nat.le_of_ble_eq_true rfl, Nat.le_of_ble_eq_true rfl⟩)) (fun r936 hr936 => ?_)
  subst hr936
  refine zb_eq (tgt := 13) hx hb dX5_untilOver_7 (by decide) (fun c_937 => ?_) (fun c_937 => ?_)
  · refine lv_aload_n hx hb dX5_untilOver_13 rfl (lv_at hl 0 rfl) ?_
    refine va_get (D := G) (ci := 5) (v := .ref wg) (C := RX5) (T := TX5) (N := 6) hx hb hts inlX5 hown hK.1 hP 0 rfl rfl 1 (by decide) (hts _ wd17) (fun _ h9 => h9) rfl dX5_untilOver_14 ?_
    refine lv_aload_n hx hb dX5_untilOver_17 rfl (lv_at hl 0 rfl) ?_
    refine va_get (D := G) (ci := 5) (v := .ref qg) (C := RX5) (T := TX5) (N := 6) hx hb hts inlX5 hown hK.1 hP 0 rfl rfl 0 (by decide) (hts _ wd16) (fun _ h9 => h9) rfl dX5_untilOver_18 ?_
    have hPc := hP.sub (ws' := [(wg, .inr (1, [.ref wb, .ref wt, .int yx, .int (nI ypl), .int yth, .int ytu, .int yca])), (wt, .inl (cI, 3, .inl yse)), (wb, .inr (0, [.ref wp, .ref ws, .ref wr, .ref wf, .int yfl])), (wp, .inl (cI, 12, .inl ypr)), (ws, .inl (cI, 12, .inl ysb)), (wr, .inl (cI, 4, .inl ybr)), (wf, .inl (cI, 4, .inl yfe)), (qg, .inr (1, [.ref qb, .ref qt, .int x, .int (nI pl), .int th, .int tu, .int ca])), (qt, .inl (cI, 3, .inl se)), (qb, .inr (0, [.ref qp, .ref qs, .ref qr, .ref qf, .int fl])), (qp, .inl (cI, 12, .inl pr)), (qs, .inl (cI, 12, .inl sb)), (qr, .inl (cI, 4, .inl br)), (qf, .inl (cI, 4, .inl fe))]) [8, 9, 10, 11, 12, 13, 14, 1, 2, 3, 4, 5, 6, 7] rfl
    have hDc := (hD.sub (ws' := [(wg, .inr (1, [.ref wb, .ref wt, .int yx, .int (nI ypl), .int yth, .int ytu, .int yca])), (wt, .inl (cI, 3, .inl yse)), (wb, .inr (0, [.ref wp, .ref ws, .ref wr, .ref wf, .int yfl])), (wp, .inl (cI, 12, .inl ypr)), (ws, .inl (cI, 12, .inl ysb)), (wr, .inl (cI, 4, .inl ybr)), (wf, .inl (cI, 4, .inl yfe)), (qg, .inr (1, [.ref qb, .ref qt, .int x, .int (nI pl), .int th, .int tu, .int ca])), (qt, .inl (cI, 3, .inl se)), (qb, .inr (0, [.ref qp, .ref qs, .ref qr, .ref qf, .int fl])), (qp, .inl (cI, 12, .inl pr)), (qs, .inl (cI, 12, .inl sb)), (qr, .inl (cI, 4, .inl br)), (qf, .inl (cI, 4, .inl fe))]) [8, 9, 10, 11, 12, 13, 14, 1, 2, 3, 4, 5, 6, 7] (by decide) rfl).tt
    have hFc := va_free (wc := [(wg, .inr (1, [.ref wb, .ref wt, .int yx, .int (nI ypl), .int yth, .int ytu, .int yca])), (wt, .inl (cI, 3, .inl yse)), (wb, .inr (0, [.ref wp, .ref ws, .ref wr, .ref wf, .int yfl])), (wp, .inl (cI, 12, .inl ypr)), (ws, .inl (cI, 12, .inl ysb)), (wr, .inl (cI, 4, .inl ybr)), (wf, .inl (cI, 4, .inl yfe)), (qg, .inr (1, [.ref qb, .ref qt, .int x, .int (nI pl), .int th, .int tu, .int ca])), (qt, .inl (cI, 3, .inl se)), (qb, .inr (0, [.ref qp, .ref qs, .ref qr, .ref qf, .int fl])), (qp, .inl (cI, 12, .inl pr)), (qs, .inl (cI, 12, .inl sb)), (qr, .inl (cI, 4, .inl br)), (qf, .inl (cI, 4, .inl fe))]) hD hS hA [8, 9, 10, 11, 12, 13, 14, 1, 2, 3, 4, 5, 6, 7] rfl
    refine va_callv (va_runVN (As := [.ref qg]) (rest := []) ⟨hx, hb, hml, hown, hts⟩ (c_X1_copyFrom l G cI cC cZ cG s.heap.size wg wt wb wp ws wr wf ypr ysb ybr yfe yse yfl yx ypl yth ytu yca qg qt qb qp qs qr qf pr sb br fe se fl x pl th tu ca) (cf_RX5_199 hts hK.2 ⟨Nat.le_of_ble_eq_true rfl, Nat.le_of_ble_eq_true rfl⟩) (pre_V hK hPc hDc (ci := 1) (q0 := 0) rfl rfl) rfl rfl hl.1 rfl (lv_room (Nat.le_of_ble_eq_true rfl)) dX5_untilOver_21 ⟨Nat.le_of_ble_eq_true rfl, Nat.le_of_ble_eq_true rfl⟩) hS (fun q _ h => hFc q h) hFc (fun u938 t938 H938 locs938 ht938 hvm938 hw938 hB938 hz938 hk938 hS => ?_)
    obtain ⟨z938, rfl⟩ : ∃ z, z = u938 := ⟨_, rfl⟩
    obtain ⟨hP1, hD1⟩ := hB938
    rw [ht938] at hP1
    try dsimp only at hw938
    obtain ⟨hP, hD⟩ := va_join (wr := [(qX, .inr (5, [.ref qg, .ref wg, .ref qR, .ref qd, .ref qh, .ref qk]))]) (w1 := [(wg, .inr (1, [.ref wb, .ref wt, .int x, .int (nI pl), .int th, .int tu, .int ca])), (wt, .inl (cI, 3, .inl (va_cpy se yse 0 0 3))), (wb, .inr (0, [.ref wp, .ref ws, .ref wr, .ref wf, .int fl])), (wp, .inl (cI, 12, .inl (va_cpy pr ypr 0 0 12))), (ws, .inl (cI, 12, .inl (va_cpy sb ysb 0 0 12))), (wr, .inl (cI, 4, .inl (va_cpy br ybr 0 0 4))), (wf, .inl (cI, 4, .inl (va_cpy fe yfe 0 0 4))), (qg, .inr (1, [.ref qb, .ref qt, .int x, .int (nI pl), .int th, .int tu, .int ca])), (qt, .inl (cI, 3, .inl se)), (qb, .inr (0, [.ref qp, .ref qs, .ref qr, .ref qf, .int fl])), (qp, .inl (cI, 12, .inl pr)), (qs, .inl (cI, 12, .inl sb)), (qr, .inl (cI, 4, .inl br)), (qf, .inl (cI, 4, .inl fe))]) hP hD [8, 9, 10, 11, 12, 13, 14, 1, 2, 3, 4, 5, 6, 7] [0] rfl rfl (by decide) (by decide) hk938 hFc hP1 hD1
    have hP : va_P G vwCl [(qX, .inr (5, [.ref qg, .ref wg, .ref qR, .ref qd, .ref qh, .ref qk])), (wg, .inr (1, [.ref wb, .ref wt, .int x, .int (nI pl), .int th, .int tu, .int ca])), (wt, .inl (cI, 3, .inl (va_cpy se yse 0 0 3))), (wb, .inr (0, [.ref wp, .ref ws, .ref wr, .ref wf, .int fl])), (wp, .inl (cI, 12, .inl (va_cpy pr ypr 0 0 12))), (ws, .inl (cI, 12, .inl (va_cpy sb ysb 0 0 12))), (wr, .inl (cI, 4, .inl (va_cpy br ybr 0 0 4))), (wf, .inl (cI, 4, .inl (va_cpy fe yfe 0 0 4))), (qg, .inr (1, [.ref qb, .ref qt, .int x, .int (nI pl), .int th, .int tu, .int ca])), (qt, .inl (cI, 3, .inl se)), (qb, .inr (0, [.ref qp, .ref qs, .ref qr, .ref qf, .int fl])), (qp, .inl (cI, 12, .inl pr)), (qs, .inl (cI, 12, .inl sb)), (qr, .inl (cI, 4, .inl br)), (qf, .inl (cI, 4, .inl fe))] H938 := hP
    have hD : va_D A [(qX, .inr (5, [.ref qg, .ref wg, .ref qR, .ref qd, .ref qh, .ref qk])), (wg, .inr (1, [.ref wb, .ref wt, .int x, .int (nI pl), .int th, .int tu, .int ca])), (wt, .inl (cI, 3, .inl (va_cpy se yse 0 0 3))), (wb, .inr (0, [.ref wp, .ref ws, .ref wr, .ref wf, .int fl])), (wp, .inl (cI, 12, .inl (va_cpy pr ypr 0 0 12))), (ws, .inl (cI, 12, .inl (va_cpy sb ysb 0 0 12))), (wr, .inl (cI, 4, .inl (va_cpy br ybr 0 0 4))), (wf, .inl (cI, 4, .inl (va_cpy fe yfe 0 0 4))), (qg, .inr (1, [.ref qb, .ref qt, .int x, .int (nI pl), .int th, .int tu, .int ca])), (qt, .inl (cI, 3, .inl se)), (qb, .inr (0, [.ref qp, .ref qs, .ref qr, .ref qf, .int fl])), (qp, .inl (cI, 12, .inl pr)), (qs, .inl (cI, 12, .inl sb)), (qr, .inl (cI, 4, .inl br)), (qf, .inl (cI, 4, .inl fe))] := hD
    refine lv_aload_n hx hb dX5_untilOver_24 rfl (lv_at hl 0 rfl) ?_
    refine va_get (D := G) (ci := 5) (v := .ref wg) (C := RX5) (T := TX5) (N := 6) hx hb hts inlX5 hown hK.1 hP 0 rfl rfl 1 (by decide) (hts _ wd17) (fun _ h9 => h9) rfl dX5_untilOver_25 ?_
    refine lv_sipush (v := 400) hx hb dX5_untilOver_28 (by decide) ?_
    have hPc := hP.sub (ws' := [(wg, .inr (1, [.ref wb, .ref wt, .int x, .int (nI pl), .int th, .int tu, .int ca])), (wt, .inl (cI, 3, .inl (va_cpy se yse 0 0 3))), (wb, .inr (0, [.ref wp, .ref ws, .ref wr, .ref wf, .int fl])), (wp, .inl (cI, 12, .inl (va_cpy pr ypr 0 0 12))), (ws, .inl (cI, 12, .inl (va_cpy sb ysb 0 0 12))), (wr, .inl (cI, 4, .inl (va_cpy br ybr 0 0 4))), (wf, .inl (cI, 4, .inl (va_cpy fe yfe 0 0 4)))]) [1, 2, 3, 4, 5, 6, 7] rfl
    have hDc := (hD.sub (ws' := [(wg, .inr (1, [.ref wb, .ref wt, .int x, .int (nI pl), .int th, .int tu, .int ca])), (wt, .inl (cI, 3, .inl (va_cpy se yse 0 0 3))), (wb, .inr (0, [.ref wp, .ref ws, .ref wr, .ref wf, .int fl])), (wp, .inl (cI, 12, .inl (va_cpy pr ypr 0 0 12))), (ws, .inl (cI, 12, .inl (va_cpy sb ysb 0 0 12))), (wr, .inl (cI, 4, .inl (va_cpy br ybr 0 0 4))), (wf, .inl (cI, 4, .inl (va_cpy fe yfe 0 0 4)))]) [1, 2, 3, 4, 5, 6, 7] (by decide) rfl).tt
    have hFc := va_free (wc := [(wg, .inr (1, [.ref wb, .ref wt, .int x, .int (nI pl), .int th, .int tu, .int ca])), (wt, .inl (cI, 3, .inl (va_cpy se yse 0 0 3))), (wb, .inr (0, [.ref wp, .ref ws, .ref wr, .ref wf, .int fl])), (wp, .inl (cI, 12, .inl (va_cpy pr ypr 0 0 12))), (ws, .inl (cI, 12, .inl (va_cpy sb ysb 0 0 12))), (wr, .inl (cI, 4, .inl (va_cpy br ybr 0 0 4))), (wf, .inl (cI, 4, .inl (va_cpy fe yfe 0 0 4)))]) hD hS hA [1, 2, 3, 4, 5, 6, 7] rfl
    refine va_calli (va_runVN (As := [.int 400]) (rest := []) ⟨hx, hb, hml, hown, hts⟩ (c_X1_playOn l G cI cC cZ cG H938.size wg wt wb wp ws wr wf (va_cpy pr ypr 0 0 12) (va_cpy sb ysb 0 0 12) (va_cpy br ybr 0 0 4) (va_cpy fe yfe 0 0 4) (va_cpy se yse 0 0 3) fl x pl th tu ca 400 (fun k hk => by rw [cpy_at k hk]; exact hpr k hk) hx0 hpl (by decide)) (cf_RX5_93 hts hK.2 ⟨Nat.le_of_ble_eq_true rfl, Nat.le_of_ble_eq_true rfl⟩) (pre_V hK hPc hDc (ci := 1) (q0 := 0) rfl rfl) rfl rfl hl.1 rfl (lv_room (Nat.le_of_ble_eq_true rfl)) dX5_untilOver_31 ⟨Nat.le_of_ble_eq_true rfl, Nat.le_of_ble_eq_true rfl⟩) hS (fun q _ h => hFc q h) hFc (fun r939 u939 t939 H939 locs939 ht939 hvm939 hw939 hB939 hz939 hk939 hS => ?_)
    obtain ⟨pr939, sb939, br939, fe939, fl939, x939, pl939, th939, tu939, ca939⟩ := u939
    obtain ⟨hP1, hD1⟩ := hB939
    rw [ht939] at hP1
    try dsimp only at hw939
    obtain ⟨hr939, hw939⟩ := hw939
    subst hr939
    obtain ⟨hP, hD⟩ := va_join (wr := [(qX, .inr (5, [.ref qg, .ref wg, .ref qR, .ref qd, .ref qh, .ref qk])), (qg, .inr (1, [.ref qb, .ref qt, .int x, .int (nI pl), .int th, .int tu, .int ca])), (qt, .inl (cI, 3, .inl se)), (qb, .inr (0, [.ref qp, .ref qs, .ref qr, .ref qf, .int fl])), (qp, .inl (cI, 12, .inl pr)), (qs, .inl (cI, 12, .inl sb)), (qr, .inl (cI, 4, .inl br)), (qf, .inl (cI, 4, .inl fe))]) (w1 := [(wg, .inr (1, [.ref wb, .ref wt, .int x939, .int (nI pl939), .int th939, .int tu939, .int ca939])), (wt, .inl (cI, 3, .inl (va_cpy se yse 0 0 3))), (wb, .inr (0, [.ref wp, .ref ws, .ref wr, .ref wf, .int fl939])), (wp, .inl (cI, 12, .inl pr939)), (ws, .inl (cI, 12, .inl sb939)), (wr, .inl (cI, 4, .inl br939)), (wf, .inl (cI, 4, .inl fe939))]) hP hD [1, 2, 3, 4, 5, 6, 7] [0, 8, 9, 10, 11, 12, 13, 14] rfl rfl (by decide) (by decide) hk939 hFc hP1 hD1
    have hP : va_P G vwCl [(qX, .inr (5, [.ref qg, .ref wg, .ref qR, .ref qd, .ref qh, .ref qk])), (qg, .inr (1, [.ref qb, .ref qt, .int x, .int (nI pl), .int th, .int tu, .int ca])), (qt, .inl (cI, 3, .inl se)), (qb, .inr (0, [.ref qp, .ref qs, .ref qr, .ref qf, .int fl])), (qp, .inl (cI, 12, .inl pr)), (qs, .inl (cI, 12, .inl sb)), (qr, .inl (cI, 4, .inl br)), (qf, .inl (cI, 4, .inl fe)), (wg, .inr (1, [.ref wb, .ref wt, .int x939, .int (nI pl939), .int th939, .int tu939, .int ca939])), (wt, .inl (cI, 3, .inl (va_cpy se yse 0 0 3))), (wb, .inr (0, [.ref wp, .ref ws, .ref wr, .ref wf, .int fl939])), (wp, .inl (cI, 12, .inl pr939)), (ws, .inl (cI, 12, .inl sb939)), (wr, .inl (cI, 4, .inl br939)), (wf, .inl (cI, 4, .inl fe939))] H939 := hP
    have hD : va_D A [(qX, .inr (5, [.ref qg, .ref wg, .ref qR, .ref qd, .ref qh, .ref qk])), (qg, .inr (1, [.ref qb, .ref qt, .int x, .int (nI pl), .int th, .int tu, .int ca])), (qt, .inl (cI, 3, .inl se)), (qb, .inr (0, [.ref qp, .ref qs, .ref qr, .ref qf, .int fl])), (qp, .inl (cI, 12, .inl pr)), (qs, .inl (cI, 12, .inl sb)), (qr, .inl (cI, 4, .inl br)), (qf, .inl (cI, 4, .inl fe)), (wg, .inr (1, [.ref wb, .ref wt, .int x939, .int (nI pl939), .int th939, .int tu939, .int ca939])), (wt, .inl (cI, 3, .inl (va_cpy se yse 0 0 3))), (wb, .inr (0, [.ref wp, .ref ws, .ref wr, .ref wf, .int fl939])), (wp, .inl (cI, 12, .inl pr939)), (ws, .inl (cI, 12, .inl sb939)), (wr, .inl (cI, 4, .inl br939)), (wf, .inl (cI, 4, .inl fe939))] := hD
    refine lv_istore_n (lv' := [(1, .int (nI ((pg (va_cpy se yse 0 0 3) 400 ((va_cpy pr ypr 0 0 12), (va_cpy sb ysb 0 0 12), (va_cpy br ybr 0 0 4), (va_cpy fe yfe 0 0 4), fl, x, pl, th, tu, ca)).2))), (0, .ref qX)]) hx hb dX5_untilOver_34 rfl hl (by decide) rfl (fun ls hl => ?_)
    refine lv_aload_n hx hb dX5_untilOver_35 rfl (lv_at hl 1 rfl) ?_
    refine va_get (D := G) (ci := 5) (v := .ref wg) (C := RX5) (T := TX5) (N := 6) hx hb hts inlX5 hown hK.1 hP 0 rfl rfl 1 (by decide) (hts _ wd17) (fun _ h9 => h9) rfl dX5_untilOver_36 ?_
    have hPc := hP.sub (ws' := [(wg, .inr (1, [.ref wb, .ref wt, .int x939, .int (nI pl939), .int th939, .int tu939, .int ca939])), (wt, .inl (cI, 3, .inl (va_cpy se yse 0 0 3))), (wb, .inr (0, [.ref wp, .ref ws, .ref wr, .ref wf, .int fl939])), (wp, .inl (cI, 12, .inl pr939)), (ws, .inl (cI, 12, .inl sb939)), (wr, .inl (cI, 4, .inl br939)), (wf, .inl (cI, 4, .inl fe939))]) [8, 9, 10, 11, 12, 13, 14] rfl
    have hDc := (hD.sub (ws' := [(wg, .inr (1, [.ref wb, .ref wt, .int x939, .int (nI pl939), .int th939, .int tu939, .int ca939])), (wt, .inl (cI, 3, .inl (va_cpy se yse 0 0 3))), (wb, .inr (0, [.ref wp, .ref ws, .ref wr, .ref wf, .int fl939])), (wp, .inl (cI, 12, .inl pr939)), (ws, .inl (cI, 12, .inl sb939)), (wr, .inl (cI, 4, .inl br939)), (wf, .inl (cI, 4, .inl fe939))]) [8, 9, 10, 11, 12, 13, 14] (by decide) rfl).tt
    refine vp_callSi (va_Run.run (va_runVN (As := []) (rest := []) ⟨hx, hb, hml, hown, hts⟩ (c_X1_isOver l G cI cC cZ cG H939.size wg wt wb wp ws wr wf pr939 sb939 br939 fe939 (va_cpy se yse 0 0 3) fl939 x939 pl939 th939 tu939 ca939) (cf_RX5_62 hts hK.2 ⟨Nat.le_of_ble_eq_true rfl, Nat.le_of_ble_eq_true rfl⟩) (pre_V hK hPc hDc (ci := 1) (q0 := 0) rfl rfl) rfl rfl hl.1 rfl (lv_room (Nat.le_of_ble_eq_true rfl)) dX5_untilOver_39 ⟨Nat.le_of_ble_eq_true rfl, Nat.le_of_ble_eq_true rfl⟩)) (fun r940 hr940 => ?_)
    subst hr940
    refine zb_eq (tgt := 49) hx hb dX5_untilOver_42 (by decide) (fun c_941 => ?_) (fun c_941 => ?_)
    · refine lv_bipush (v := (-6)) hx hb dX5_untilOver_49 (by decide) ?_
      exact W.iret (v := (-6)) hx hb hr (fun t ht hW => ⟨⟨(-6), (pr939, sb939, br939, fe939, (va_cpy se yse 0 0 3), fl939, x939, pl939, th939, tu939, ca939), rfl, ⟨by rw [p_until, if_neg c_937, if_neg (by rw [← hw939]; exact c_941)], trivial⟩, by rw [ht]; exact hP, hD⟩, hS.F ht⟩) hS.2.2 dX5_untilOver_51
    · refine lv_iload_n hx hb dX5_untilOver_45 rfl (lv_at hl 0 rfl) ?_
      refine lv_goto (tgt := 51) hx hb dX5_untilOver_46 (by decide) ?_
      exact W.iret (v := nI ((pg (va_cpy se yse 0 0 3) 400 ((va_cpy pr ypr 0 0 12), (va_cpy sb ysb 0 0 12), (va_cpy br ybr 0 0 4), (va_cpy fe yfe 0 0 4), fl, x, pl, th, tu, ca)).2)) hx hb hr (fun t ht hW => ⟨⟨nI ((pg (va_cpy se yse 0 0 3) 400 ((va_cpy pr ypr 0 0 12), (va_cpy sb ysb 0 0 12), (va_cpy br ybr 0 0 4), (va_cpy fe yfe 0 0 4), fl, x, pl, th, tu, ca)).2), (pr939, sb939, br939, fe939, (va_cpy se yse 0 0 3), fl939, x939, pl939, th939, tu939, ca939), rfl, ⟨by rw [p_until, if_neg c_937, if_pos (by rw [← hw939]; exact c_941)], trivial⟩, by rw [ht]; exact hP, hD⟩, hS.F ht⟩) hS.2.2 dX5_untilOver_51
  · refine lv_bipush (v := (-5)) hx hb dX5_untilOver_10 (by decide) ?_
    exact W.iret (v := (-5)) hx hb hr (fun t ht hW => ⟨⟨(-5), (ypr, ysb, ybr, yfe, yse, yfl, yx, ypl, yth, ytu, yca), rfl, ⟨by rw [p_until, if_pos c_937], trivial⟩, by rw [ht]; exact hP, hD⟩, hS.F ht⟩) hS.2.2 dX5_untilOver_12
