abbrev rm_X5_piece : Room := { frames := 2, cells := 0, slots := 0, locals := 46 }
theorem cf_RX5_116 {R : Room} {s : State} {args : Array Value} (ht : ∀ w ∈ wsL_law, w.before args s = true) (hR : rm_X5_isNoPiece.frames + 1 ≤ R.frames ∧ 8 + (1 + 11) + rm_X5_isNoPiece.locals ≤ R.locals) : CallB R s args RX5 116 yX5_isNoPiece cX5_isNoPiece 1 (some .boolean) (.code yX5_isNoPiece cX5_isNoPiece 1 (some .boolean) :: wsL_law) rm_X5_isNoPiece 0 0 1 ∧ (Cond.static yX5_isNoPiece).before args s = true := ⟨cw_B 1 ht wd415 wd2 wd417 (by decide +kernel) rfl rfl hR, ht _ wd416⟩
theorem cf_RX5_138 {R : Room} {s : State} {args : Array Value} (ht : ∀ w ∈ wsL_law, w.before args s = true) (hN : ∀ w ∈ nestW, va_Nw w s) (hR : rm_X0_fieldOf.frames + 1 ≤ R.frames ∧ 8 + (2 + 11) + rm_X0_fieldOf.locals ≤ R.locals) : va_CN R s args RX5 138 yX0_fieldOf "BridgedPachisi" cX0_fieldOf 2 (some .int) (.code yX0_fieldOf cX0_fieldOf 2 (some .int) :: wsL_law) rm_X0_fieldOf 0 0 1 ∧ (Cond.instanceMethod yX0_fieldOf).before args s = true ∧ (Cond.selects RX0 yX0_fieldOf yX0_fieldOf).before args s = true := ⟨cw_N 1 ht hN nw56 wd36 wd435 (by decide +kernel) rfl rfl hR, ht _ wd433, ht _ wd434⟩
theorem cf_RX5_141 {R : Room} {s : State} {args : Array Value} (ht : ∀ w ∈ wsL_law, w.before args s = true) (hN : ∀ w ∈ nestW, va_Nw w s) (hR : rm_X0_isInPair.frames + 1 ≤ R.frames ∧ 8 + (2 + 11) + rm_X0_isInPair.locals ≤ R.locals) : va_CN R s args RX5 141 yX0_isInPair "BridgedPachisi" cX0_isInPair 2 (some .boolean) (.code yX0_isInPair cX0_isInPair 2 (some .boolean) :: wsL_law) rm_X0_isInPair 0 0 1 ∧ (Cond.instanceMethod yX0_isInPair).before args s = true ∧ (Cond.selects RX0 yX0_isInPair yX0_isInPair).before args s = true := ⟨cw_N 1 ht hN nw57 wd36 wd438 (by decide +kernel) rfl rfl hR, ht _ wd436, ht _ wd437⟩
set_option maxHeartbeats 1000000 in
set_option maxRecDepth 100000 in
theorem c_X5_piece (l : Launch) (G : va_G) (cI cC cZ cG : ClassId) (sz : Nat) (qX wg qR qd qh qk : Nat) (qg qt qb qp qs qr qf : Nat) (pr sb br fe se : IA) (fl x : Int32) (pl : Nat) (th tu ca : Int32) (k0 w0 : Int32) : Met l yX5_piece (.code yX5_piece cX5_piece 3 (some .int) :: wsL_law) rm_X5_piece (va_Pc [.ref qX, .int k0, .int w0] (bw G cI cC cZ cG false sz [(qX, .inr (5, [.ref qg, .ref wg, .ref qR, .ref qd, .ref qh, .ref qk])), (qg, .inr (1, [.ref qb, .ref qt, .int x, .int (nI pl), .int th, .int tu, .int ca])), (qt, .inl (cI, 3, .inl se)), (qb, .inr (0, [.ref qp, .ref qs, .ref qr, .ref qf, .int fl])), (qp, .inl (cI, 12, .inl pr)), (qs, .inl (cI, 12, .inl sb)), (qr, .inl (cI, 4, .inl br)), (qf, .inl (cI, 4, .inl fe))])) (vp_Si (fun r => r = p_piece k0 w0 pr sb)) 0 0 (fun _ => False) := by
  refine met_bw rfl (Nat.le_of_ble_eq_true rfl) ?_
  intro p e s m below meth c ls hx hb hr hml hown hts hlocks hin hsz hP hK hD0 hX0 hl
  have hown : s.vm.findClass RX5 = some m.cls := hown
  have hl : lv_has ls 3 [(0, .ref qX), (1, .int k0), (2, .int w0)] := hl
  refine lv_iload_n hx hb dX5_piece_0 rfl (lv_at hl 1 rfl) ?_
  refine vp_callSi (va_Run.run (va_runS (As := [.int k0]) (rest := []) ⟨hx, hb, hml, hown, hts⟩ (c_X5_isNoPiece l k0) (cf_RX5_116 hts ⟨Nat.le_of_ble_eq_true rfl, Nat.le_of_ble_eq_true rfl⟩) pre_P rfl rfl hl.1 rfl (lv_room (Nat.le_of_ble_eq_true rfl)) dX5_piece_1 ⟨Nat.le_of_ble_eq_true rfl, Nat.le_of_ble_eq_true rfl⟩)) (fun r865 hr865 => ?_)
  subst hr865
  refine zb_eq (tgt := 9) hx hb dX5_piece_4 (by decide) (fun c_866 => ?_) (fun c_866 => ?_)
  · obtain ⟨j, hj, rfl⟩ := np_ok c_866
    refine lv_iload_n hx hb dX5_piece_9 rfl (lv_at hl 2 rfl) ?_
    rcases sw_cases2 0 3 w0 with hsw867 | ⟨j867, hg867, hj867, hsw867⟩
    · refine lv_tableOut (tgt := 98) hx hb dX5_piece_10 hsw867 (by decide) ?_
      refine lv_bipush (v := (-2)) hx hb dX5_piece_98 (by decide) ?_
      exact W.iret (v := (-2)) hx hb hr (fun t ht hW => ⟨(-2), rfl, by rw [p_piece, if_neg (c_866), (show (nI j).toNatClampNeg = j from nI_clamp (by omega)), if_neg (show ¬ w0 = 0 from sw_ne hsw867 (by decide)), if_neg (show ¬ w0 = 1 from sw_ne hsw867 (by decide)), if_neg (show ¬ w0 = 2 from sw_ne hsw867 (by decide)), if_neg (show ¬ w0 = 3 from sw_ne hsw867 (by decide))], ht⟩) (fun _ h => absurd h List.not_mem_nil) dX5_piece_100
    · rcases (show j867 = 0 ∨ j867 = 1 ∨ j867 = 2 ∨ j867 = 3 by omega) with rfl | rfl | rfl | rfl
      · refine lv_tableIn (off := 30) (tgt := 40) hx hb dX5_piece_10 (by rw [hsw867]; decide) (by rw [hsw867]; decide) (by rw [hsw867]; rfl) (by decide) ?_
        refine lv_aload_n hx hb dX5_piece_40 rfl (lv_at hl 0 rfl) ?_
        refine va_get (D := G) (ci := 5) (v := .ref qg) (C := RX5) (T := TX5) (N := 6) hx hb hts inlX5 hown hK.1 hP 0 rfl rfl 0 (by decide) (hts _ wd16) (fun _ h9 => h9) rfl dX5_piece_41 ?_
        refine va_getN (D := G) (ci := 1) (v := .ref qb) (C := RX1) (T := TX1) (N := 7) hx hb hts inlX1 hown hK.1 hP 1 rfl rfl 0 (by decide) (va_Nw.use rfl (hK.2 _ nw9)) (fun _ h9 => h9) rfl dX5_piece_44 ?_
        refine va_getN (D := G) (ci := 0) (v := .ref qp) (C := RX0) (T := TX0) (N := 5) hx hb hts inlX0 hown hK.1 hP 3 rfl rfl 0 (by decide) (va_Nw.use rfl (hK.2 _ nw3)) (fun _ h9 => h9) rfl dX5_piece_47 ?_
        refine lv_iload_n hx hb dX5_piece_50 rfl (lv_at hl 1 rfl) ?_
        refine za_ld hx hb hK.1 hP 4 0 rfl rfl j rfl (by omega) (by decide) dX5_piece_51 ?_
        exact W.iret (v := pr j) hx hb hr (fun t ht hW => ⟨pr j, rfl, by rw [p_piece, if_neg (c_866), (show (nI j).toNatClampNeg = j from nI_clamp (by omega)), if_pos (show w0 = 0 from hsw867)], ht⟩) (fun _ h => absurd h List.not_mem_nil) dX5_piece_52
      · refine lv_tableIn (off := 43) (tgt := 53) hx hb dX5_piece_10 (by rw [hsw867]; decide) (by rw [hsw867]; decide) (by rw [hsw867]; rfl) (by decide) ?_
        refine lv_aload_n hx hb dX5_piece_53 rfl (lv_at hl 0 rfl) ?_
        refine va_get (D := G) (ci := 5) (v := .ref qg) (C := RX5) (T := TX5) (N := 6) hx hb hts inlX5 hown hK.1 hP 0 rfl rfl 0 (by decide) (hts _ wd16) (fun _ h9 => h9) rfl dX5_piece_54 ?_
        refine va_getN (D := G) (ci := 1) (v := .ref qb) (C := RX1) (T := TX1) (N := 7) hx hb hts inlX1 hown hK.1 hP 1 rfl rfl 0 (by decide) (va_Nw.use rfl (hK.2 _ nw9)) (fun _ h9 => h9) rfl dX5_piece_57 ?_
        refine lv_iload_n hx hb dX5_piece_60 rfl (lv_at hl 1 rfl) ?_
        have hPc := hP.sub (ws' := [(qb, .inr (0, [.ref qp, .ref qs, .ref qr, .ref qf, .int fl])), (qp, .inl (cI, 12, .inl pr)), (qs, .inl (cI, 12, .inl sb)), (qr, .inl (cI, 4, .inl br)), (qf, .inl (cI, 4, .inl fe))]) [3, 4, 5, 6, 7] rfl
        have hDc := (hD0.sub (ws' := [(qb, .inr (0, [.ref qp, .ref qs, .ref qr, .ref qf, .int fl])), (qp, .inl (cI, 12, .inl pr)), (qs, .inl (cI, 12, .inl sb)), (qr, .inl (cI, 4, .inl br)), (qf, .inl (cI, 4, .inl fe))]) [3, 4, 5, 6, 7] (by decide) rfl).tt
        refine vp_callSi (va_Run.run (va_runVN (As := [.int (nI j)]) (rest := []) ⟨hx, hb, hml, hown, hts⟩ (c_X0_fieldOf l G cI cC cZ cG s.heap.size qb qp qs qr qf pr sb br fe fl j (by omega)) (cf_RX5_138 hts hK.2 ⟨Nat.le_of_ble_eq_true rfl, Nat.le_of_ble_eq_true rfl⟩) (pre_V hK hPc hDc (ci := 0) (q0 := 0) rfl rfl) rfl rfl hl.1 rfl (lv_room (Nat.le_of_ble_eq_true rfl)) dX5_piece_61 ⟨Nat.le_of_ble_eq_true rfl, Nat.le_of_ble_eq_true rfl⟩)) (fun r868 hr868 => ?_)
        subst hr868
        exact W.iret (v := rf (j / 3) (pr j)) hx hb hr (fun t ht hW => ⟨rf (j / 3) (pr j), rfl, by rw [p_piece, if_neg (c_866), (show (nI j).toNatClampNeg = j from nI_clamp (by omega)), if_neg (show ¬ w0 = 0 by rw [hsw867]; decide), if_pos (show w0 = 1 from hsw867)], ht⟩) (fun _ h => absurd h List.not_mem_nil) dX5_piece_64
      · refine lv_tableIn (off := 55) (tgt := 65) hx hb dX5_piece_10 (by rw [hsw867]; decide) (by rw [hsw867]; decide) (by rw [hsw867]; rfl) (by decide) ?_
        refine lv_aload_n hx hb dX5_piece_65 rfl (lv_at hl 0 rfl) ?_
        refine va_get (D := G) (ci := 5) (v := .ref qg) (C := RX5) (T := TX5) (N := 6) hx hb hts inlX5 hown hK.1 hP 0 rfl rfl 0 (by decide) (hts _ wd16) (fun _ h9 => h9) rfl dX5_piece_66 ?_
        refine va_getN (D := G) (ci := 1) (v := .ref qb) (C := RX1) (T := TX1) (N := 7) hx hb hts inlX1 hown hK.1 hP 1 rfl rfl 0 (by decide) (va_Nw.use rfl (hK.2 _ nw9)) (fun _ h9 => h9) rfl dX5_piece_69 ?_
        refine lv_iload_n hx hb dX5_piece_72 rfl (lv_at hl 1 rfl) ?_
        have hPc := hP.sub (ws' := [(qb, .inr (0, [.ref qp, .ref qs, .ref qr, .ref qf, .int fl])), (qp, .inl (cI, 12, .inl pr)), (qs, .inl (cI, 12, .inl sb)), (qr, .inl (cI, 4, .inl br)), (qf, .inl (cI, 4, .inl fe))]) [3, 4, 5, 6, 7] rfl
        have hDc := (hD0.sub (ws' := [(qb, .inr (0, [.ref qp, .ref qs, .ref qr, .ref qf, .int fl])), (qp, .inl (cI, 12, .inl pr)), (qs, .inl (cI, 12, .inl sb)), (qr, .inl (cI, 4, .inl br)), (qf, .inl (cI, 4, .inl fe))]) [3, 4, 5, 6, 7] (by decide) rfl).tt
        refine vp_callSi (va_Run.run (va_runVN (As := [.int (nI j)]) (rest := []) ⟨hx, hb, hml, hown, hts⟩ (c_X0_isInPair l G cI cC cZ cG s.heap.size qb qp qs qr qf pr sb br fe fl j (by omega)) (cf_RX5_141 hts hK.2 ⟨Nat.le_of_ble_eq_true rfl, Nat.le_of_ble_eq_true rfl⟩) (pre_V hK hPc hDc (ci := 0) (q0 := 0) rfl rfl) rfl rfl hl.1 rfl (lv_room (Nat.le_of_ble_eq_true rfl)) dX5_piece_73 ⟨Nat.le_of_ble_eq_true rfl, Nat.le_of_ble_eq_true rfl⟩)) (fun r869 hr869 => ?_)
        subst hr869
        refine zb_eq (tgt := 83) hx hb dX5_piece_76 (by decide) (fun c_870 => ?_) (fun c_870 => ?_)
        · refine lv_iconst (v := 0) hx hb dX5_piece_83 (by decide) ?_
          exact W.iret (v := 0) hx hb hr (fun t ht hW => ⟨0, rfl, by rw [p_piece, if_neg (c_866), (show (nI j).toNatClampNeg = j from nI_clamp (by omega)), if_neg (show ¬ w0 = 0 by rw [hsw867]; decide), if_neg (show ¬ w0 = 1 by rw [hsw867]; decide), if_pos (show w0 = 2 from hsw867), if_neg c_870], ht⟩) (fun _ h => absurd h List.not_mem_nil) dX5_piece_84
        · refine lv_iconst (v := 1) hx hb dX5_piece_79 (by decide) ?_
          refine lv_goto (tgt := 84) hx hb dX5_piece_80 (by decide) ?_
          exact W.iret (v := 1) hx hb hr (fun t ht hW => ⟨1, rfl, by rw [p_piece, if_neg (c_866), (show (nI j).toNatClampNeg = j from nI_clamp (by omega)), if_neg (show ¬ w0 = 0 by rw [hsw867]; decide), if_neg (show ¬ w0 = 1 by rw [hsw867]; decide), if_pos (show w0 = 2 from hsw867), if_pos c_870], ht⟩) (fun _ h => absurd h List.not_mem_nil) dX5_piece_84
      · refine lv_tableIn (off := 75) (tgt := 85) hx hb dX5_piece_10 (by rw [hsw867]; decide) (by rw [hsw867]; decide) (by rw [hsw867]; rfl) (by decide) ?_
        refine lv_aload_n hx hb dX5_piece_85 rfl (lv_at hl 0 rfl) ?_
        refine va_get (D := G) (ci := 5) (v := .ref qg) (C := RX5) (T := TX5) (N := 6) hx hb hts inlX5 hown hK.1 hP 0 rfl rfl 0 (by decide) (hts _ wd16) (fun _ h9 => h9) rfl dX5_piece_86 ?_
        refine va_getN (D := G) (ci := 1) (v := .ref qb) (C := RX1) (T := TX1) (N := 7) hx hb hts inlX1 hown hK.1 hP 1 rfl rfl 0 (by decide) (va_Nw.use rfl (hK.2 _ nw9)) (fun _ h9 => h9) rfl dX5_piece_89 ?_
        refine va_getN (D := G) (ci := 0) (v := .ref qs) (C := RX0) (T := TX0) (N := 5) hx hb hts inlX0 hown hK.1 hP 3 rfl rfl 1 (by decide) (va_Nw.use rfl (hK.2 _ nw4)) (fun _ h9 => h9) rfl dX5_piece_92 ?_
        refine lv_iload_n hx hb dX5_piece_95 rfl (lv_at hl 1 rfl) ?_
        refine za_ld hx hb hK.1 hP 5 0 rfl rfl j rfl (by omega) (by decide) dX5_piece_96 ?_
        exact W.iret (v := sb j) hx hb hr (fun t ht hW => ⟨sb j, rfl, by rw [p_piece, if_neg (c_866), (show (nI j).toNatClampNeg = j from nI_clamp (by omega)), if_neg (show ¬ w0 = 0 by rw [hsw867]; decide), if_neg (show ¬ w0 = 1 by rw [hsw867]; decide), if_neg (show ¬ w0 = 2 by rw [hsw867]; decide), if_pos (show w0 = 3 from hsw867)], ht⟩) (fun _ h => absurd h List.not_mem_nil) dX5_piece_97
  · refine lv_iconst (v := (-1)) hx hb dX5_piece_7 (by decide) ?_
    exact W.iret (v := (-1)) hx hb hr (fun t ht hW => ⟨(-1), rfl, by rw [p_piece, if_pos (c_866)], ht⟩) (fun _ h => absurd h List.not_mem_nil) dX5_piece_8

abbrev rm_X5_field : Room := { frames := 2, cells := 0, slots := 0, locals := 52 }
theorem cf_RX5_147 {R : Room} {s : State} {args : Array Value} (ht : ∀ w ∈ wsL_law, w.before args s = true) (hN : ∀ w ∈ nestW, va_Nw w s) (hR : rm_X0_piecesOn.frames + 1 ≤ R.frames ∧ 8 + (4 + 11) + rm_X0_piecesOn.locals ≤ R.locals) : va_CN R s args RX5 147 yX0_piecesOn "BridgedPachisi" cX0_piecesOn 4 (some .int) (.code yX0_piecesOn cX0_piecesOn 4 (some .int) :: wsL_law) rm_X0_piecesOn 0 0 1 ∧ (Cond.instanceMethod yX0_piecesOn).before args s = true ∧ (Cond.selects RX0 yX0_piecesOn yX0_piecesOn).before args s = true := ⟨cw_N 1 ht hN nw59 wd36 wd250 (by decide +kernel) rfl rfl hR, ht _ wd248, ht _ wd249⟩
theorem cf_RX5_150 {R : Room} {s : State} {args : Array Value} (ht : ∀ w ∈ wsL_law, w.before args s = true) (hN : ∀ w ∈ nestW, va_Nw w s) (hR : rm_X0_lowestOn.frames + 1 ≤ R.frames ∧ 8 + (3 + 11) + rm_X0_lowestOn.locals ≤ R.locals) : va_CN R s args RX5 150 yX0_lowestOn "BridgedPachisi" cX0_lowestOn 3 (some .int) (.code yX0_lowestOn cX0_lowestOn 3 (some .int) :: wsL_law) rm_X0_lowestOn 0 0 1 ∧ (Cond.instanceMethod yX0_lowestOn).before args s = true ∧ (Cond.selects RX0 yX0_lowestOn yX0_lowestOn).before args s = true := ⟨cw_N 1 ht hN nw60 wd36 wd449 (by decide +kernel) rfl rfl hR, ht _ wd447, ht _ wd448⟩
theorem cf_RX5_153 {R : Room} {s : State} {args : Array Value} (ht : ∀ w ∈ wsL_law, w.before args s = true) (hR : rm_X5_isSafe.frames + 1 ≤ R.frames ∧ 8 + (1 + 11) + rm_X5_isSafe.locals ≤ R.locals) : CallB R s args RX5 153 yX5_isSafe cX5_isSafe 1 (some .boolean) (.code yX5_isSafe cX5_isSafe 1 (some .boolean) :: wsL_law) rm_X5_isSafe 0 0 1 ∧ (Cond.static yX5_isSafe).before args s = true := ⟨cw_B 1 ht wd450 wd2 wd233 (by decide +kernel) rfl rfl hR, ht _ wd232⟩
theorem cf_RX5_156 {R : Room} {s : State} {args : Array Value} (ht : ∀ w ∈ wsL_law, w.before args s = true) (hN : ∀ w ∈ nestW, va_Nw w s) (hR : rm_X0_bridgeState.frames + 1 ≤ R.frames ∧ 8 + (3 + 11) + rm_X0_bridgeState.locals ≤ R.locals) : va_CN R s args RX5 156 yX0_bridgeState "BridgedPachisi" cX0_bridgeState 3 (some .int) (.code yX0_bridgeState cX0_bridgeState 3 (some .int) :: wsL_law) rm_X0_bridgeState 0 0 1 ∧ (Cond.instanceMethod yX0_bridgeState).before args s = true ∧ (Cond.selects RX0 yX0_bridgeState yX0_bridgeState).before args s = true := ⟨cw_N 1 ht hN nw61 wd36 wd215 (by decide +kernel) rfl rfl hR, ht _ wd213, ht _ wd214⟩
theorem cf_RX5_159 {R : Room} {s : State} {args : Array Value} (ht : ∀ w ∈ wsL_law, w.before args s = true) (hN : ∀ w ∈ nestW, va_Nw w s) (hR : rm_X1_turnsUntilMended.frames + 1 ≤ R.frames ∧ 8 + (3 + 11) + rm_X1_turnsUntilMended.locals ≤ R.locals) : va_CN R s args RX5 159 yX1_turnsUntilMended "BridgedPachisi" cX1_turnsUntilMended 3 (some .int) (.code yX1_turnsUntilMended cX1_turnsUntilMended 3 (some .int) :: wsL_law) rm_X1_turnsUntilMended 0 0 1 ∧ (Cond.instanceMethod yX1_turnsUntilMended).before args s = true ∧ (Cond.selects RX1 yX1_turnsUntilMended yX1_turnsUntilMended).before args s = true := ⟨cw_N 1 ht hN nw62 wd15 wd453 (by decide +kernel) rfl rfl hR, ht _ wd451, ht _ wd452⟩
set_option maxHeartbeats 1000000 in
set_option maxRecDepth 100000 in
theorem c_X5_field (l : Launch) (G : va_G) (cI cC cZ cG : ClassId) (sz : Nat) (qX wg qR qd qh qk : Nat) (qg qt qb qp qs qr qf : Nat) (pr sb br fe se : IA) (fl x : Int32) (pl : Nat) (th tu ca : Int32) (k0 w0 : Int32) : Met l yX5_field (.code yX5_field cX5_field 3 (some .int) :: wsL_law) rm_X5_field (va_Pc [.ref qX, .int k0, .int w0] (bw G cI cC cZ cG false sz [(qX, .inr (5, [.ref qg, .ref wg, .ref qR, .ref qd, .ref qh, .ref qk])), (qg, .inr (1, [.ref qb, .ref qt, .int x, .int (nI pl), .int th, .int tu, .int ca])), (qt, .inl (cI, 3, .inl se)), (qb, .inr (0, [.ref qp, .ref qs, .ref qr, .ref qf, .int fl])), (qp, .inl (cI, 12, .inl pr)), (qs, .inl (cI, 12, .inl sb)), (qr, .inl (cI, 4, .inl br)), (qf, .inl (cI, 4, .inl fe))])) (vp_Si (fun r => r = p_field k0 w0 pr br fe se tu)) 0 0 (fun _ => False) := by
  refine met_bw rfl (Nat.le_of_ble_eq_true rfl) ?_
  intro p e s m below meth c ls hx hb hr hml hown hts hlocks hin hsz hP hK hD0 hX0 hl
  have hown : s.vm.findClass RX5 = some m.cls := hown
  have hl : lv_has ls 3 [(0, .ref qX), (1, .int k0), (2, .int w0)] := hl
  refine lv_iload_n hx hb dX5_field_0 rfl (lv_at hl 1 rfl) ?_
  refine lv_if_lt (tgt := 10) hx hb dX5_field_1 (by decide) (fun c_871 => ?_) (fun c_871 => ?_)
  · refine lv_iconst (v := (-1)) hx hb dX5_field_10 (by decide) ?_
    exact W.iret (v := (-1)) hx hb hr (fun t ht hW => ⟨(-1), rfl, by rw [p_field, if_pos (Or.inl c_871)], ht⟩) (fun _ h => absurd h List.not_mem_nil) dX5_field_11
  · refine lv_iload_n hx hb dX5_field_4 rfl (lv_at hl 1 rfl) ?_
    refine lv_bipush (v := 32) hx hb dX5_field_5 (by decide) ?_
    refine lv_icmp_lt (tgt := 12) hx hb dX5_field_7 (by decide) (fun c_872 => ?_) (fun c_872 => ?_)
    · have hkj := rg_ok (c := 32) (by decide) (by decide) c_871 c_872
      obtain ⟨j, hj, rfl⟩ := hkj
      refine lv_iload_n hx hb dX5_field_12 rfl (lv_at hl 2 rfl) ?_
      rcases sw_cases2 0 4 w0 with hsw873 | ⟨j873, hg873, hj873, hsw873⟩
      · refine lv_tableOut (tgt := 106) hx hb dX5_field_13 hsw873 (by decide) ?_
        refine lv_bipush (v := (-2)) hx hb dX5_field_106 (by decide) ?_
        exact W.iret (v := (-2)) hx hb hr (fun t ht hW => ⟨(-2), rfl, by rw [p_field, if_neg (fun q => q.elim c_871 (fun r => r c_872)), if_neg (show ¬ w0 = 0 from sw_ne hsw873 (by decide)), if_neg (show ¬ w0 = 1 from sw_ne hsw873 (by decide)), if_neg (show ¬ w0 = 2 from sw_ne hsw873 (by decide)), if_neg (show ¬ w0 = 3 from sw_ne hsw873 (by decide)), if_neg (show ¬ w0 = 4 from sw_ne hsw873 (by decide))], ht⟩) (fun _ h => absurd h List.not_mem_nil) dX5_field_108
      · rcases (show j873 = 0 ∨ j873 = 1 ∨ j873 = 2 ∨ j873 = 3 ∨ j873 = 4 by omega) with rfl | rfl | rfl | rfl | rfl
        · refine lv_tableIn (off := 35) (tgt := 48) hx hb dX5_field_13 (by rw [hsw873]; decide) (by rw [hsw873]; decide) (by rw [hsw873]; rfl) (by decide) ?_
          refine lv_aload_n hx hb dX5_field_48 rfl (lv_at hl 0 rfl) ?_
          refine va_get (D := G) (ci := 5) (v := .ref qg) (C := RX5) (T := TX5) (N := 6) hx hb hts inlX5 hown hK.1 hP 0 rfl rfl 0 (by decide) (hts _ wd16) (fun _ h9 => h9) rfl dX5_field_49 ?_
          refine va_getN (D := G) (ci := 1) (v := .ref qb) (C := RX1) (T := TX1) (N := 7) hx hb hts inlX1 hown hK.1 hP 1 rfl rfl 0 (by decide) (va_Nw.use rfl (hK.2 _ nw9)) (fun _ h9 => h9) rfl dX5_field_52 ?_
          refine lv_iload_n hx hb dX5_field_55 rfl (lv_at hl 1 rfl) ?_
          have hPc := hP.sub (ws' := [(qb, .inr (0, [.ref qp, .ref qs, .ref qr, .ref qf, .int fl])), (qp, .inl (cI, 12, .inl pr)), (qs, .inl (cI, 12, .inl sb)), (qr, .inl (cI, 4, .inl br)), (qf, .inl (cI, 4, .inl fe))]) [3, 4, 5, 6, 7] rfl
          have hDc := (hD0.sub (ws' := [(qb, .inr (0, [.ref qp, .ref qs, .ref qr, .ref qf, .int fl])), (qp, .inl (cI, 12, .inl pr)), (qs, .inl (cI, 12, .inl sb)), (qr, .inl (cI, 4, .inl br)), (qf, .inl (cI, 4, .inl fe))]) [3, 4, 5, 6, 7] (by decide) rfl).tt
          refine vp_callSi (va_Run.run (va_runVN (As := [.int (nI j)]) (rest := []) ⟨hx, hb, hml, hown, hts⟩ (c_X0_piecesOn l G cI cC cZ cG s.heap.size qb qp qs qr qf pr sb br fe fl (nI j)) (cf_RX5_147 hts hK.2 ⟨Nat.le_of_ble_eq_true rfl, Nat.le_of_ble_eq_true rfl⟩) (pre_V hK hPc hDc (ci := 0) (q0 := 0) rfl rfl) rfl rfl hl.1 rfl (lv_room (Nat.le_of_ble_eq_true rfl)) dX5_field_56 ⟨Nat.le_of_ble_eq_true rfl, Nat.le_of_ble_eq_true rfl⟩)) (fun r874 hr874 => ?_)
          subst hr874
          have hf875 := cnt_le (pcP pr (nI j)) 12
          exact W.iret (v := nI (cnt (pcP pr (nI j)) 12)) hx hb hr (fun t ht hW => ⟨nI (cnt (pcP pr (nI j)) 12), rfl, by rw [p_field, if_neg (fun q => q.elim c_871 (fun r => r c_872)), if_pos (show w0 = 0 from hsw873)], ht⟩) (fun _ h => absurd h List.not_mem_nil) dX5_field_59
        · refine lv_tableIn (off := 47) (tgt := 60) hx hb dX5_field_13 (by rw [hsw873]; decide) (by rw [hsw873]; decide) (by rw [hsw873]; rfl) (by decide) ?_
          refine lv_aload_n hx hb dX5_field_60 rfl (lv_at hl 0 rfl) ?_
          refine va_get (D := G) (ci := 5) (v := .ref qg) (C := RX5) (T := TX5) (N := 6) hx hb hts inlX5 hown hK.1 hP 0 rfl rfl 0 (by decide) (hts _ wd16) (fun _ h9 => h9) rfl dX5_field_61 ?_
          refine va_getN (D := G) (ci := 1) (v := .ref qb) (C := RX1) (T := TX1) (N := 7) hx hb hts inlX1 hown hK.1 hP 1 rfl rfl 0 (by decide) (va_Nw.use rfl (hK.2 _ nw9)) (fun _ h9 => h9) rfl dX5_field_64 ?_
          refine lv_iload_n hx hb dX5_field_67 rfl (lv_at hl 1 rfl) ?_
          have hPc := hP.sub (ws' := [(qb, .inr (0, [.ref qp, .ref qs, .ref qr, .ref qf, .int fl])), (qp, .inl (cI, 12, .inl pr)), (qs, .inl (cI, 12, .inl sb)), (qr, .inl (cI, 4, .inl br)), (qf, .inl (cI, 4, .inl fe))]) [3, 4, 5, 6, 7] rfl
          have hDc := (hD0.sub (ws' := [(qb, .inr (0, [.ref qp, .ref qs, .ref qr, .ref qf, .int fl])), (qp, .inl (cI, 12, .inl pr)), (qs, .inl (cI, 12, .inl sb)), (qr, .inl (cI, 4, .inl br)), (qf, .inl (cI, 4, .inl fe))]) [3, 4, 5, 6, 7] (by decide) rfl).tt
          refine vp_callSi (va_Run.run (va_runVN (As := [.int (nI j)]) (rest := []) ⟨hx, hb, hml, hown, hts⟩ (c_X0_lowestOn l G cI cC cZ cG s.heap.size qb qp qs qr qf pr sb br fe fl (nI j)) (cf_RX5_150 hts hK.2 ⟨Nat.le_of_ble_eq_true rfl, Nat.le_of_ble_eq_true rfl⟩) (pre_V hK hPc hDc (ci := 0) (q0 := 0) rfl rfl) rfl rfl hl.1 rfl (lv_room (Nat.le_of_ble_eq_true rfl)) dX5_field_68 ⟨Nat.le_of_ble_eq_true rfl, Nat.le_of_ble_eq_true rfl⟩)) (fun r876 hr876 => ?_)
          subst hr876
          exact W.iret (v := low (pcP pr (nI j)) 0 12) hx hb hr (fun t ht hW => ⟨low (pcP pr (nI j)) 0 12, rfl, by rw [p_field, if_neg (fun q => q.elim c_871 (fun r => r c_872)), if_neg (show ¬ w0 = 0 by rw [hsw873]; decide), if_pos (show w0 = 1 from hsw873)], ht⟩) (fun _ h => absurd h List.not_mem_nil) dX5_field_71
        · refine lv_tableIn (off := 59) (tgt := 72) hx hb dX5_field_13 (by rw [hsw873]; decide) (by rw [hsw873]; decide) (by rw [hsw873]; rfl) (by decide) ?_
          refine lv_iload_n hx hb dX5_field_72 rfl (lv_at hl 1 rfl) ?_
          refine vp_callSi (va_Run.run (va_runS (As := [.int (nI j)]) (rest := []) ⟨hx, hb, hml, hown, hts⟩ (c_X5_isSafe l (nI j)) (cf_RX5_153 hts ⟨Nat.le_of_ble_eq_true rfl, Nat.le_of_ble_eq_true rfl⟩) pre_P rfl rfl hl.1 rfl (lv_room (Nat.le_of_ble_eq_true rfl)) dX5_field_73 ⟨Nat.le_of_ble_eq_true rfl, Nat.le_of_ble_eq_true rfl⟩)) (fun r877 hr877 => ?_)
          subst hr877
          refine zb_eq (tgt := 83) hx hb dX5_field_76 (by decide) (fun c_878 => ?_) (fun c_878 => ?_)
          · refine lv_iconst (v := 0) hx hb dX5_field_83 (by decide) ?_
            exact W.iret (v := 0) hx hb hr (fun t ht hW => ⟨0, rfl, by rw [p_field, if_neg (fun q => q.elim c_871 (fun r => r c_872)), if_neg (show ¬ w0 = 0 by rw [hsw873]; decide), if_neg (show ¬ w0 = 1 by rw [hsw873]; decide), if_pos (show w0 = 2 from hsw873), if_neg c_878], ht⟩) (fun _ h => absurd h List.not_mem_nil) dX5_field_84
          · refine lv_iconst (v := 1) hx hb dX5_field_79 (by decide) ?_
            refine lv_goto (tgt := 84) hx hb dX5_field_80 (by decide) ?_
            exact W.iret (v := 1) hx hb hr (fun t ht hW => ⟨1, rfl, by rw [p_field, if_neg (fun q => q.elim c_871 (fun r => r c_872)), if_neg (show ¬ w0 = 0 by rw [hsw873]; decide), if_neg (show ¬ w0 = 1 by rw [hsw873]; decide), if_pos (show w0 = 2 from hsw873), if_pos c_878], ht⟩) (fun _ h => absurd h List.not_mem_nil) dX5_field_84
        · refine lv_tableIn (off := 72) (tgt := 85) hx hb dX5_field_13 (by rw [hsw873]; decide) (by rw [hsw873]; decide) (by rw [hsw873]; rfl) (by decide) ?_
          refine lv_aload_n hx hb dX5_field_85 rfl (lv_at hl 0 rfl) ?_
          refine va_get (D := G) (ci := 5) (v := .ref qg) (C := RX5) (T := TX5) (N := 6) hx hb hts inlX5 hown hK.1 hP 0 rfl rfl 0 (by decide) (hts _ wd16) (fun _ h9 => h9) rfl dX5_field_86 ?_
          refine va_getN (D := G) (ci := 1) (v := .ref qb) (C := RX1) (T := TX1) (N := 7) hx hb hts inlX1 hown hK.1 hP 1 rfl rfl 0 (by decide) (va_Nw.use rfl (hK.2 _ nw9)) (fun _ h9 => h9) rfl dX5_field_89 ?_
          refine lv_iload_n hx hb dX5_field_92 rfl (lv_at hl 1 rfl) ?_
          have hPc := hP.sub (ws' := [(qb, .inr (0, [.ref qp, .ref qs, .ref qr, .ref qf, .int fl])), (qp, .inl (cI, 12, .inl pr)), (qs, .inl (cI, 12, .inl sb)), (qr, .inl (cI, 4, .inl br)), (qf, .inl (cI, 4, .inl fe))]) [3, 4, 5, 6, 7] rfl
          have hDc := (hD0.sub (ws' := [(qb, .inr (0, [.ref qp, .ref qs, .ref qr, .ref qf, .int fl])), (qp, .inl (cI, 12, .inl pr)), (qs, .inl (cI, 12, .inl sb)), (qr, .inl (cI, 4, .inl br)), (qf, .inl (cI, 4, .inl fe))]) [3, 4, 5, 6, 7] (by decide) rfl).tt
          refine vp_callSi (va_Run.run (va_runVN (As := [.int (nI j)]) (rest := []) ⟨hx, hb, hml, hown, hts⟩ (c_X0_bridgeState l G cI cC cZ cG s.heap.size qb qp qs qr qf pr sb br fe fl (nI j)) (cf_RX5_156 hts hK.2 ⟨Nat.le_of_ble_eq_true rfl, Nat.le_of_ble_eq_true rfl⟩) (pre_V hK hPc hDc (ci := 0) (q0 := 0) rfl rfl) rfl rfl hl.1 rfl (lv_room (Nat.le_of_ble_eq_true rfl)) dX5_field_93 ⟨Nat.le_of_ble_eq_true rfl, Nat.le_of_ble_eq_true rfl⟩)) (fun r879 hr879 => ?_)
          subst hr879
          exact W.iret (v := bs br (nI j)) hx hb hr (fun t ht hW => ⟨bs br (nI j), rfl, by rw [p_field, if_neg (fun q => q.elim c_871 (fun r => r c_872)), if_neg (show ¬ w0 = 0 by rw [hsw873]; decide), if_neg (show ¬ w0 = 1 by rw [hsw873]; decide), if_neg (show ¬ w0 = 2 by rw [hsw873]; decide), if_pos (show w0 = 3 from hsw873)], ht⟩) (fun _ h => absurd h List.not_mem_nil) dX5_field_96
        · refine lv_tableIn (off := 84) (tgt := 97) hx hb dX5_field_13 (by rw [hsw873]; decide) (by rw [hsw873]; decide) (by rw [hsw873]; rfl) (by decide) ?_
          refine lv_aload_n hx hb dX5_field_97 rfl (lv_at hl 0 rfl) ?_
          refine va_get (D := G) (ci := 5) (v := .ref qg) (C := RX5) (T := TX5) (N := 6) hx hb hts inlX5 hown hK.1 hP 0 rfl rfl 0 (by decide) (hts _ wd16) (fun _ h9 => h9) rfl dX5_field_98 ?_
          refine lv_iload_n hx hb dX5_field_101 rfl (lv_at hl 1 rfl) ?_
          have hPc := hP.sub (ws' := [(qg, .inr (1, [.ref qb, .ref qt, .int x, .int (nI pl), .int th, .int tu, .int ca])), (qt, .inl (cI, 3, .inl se)), (qb, .inr (0, [.ref qp, .ref qs, .ref qr, .ref qf, .int fl])), (qp, .inl (cI, 12, .inl pr)), (qs, .inl (cI, 12, .inl sb)), (qr, .inl (cI, 4, .inl br)), (qf, .inl (cI, 4, .inl fe))]) [1, 2, 3, 4, 5, 6, 7] rfl
          have hDc := (hD0.sub (ws' := [(qg, .inr (1, [.ref qb, .ref qt, .int x, .int (nI pl), .int th, .int tu, .int ca])), (qt, .inl (cI, 3, .inl se)), (qb, .inr (0, [.ref qp, .ref qs, .ref qr, .ref qf, .int fl])), (qp, .inl (cI, 12, .inl pr)), (qs, .inl (cI, 12, .inl sb)), (qr, .inl (cI, 4, .inl br)), (qf, .inl (cI, 4, .inl fe))]) [1, 2, 3, 4, 5, 6, 7] (by decide) rfl).tt
          refine vp_callSi (va_Run.run (va_runVN (As := [.int (nI j)]) (rest := []) ⟨hx, hb, hml, hown, hts⟩ (c_X1_turnsUntilMended l G cI cC cZ cG s.heap.size qg qt qb qp qs qr qf pr sb br fe se fl x pl th tu ca (nI j)) (cf_RX5_159 hts hK.2 ⟨Nat.le_of_ble_eq_true rfl, Nat.le_of_ble_eq_true rfl⟩) (pre_V hK hPc hDc (ci := 1) (q0 := 0) rfl rfl) rfl rfl hl.1 rfl (lv_room (Nat.le_of_ble_eq_true rfl)) dX5_field_102 ⟨Nat.le_of_ble_eq_true rfl, Nat.le_of_ble_eq_true rfl⟩)) (fun r880 hr880 => ?_)
          subst hr880
          exact W.iret (v := tum br fe se tu (nI j)) hx hb hr (fun t ht hW => ⟨tum br fe se tu (nI j), rfl, by rw [p_field, if_neg (fun q => q.elim c_871 (fun r => r c_872)), if_neg (show ¬ w0 = 0 by rw [hsw873]; decide), if_neg (show ¬ w0 = 1 by rw [hsw873]; decide), if_neg (show ¬ w0 = 2 by rw [hsw873]; decide), if_neg (show ¬ w0 = 3 by rw [hsw873]; decide), if_pos (show w0 = 4 from hsw873)], ht⟩) (fun _ h => absurd h List.not_mem_nil) dX5_field_105
    · refine lv_iconst (v := (-1)) hx hb dX5_field_10 (by decide) ?_
      exact W.iret (v := (-1)) hx hb hr (fun t ht hW => ⟨(-1), rfl, by rw [p_field, if_pos (Or.inr c_872)], ht⟩) (fun _ h => absurd h List.not_mem_nil) dX5_field_11

abbrev rm_X5_why : Room := { frames := 5, cells := 0, slots := 0, locals := 114 }
theorem cf_RX5_78 {R : Room} {s : State} {args : Array Value} (ht : ∀ w ∈ wsL_law, w.before args s = true) (hN : ∀ w ∈ nestW, va_Nw w s) (hR : rm_X1_reason.frames + 1 ≤ R.frames ∧ 8 + (6 + 11) + rm_X1_reason.locals ≤ R.locals) : va_CN R s args RX5 78 yX1_reason "BridgedPachisi" cX1_reason 6 (some .int) (.code yX1_reason cX1_reason 6 (some .int) :: wsL_law) rm_X1_reason 0 0 2 ∧ (Cond.instanceMethod yX1_reason).before args s = true ∧ (Cond.selects RX1 yX1_reason yX1_reason).before args s = true := ⟨cw_N 2 ht hN nw31 wd15 wd202 (by decide +kernel) rfl rfl hR, ht _ wd200, ht _ wd201⟩
set_option maxHeartbeats 1000000 in
set_option maxRecDepth 100000 in
theorem c_X5_why (l : Launch) (G : va_G) (cI cC cZ cG : ClassId) (sz : Nat) (qX wg qR qd qh qk : Nat) (qg qt qb qp qs qr qf : Nat) (pr sb br fe se : IA) (fl x : Int32) (pl : Nat) (th tu ca : Int32) (k0 c0 : Int32) (hpr : ∀ k, k < 12 → okv (pr k)) : Met l yX5_why (.code yX5_why cX5_why 3 (some .int) :: wsL_law) rm_X5_why (va_Pc [.ref qX, .int k0, .int c0] (bw G cI cC cZ cG false sz [(qX, .inr (5, [.ref qg, .ref wg, .ref qR, .ref qd, .ref qh, .ref qk])), (qg, .inr (1, [.ref qb, .ref qt, .int x, .int (nI pl), .int th, .int tu, .int ca])), (qt, .inl (cI, 3, .inl se)), (qb, .inr (0, [.ref qp, .ref qs, .ref qr, .ref qf, .int fl])), (qp, .inl (cI, 12, .inl pr)), (qs, .inl (cI, 12, .inl sb)), (qr, .inl (cI, 4, .inl br)), (qf, .inl (cI, 4, .inl fe))])) (vp_Si (fun r => r = p_why k0 c0 pr br se)) 0 0 (fun _ => False) := by
  refine met_bw rfl (Nat.le_of_ble_eq_true rfl) ?_
  intro p e s m below meth c ls hx hb hr hml hown hts hlocks hin hsz hP hK hD0 hX0 hl
  have hown : s.vm.findClass RX5 = some m.cls := hown
  have hl : lv_has ls 3 [(0, .ref qX), (1, .int k0), (2, .int c0)] := hl
  refine lv_iload_n hx hb dX5_why_0 rfl (lv_at hl 1 rfl) ?_
  refine vp_callSi (va_Run.run (va_runS (As := [.int k0]) (rest := []) ⟨hx, hb, hml, hown, hts⟩ (c_X5_isNoPiece l k0) (cf_RX5_116 hts ⟨Nat.le_of_ble_eq_true rfl, Nat.le_of_ble_eq_true rfl⟩) pre_P rfl rfl hl.1 rfl (lv_room (Nat.le_of_ble_eq_true rfl)) dX5_why_1 ⟨Nat.le_of_ble_eq_true rfl, Nat.le_of_ble_eq_true rfl⟩)) (fun r881 hr881 => ?_)
  subst hr881
  refine zb_eq (tgt := 9) hx hb dX5_why_4 (by decide) (fun c_882 => ?_) (fun c_882 => ?_)
  · obtain ⟨j, hj, rfl⟩ := np_ok c_882
    refine lv_iload_n hx hb dX5_why_9 rfl (lv_at hl 2 rfl) ?_
    refine lv_iconst (v := 1) hx hb dX5_why_10 (by decide) ?_
    refine lv_icmp_lt (tgt := 20) hx hb dX5_why_11 (by decide) (fun c_883 => ?_) (fun c_883 => ?_)
    · refine lv_bipush (v := (-2)) hx hb dX5_why_20 (by decide) ?_
      exact W.iret (v := (-2)) hx hb hr (fun t ht hW => ⟨(-2), rfl, by rw [p_why, if_neg c_882, if_pos (Or.inl c_883)], ht⟩) (fun _ h => absurd h List.not_mem_nil) dX5_why_22
    · refine lv_iload_n hx hb dX5_why_14 rfl (lv_at hl 2 rfl) ?_
      refine lv_bipush (v := 6) hx hb dX5_why_15 (by decide) ?_
      refine lv_icmp_le (tgt := 23) hx hb dX5_why_17 (by decide) (fun c_884 => ?_) (fun c_884 => ?_)
      · obtain ⟨j2, hj2, hj3, rfl⟩ := rg_1 (c := 6) (by decide) (by decide) c_883 c_884
        refine lv_aload_n hx hb dX5_why_23 rfl (lv_at hl 0 rfl) ?_
        refine va_get (D := G) (ci := 5) (v := .ref qg) (C := RX5) (T := TX5) (N := 6) hx hb hts inlX5 hown hK.1 hP 0 rfl rfl 0 (by decide) (hts _ wd16) (fun _ h9 => h9) rfl dX5_why_24 ?_
        refine lv_iload_n hx hb dX5_why_27 rfl (lv_at hl 1 rfl) ?_
        refine lv_iload_n hx hb dX5_why_28 rfl (lv_at hl 2 rfl) ?_
        have hPc := hP.sub (ws' := [(qg, .inr (1, [.ref qb, .ref qt, .int x, .int (nI pl), .int th, .int tu, .int ca])), (qt, .inl (cI, 3, .inl se)), (qb, .inr (0, [.ref qp, .ref qs, .ref qr, .ref qf, .int fl])), (qp, .inl (cI, 12, .inl pr)), (qs, .inl (cI, 12, .inl sb)), (qr, .inl (cI, 4, .inl br)), (qf, .inl (cI, 4, .inl fe))]) [1, 2, 3, 4, 5, 6, 7] rfl
        have hDc := (hD0.sub (ws' := [(qg, .inr (1, [.ref qb, .ref qt, .int x, .int (nI pl), .int th, .int tu, .int ca])), (qt, .inl (cI, 3, .inl se)), (qb, .inr (0, [.ref qp, .ref qs, .ref qr, .ref qf, .int fl])), (qp, .inl (cI, 12, .inl pr)), (qs, .inl (cI, 12, .inl sb)), (qr, .inl (cI, 4, .inl br)), (qf, .inl (cI, 4, .inl fe))]) [1, 2, 3, 4, 5, 6, 7] (by decide) rfl).tt
        refine vp_callSi (va_Run.run (va_runVN (As := [.int (nI j), .int (nI j2)]) (rest := []) ⟨hx, hb, hml, hown, hts⟩ (c_X1_reason l G cI cC cZ cG s.heap.size qg qt qb qp qs qr qf pr sb br fe se fl x pl th tu ca j j2 hpr (by omega) hj3) (cf_RX5_78 hts hK.2 ⟨Nat.le_of_ble_eq_true rfl, Nat.le_of_ble_eq_true rfl⟩) (pre_V hK hPc hDc (ci := 1) (q0 := 0) rfl rfl) rfl rfl hl.1 rfl (lv_room (Nat.le_of_ble_eq_true rfl)) dX5_why_29 ⟨Nat.le_of_ble_eq_true rfl, Nat.le_of_ble_eq_true rfl⟩)) (fun r885 hr885 => ?_)
        subst hr885
        exact W.iret (v := rs pr br se j j2) hx hb hr (fun t ht hW => ⟨rs pr br se j j2, rfl, by rw [p_why, if_neg c_882, if_neg (fun q => q.elim c_883 (fun r => r c_884)), (show (nI j).toNatClampNeg = j from nI_clamp (by omega)), (show (nI j2).toNatClampNeg = j2 from nI_clamp (by omega))], ht⟩) (fun _ h => absurd h List.not_mem_nil) dX5_why_32
      · refine lv_bipush (v := (-2)) hx hb dX5_why_20 (by decide) ?_
        exact W.iret (v := (-2)) hx hb hr (fun t ht hW => ⟨(-2), rfl, by rw [p_why, if_neg c_882, if_pos (Or.inr c_884)], ht⟩) (fun _ h => absurd h List.not_mem_nil) dX5_why_22
  · refine lv_iconst (v := (-1)) hx hb dX5_why_7 (by decide) ?_
    exact W.iret (v := (-1)) hx hb hr (fun t ht hW => ⟨(-1), rfl, by rw [p_why, if_pos c_882], ht⟩) (fun _ h => absurd h List.not_mem_nil) dX5_why_8

abbrev rm_X5_best : Room := { frames := 6, cells := 0, slots := 0, locals := 138 }
theorem cf_RX5_66 {R : Room} {s : State} {args : Array Value} (ht : ∀ w ∈ wsL_law, w.before args s = true) (hN : ∀ w ∈ nestW, va_Nw w s) (hR : rm_X1_hasThrow.frames + 1 ≤ R.frames ∧ 8 + (1 + 11) + rm_X1_hasThrow.locals ≤ R.locals) : va_CN R s args RX5 66 yX1_hasThrow "BridgedPachisi" cX1_hasThrow 1 (some .boolean) (.code yX1_hasThrow cX1_hasThrow 1 (some .boolean) :: wsL_law) rm_X1_hasThrow 0 0 0 ∧ (Cond.instanceMethod yX1_hasThrow).before args s = true ∧ (Cond.selects RX1 yX1_hasThrow yX1_hasThrow).before args s = true := ⟨cw_N 0 ht hN nw27 wd15 wd148 (by decide +kernel) rfl rfl hR, ht _ wd146, ht _ wd147⟩
theorem cf_RX5_183 {R : Room} {s : State} {args : Array Value} (ht : ∀ w ∈ wsL_law, w.before args s = true) (hN : ∀ w ∈ nestW, va_Nw w s) (hR : rm_X1_bestPiece.frames + 1 ≤ R.frames ∧ 8 + (5 + 11) + rm_X1_bestPiece.locals ≤ R.locals) : va_CN R s args RX5 183 yX1_bestPiece "BridgedPachisi" cX1_bestPiece 5 (some .int) (.code yX1_bestPiece cX1_bestPiece 5 (some .int) :: wsL_law) rm_X1_bestPiece 0 0 0 ∧ (Cond.instanceMethod yX1_bestPiece).before args s = true ∧ (Cond.selects RX1 yX1_bestPiece yX1_bestPiece).before args s = true := ⟨cw_N 0 ht hN nw68 wd15 wd352 (by decide +kernel) rfl rfl hR, ht _ wd350, ht _ wd351⟩
set_option maxHeartbeats 1000000 in
set_option maxRecDepth 100000 in
theorem c_X5_best (l : Launch) (G : va_G) (cI cC cZ cG : ClassId) (sz : Nat) (qX wg qR qd qh qk : Nat) (qg qt qb qp qs qr qf : Nat) (pr sb br fe se : IA) (fl x : Int32) (pl : Nat) (th tu ca : Int32) (hpr : ∀ k, k < 12 → okv (pr k)) (hx0 : ¬ x < 0) (hpl : pl < 4) (hth : okc th) : Met l yX5_best (.code yX5_best cX5_best 2 (some .int) :: wsL_law) rm_X5_best (va_Pc [.ref qX] (bw G cI cC cZ cG false sz [(qX, .inr (5, [.ref qg, .ref wg, .ref qR, .ref qd, .ref qh, .ref qk])), (qg, .inr (1, [.ref qb, .ref qt, .int x, .int (nI pl), .int th, .int tu, .int ca])), (qt, .inl (cI, 3, .inl se)), (qb, .inr (0, [.ref qp, .ref qs, .ref qr, .ref qf, .int fl])), (qp, .inl (cI, 12, .inl pr)), (qs, .inl (cI, 12, .inl sb)), (qr, .inl (cI, 4, .inl br)), (qf, .inl (cI, 4, .inl fe))])) (vp_Si (fun r => r = p_best pr br se pl th)) 0 0 (fun _ => False) := by
  refine met_bw rfl (Nat.le_of_ble_eq_true rfl) ?_
  intro p e s m below meth c ls hx hb hr hml hown hts hlocks hin hsz hP hK hD0 hX0 hl
  have hown : s.vm.findClass RX5 = some m.cls := hown
  have hl : lv_has ls 2 [(0, .ref qX)] := hl
  refine lv_aload_n hx hb dX5_best_0 rfl (lv_at hl 0 rfl) ?_
  refine va_get (D := G) (ci := 5) (v := .ref qg) (C := RX5) (T := TX5) (N := 6) hx hb hts inlX5 hown hK.1 hP 0 rfl rfl 0 (by decide) (hts _ wd16) (fun _ h9 => h9) rfl dX5_best_1 ?_
  have hPc := hP.sub (ws' := [(qg, .inr (1, [.ref qb, .ref qt, .int x, .int (nI pl), .int th, .int tu, .int ca])), (qt, .inl (cI, 3, .inl se)), (qb, .inr (0, [.ref qp, .ref qs, .ref qr, .ref qf, .int fl])), (qp, .inl (cI, 12, .inl pr)), (qs, .inl (cI, 12, .inl sb)), (qr, .inl (cI, 4, .inl br)), (qf, .inl (cI, 4, .inl fe))]) [1, 2, 3, 4, 5, 6, 7] rfl
  have hDc := (hD0.sub (ws' := [(qg, .inr (1, [.ref qb, .ref qt, .int x, .int (nI pl), .int th, .int tu, .int ca])), (qt, .inl (cI, 3, .inl se)), (qb, .inr (0, [.ref qp, .ref qs, .ref qr, .ref qf, .int fl])), (qp, .inl (cI, 12, .inl pr)), (qs, .inl (cI, 12, .inl sb)), (qr, .inl (cI, 4, .inl br)), (qf, .inl (cI, 4, .inl fe))]) [1, 2, 3, 4, 5, 6, 7] (by decide) rfl).tt
  refine vp_callSi (va_Run.run (va_runVN (As := []) (rest := []) ⟨hx, hb, hml, hown, hts⟩ (c_X1_hasThrow l G cI cC cZ cG s.heap.size qg qt qb qp qs qr qf pr sb br fe se fl x pl th tu ca) (cf_RX5_66 hts hK.2 ⟨Nat.le_of_ble_eq_true rfl, Nat.le_of_ble_eq_true rfl⟩) (pre_V hK hPc hDc (ci := 1) (q0 := 0) rfl rfl) rfl rfl hl.1 rfl (lv_room (Nat.le_of_ble_eq_true rfl)) dX5_best_4 ⟨Nat.le_of_ble_eq_true rfl, Nat.le_of_ble_eq_true rfl⟩)) (fun r886 hr886 => ?_)
  subst hr886
  refine zb_ne (tgt := 13) hx hb dX5_best_7 (by decide) (fun c_887 => ?_) (fun c_887 => ?_)
  · obtain ⟨cn, hc1, hc, rfl⟩ := okc_ne hth c_887
    refine lv_aload_n hx hb dX5_best_13 rfl (lv_at hl 0 rfl) ?_
    refine va_get (D := G) (ci := 5) (v := .ref qg) (C := RX5) (T := TX5) (N := 6) hx hb hts inlX5 hown hK.1 hP 0 rfl rfl 0 (by decide) (hts _ wd16) (fun _ h9 => h9) rfl dX5_best_14 ?_
    have hPc := hP.sub (ws' := [(qg, .inr (1, [.ref qb, .ref qt, .int x, .int (nI pl), .int (nI cn), .int tu, .int ca])), (qt, .inl (cI, 3, .inl se)), (qb, .inr (0, [.ref qp, .ref qs, .ref qr, .ref qf, .int fl])), (qp, .inl (cI, 12, .inl pr)), (qs, .inl (cI, 12, .inl sb)), (qr, .inl (cI, 4, .inl br)), (qf, .inl (cI, 4, .inl fe))]) [1, 2, 3, 4, 5, 6, 7] rfl
    have hDc := (hD0.sub (ws' := [(qg, .inr (1, [.ref qb, .ref qt, .int x, .int (nI pl), .int (nI cn), .int tu, .int ca])), (qt, .inl (cI, 3, .inl se)), (qb, .inr (0, [.ref qp, .ref qs, .ref qr, .ref qf, .int fl])), (qp, .inl (cI, 12, .inl pr)), (qs, .inl (cI, 12, .inl sb)), (qr, .inl (cI, 4, .inl br)), (qf, .inl (cI, 4, .inl fe))]) [1, 2, 3, 4, 5, 6, 7] (by decide) rfl).tt
    refine vp_callSi (va_Run.run (va_runVN (As := []) (rest := []) ⟨hx, hb, hml, hown, hts⟩ (c_X1_bestPiece l G cI cC cZ cG s.heap.size qg qt qb qp qs qr qf pr sb br fe se fl x pl cn tu ca hpr hc hpl) (cf_RX5_183 hts hK.2 ⟨Nat.le_of_ble_eq_true rfl, Nat.le_of_ble_eq_true rfl⟩) (pre_V hK hPc hDc (ci := 1) (q0 := 0) rfl rfl) rfl rfl hl.1 rfl (lv_room (Nat.le_of_ble_eq_true rfl)) dX5_best_17 ⟨Nat.le_of_ble_eq_true rfl, Nat.le_of_ble_eq_true rfl⟩)) (fun r888 hr888 => ?_)
    subst hr888
    refine lv_istore_n (lv' := [(1, .int (bp pr br se pl cn)), (0, .ref qX)]) hx hb dX5_best_20 rfl hl (by decide) rfl (fun ls hl => ?_)
    refine lv_iload_n hx hb dX5_best_21 rfl (lv_at hl 0 rfl) ?_
    refine lv_bipush (v := (-6)) hx hb dX5_best_22 (by decide) ?_
    refine lv_icmp_ne (tgt := 32) hx hb dX5_best_24 (by decide) (fun c_889 => ?_) (fun c_889 => ?_)
    · refine lv_iload_n hx hb dX5_best_32 rfl (lv_at hl 0 rfl) ?_
      refine lv_iconst (v := 3) hx hb dX5_best_33 (by decide) ?_
      refine zi_jr hx hb dX5_best_34 (by decide) ?_
      exact W.iret (v := jr (bp pr br se pl cn) 3) hx hb hr (fun t ht hW => ⟨jr (bp pr br se pl cn) 3, rfl, by rw [p_best, if_neg c_887, (show (nI cn).toNatClampNeg = cn from nI_clamp (by omega)), if_neg c_889], ht⟩) (fun _ h => absurd h List.not_mem_nil) dX5_best_35
    · refine lv_bipush (v := (-6)) hx hb dX5_best_27 (by decide) ?_
      refine lv_goto (tgt := 35) hx hb dX5_best_29 (by decide) ?_
      exact W.iret (v := (-6)) hx hb hr (fun t ht hW => ⟨(-6), rfl, by rw [p_best, if_neg c_887, (show (nI cn).toNatClampNeg = cn from nI_clamp (by omega)), if_pos c_889], ht⟩) (fun _ h => absurd h List.not_mem_nil) dX5_best_35
  · refine lv_bipush (v := (-5)) hx hb dX5_best_10 (by decide) ?_
    exact W.iret (v := (-5)) hx hb hr (fun t ht hW => ⟨(-5), rfl, by rw [p_best, if_pos (Decidable.not_not.mp c_887)], ht⟩) (fun _ h => absurd h List.not_mem_nil) dX5_best_12

abbrev rm_X5_nextCast : Room := { frames := 1, cells := 0, slots := 0, locals := 20 }
theorem cf_RX5_196 {R : Room} {s : State} {args : Array Value} (ht : ∀ w ∈ wsL_law, w.before args s = true) (hR : rm_X5_castOf.frames + 1 ≤ R.frames ∧ 8 + (1 + 11) + rm_X5_castOf.locals ≤ R.locals) : CallB R s args RX5 196 yX5_castOf cX5_castOf 1 (some .int) (.code yX5_castOf cX5_castOf 1 (some .int) :: wsL_law) rm_X5_castOf 0 0 1 ∧ (Cond.static yX5_castOf).before args s = true := ⟨cw_B 1 ht wd535 wd2 wd158 (by decide +kernel) rfl rfl hR, ht _ wd157⟩
theorem cf_RX5_193 {R : Room} {s : State} {args : Array Value} (ht : ∀ w ∈ wsL_law, w.before args s = true) (hR : rm_X5_nextX.frames + 1 ≤ R.frames ∧ 8 + (1 + 11) + rm_X5_nextX.locals ≤ R.locals) : CallB R s args RX5 193 yX5_nextX cX5_nextX 1 (some .int) (.code yX5_nextX cX5_nextX 1 (some .int) :: wsL_law) rm_X5_nextX 0 0 1 ∧ (Cond.static yX5_nextX).before args s = true := ⟨cw_B 1 ht wd534 wd2 wd153 (by decide +kernel) rfl rfl hR, ht _ wd152⟩
set_option maxHeartbeats 1000000 in
set_option maxRecDepth 100000 in
theorem c_X5_nextCast (l : Launch) (G : va_G) (cI cC cZ cG : ClassId) (sz : Nat) (qX wg qR qd qh qk : Nat) (qg qt qb qp qs qr qf : Nat) (pr sb br fe se : IA) (fl x : Int32) (pl : Nat) (th tu ca : Int32) (n0 : Int32) : Met l yX5_nextCast (.code yX5_nextCast cX5_nextCast 4 (some .int) :: wsL_law) rm_X5_nextCast (va_Pc [.ref qX, .int n0] (bw G cI cC cZ cG false sz [(qX, .inr (5, [.ref qg, .ref wg, .ref qR, .ref qd, .ref qh, .ref qk])), (qg, .inr (1, [.ref qb, .ref qt, .int x, .int (nI pl), .int th, .int tu, .int ca])), (qt, .inl (cI, 3, .inl se)), (qb, .inr (0, [.ref qp, .ref qs, .ref qr, .ref qf, .int fl])), (qp, .inl (cI, 12, .inl pr)), (qs, .inl (cI, 12, .inl sb)), (qr, .inl (cI, 4, .inl br)), (qf, .inl (cI, 4, .inl fe))])) (vp_Si (fun r => r = p_nextCast n0 x)) 0 0 (fun _ => False) := by
  refine met_bw rfl (Nat.le_of_ble_eq_true rfl) ?_
  intro p e s m below meth c ls hx hb hr hml hown hts hlocks hin hsz hP hK hD0 hX0 hl
  have hown : s.vm.findClass RX5 = some m.cls := hown
  have hl : lv_has ls 4 [(0, .ref qX), (1, .int n0)] := hl
  generalize hQ : MQ below (vp_Si (fun r => r = p_nextCast n0 x)) ([.ref qX, .int n0] : List Value).toArray s 0 0 (fun _ => False) = Q
  generalize hag : ([.ref qX, .int n0] : List Value).toArray = ag at hts hQ ⊢
  refine lv_iload_n hx hb dX5_nextCast_0 rfl (lv_at hl 1 rfl) ?_
  refine lv_if_lt (tgt := 10) hx hb dX5_nextCast_1 (by decide) (fun c_890 => ?_) (fun c_890 => ?_)
  · refine lv_bipush (v := (-2)) hx hb dX5_nextCast_10 (by decide) ?_
    subst hQ
    exact W.iret (v := (-2)) hx hb hr (fun t ht hW => ⟨(-2), rfl, by rw [p_nextCast, if_pos (Or.inl c_890)], ht⟩) (fun _ h => absurd h List.not_mem_nil) dX5_nextCast_12
  · refine lv_iload_n hx hb dX5_nextCast_4 rfl (lv_at hl 1 rfl) ?_
    refine lv_bipush (v := 99) hx hb dX5_nextCast_5 (by decide) ?_
    refine lv_icmp_le (tgt := 13) hx hb dX5_nextCast_7 (by decide) (fun c_891 => ?_) (fun c_891 => ?_)
    · obtain ⟨j, hj, rfl⟩ := rg_le (c := 99) (by decide) (by decide) c_890 c_891
      refine lv_aload_n hx hb dX5_nextCast_13 rfl (lv_at hl 0 rfl) ?_
      refine va_get (D := G) (ci := 5) (v := .ref qg) (C := RX5) (T := TX5) (N := 6) hx hb hts inlX5 hown hK.1 hP 0 rfl rfl 0 (by decide) (hts _ wd16) (fun _ h9 => h9) rfl dX5_nextCast_14 ?_
      refine va_getN (D := G) (ci := 1) (v := .int x) (C := RX1) (T := TX1) (N := 7) hx hb hts inlX1 hown hK.1 hP 1 rfl rfl 2 (by decide) (va_Nw.use rfl (hK.2 _ nw11)) (fun _ h9 => h9) rfl dX5_nextCast_17 ?_
      refine lv_istore_n (lv' := [(2, .int x), (0, .ref qX), (1, .int (nI j))]) hx hb dX5_nextCast_20 rfl hl (by decide) rfl (fun ls hl => ?_)
      refine lv_iconst (v := 0) hx hb dX5_nextCast_21 (by decide) ?_
      refine lv_istore_n (lv' := [(3, .int 0), (2, .int x), (0, .ref qX), (1, .int (nI j))]) hx hb dX5_nextCast_22 rfl hl (by decide) rfl (fun ls hl => ?_)
      have L1 : ∀ (n : Nat), ∀ (i : Nat), ∀ (xc : Int32), ∀ (hi : i ≤ j + 1), ∀ (hf : xc = xN x i), ∀ (hn : j + 2 ≤ i + n), ∀ (ls : Array Slot), lv_has ls 4 [(3, .int (nI i)), (2, .int xc), (0, .ref qX), (1, .int (nI j))] → W p l e rm_X5_nextCast s m ag below meth c s.heap [] 0 0 Q (F0 m 23 ls []) := by
        intro n
        induction n with
        | zero =>
          intro i xc hi hf hn ls hl
          omega
        | succ n ih1 =>
          intro i xc hi hf hn ls hl
          refine lv_iload_n hx hb dX5_nextCast_23 rfl (lv_at hl 0 rfl) ?_
          refine lv_iload_n hx hb dX5_nextCast_24 rfl (lv_at hl 3 rfl) ?_
          refine zi_gt (tgt := 39) hx hb i j dX5_nextCast_25 (by decide) rfl rfl (by omega) (by omega) (fun c_893 => ?_) (fun c_893 => ?_)
          · refine lv_iload_n hx hb dX5_nextCast_39 rfl (lv_at hl 1 rfl) ?_
            refine vp_callSi (va_Run.run (va_runS (As := [.int xc]) (rest := []) ⟨hx, hb, hml, hown, hts⟩ (c_X5_castOf l xc) (cf_RX5_196 hts ⟨Nat.le_of_ble_eq_true rfl, Nat.le_of_ble_eq_true rfl⟩) pre_P rfl rfl hl.1 rfl (lv_room (Nat.le_of_ble_eq_true rfl)) dX5_nextCast_40 ⟨Nat.le_of_ble_eq_true rfl, Nat.le_of_ble_eq_true rfl⟩)) (fun r894 hr894 => ?_)
            subst hr894
            subst hQ
            exact W.iret (v := co xc) hx hb hr (fun t ht hW => ⟨co xc, rfl, by rw [p_nextCast, if_neg (fun q => q.elim c_890 (fun r => r c_891)), (show (nI j).toNatClampNeg = j from nI_clamp (by omega)), hf, show j + 1 = i by omega], ht⟩) (fun _ h => absurd h List.not_mem_nil) dX5_nextCast_43
          · refine lv_iload_n hx hb dX5_nextCast_28 rfl (lv_at hl 1 rfl) ?_
            refine vp_callSi (va_Run.run (va_runS (As := [.int xc]) (rest := []) ⟨hx, hb, hml, hown, hts⟩ (c_X5_nextX l xc) (cf_RX5_193 hts ⟨Nat.le_of_ble_eq_true rfl, Nat.le_of_ble_eq_true rfl⟩) pre_P rfl rfl hl.1 rfl (lv_room (Nat.le_of_ble_eq_true rfl)) dX5_nextCast_29 ⟨Nat.le_of_ble_eq_true rfl, Nat.le_of_ble_eq_true rfl⟩)) (fun r895 hr895 => ?_)
            subst hr895
            refine lv_istore_n (lv' := [(2, .int (nx xc)), (3, .int (nI i)), (0, .ref qX), (1, .int (nI j))]) hx hb dX5_nextCast_32 rfl hl (by decide) rfl (fun ls hl => ?_)
            refine lv_iinc (v := nI (i + 1)) (lv' := [(3, .int (nI (i + 1))), (2, .int (nx xc)), (0, .ref qX), (1, .int (nI j))]) hx hb dX5_nextCast_33 hl (k := 1) rfl (nI_inc i) (by decide) rfl (fun ls hl => ?_)
            refine lv_goto (tgt := 23) hx hb dX5_nextCast_36 (by decide) ?_
            exact ih1 (i + 1) (nx xc) (by omega) (by rw [hf, xN]) (by omega) _ (lv_sub hl [0, 1, 2, 3] rfl)
      exact L1 (j + 2) 0 x (by omega) rfl (by omega) _ (lv_sub hl [0, 1, 2, 3] rfl)
    · refine lv_bipush (v := (-2)) hx hb dX5_nextCast_10 (by decide) ?_
      subst hQ
      exact W.iret (v := (-2)) hx hb hr (fun t ht hW => ⟨(-2), rfl, by rw [p_nextCast, if_pos (Or.inr c_891)], ht⟩) (fun _ h => absurd h List.not_mem_nil) dX5_nextCast_12
