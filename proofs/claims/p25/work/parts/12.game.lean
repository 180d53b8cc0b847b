abbrev rm_X1_isOver : Room := { frames := 2, cells := 0, slots := 0, locals := 44 }
theorem cf_RX1_51 {R : Room} {s : State} {args : Array Value} (ht : ∀ w ∈ wsL_law, w.before args s = true) (hN : ∀ w ∈ nestW, va_Nw w s) (hR : rm_X0_winner.frames + 1 ≤ R.frames ∧ 8 + (2 + 11) + rm_X0_winner.locals ≤ R.locals) : va_CN R s args RX1 51 yX0_winner "BridgedPachisi" cX0_winner 2 (some .int) (.code yX0_winner cX0_winner 2 (some .int) :: wsL_law) rm_X0_winner 0 0 0 ∧ (Cond.instanceMethod yX0_winner).before args s = true ∧ (Cond.selects RX0 yX0_winner yX0_winner).before args s = true := ⟨cw_N 0 ht hN nw56 wd33 wd135 (by decide +kernel) rfl rfl hR, ht _ wd133, ht _ wd134⟩
set_option maxHeartbeats 1000000 in
set_option maxRecDepth 100000 in
theorem c_X1_isOver (l : Launch) (G : va_G) (cI cC cZ cG : ClassId) (sz : Nat) (qg qt qb qp qs qr qf : Nat) (pr sb br fe se : IA) (fl x : Int32) (pl : Nat) (th tu ca : Int32) : Met l yX1_isOver (.code yX1_isOver cX1_isOver 1 (some .boolean) :: wsL_law) rm_X1_isOver (va_Pc [.ref qg] (bw G cI cC cZ cG false sz [(qg, .inr (1, [.ref qb, .ref qt, .int x, .int (nI pl), .int th, .int tu, .int ca])), (qt, .inl (cI, 3, .inl se)), (qb, .inr (0, [.ref qp, .ref qs, .ref qr, .ref qf, .int fl])), (qp, .inl (cI, 12, .inl pr)), (qs, .inl (cI, 12, .inl sb)), (qr, .inl (cI, 4, .inl br)), (qf, .inl (cI, 4, .inl fe))])) (vp_Si (fun r => r = bz (¬ wi pr = -6))) 0 0 (fun _ => False) := by
  refine met_bw rfl (Nat.le_of_ble_eq_true rfl) ?_
  intro p e s m below meth c ls hx hb hr hml hown hts hlocks hin hsz hP hK hD0 hX0 hl
  have hown : s.vm.findClass RX1 = some m.cls := hown
  have hl : lv_has ls 1 [(0, .ref qg)] := hl
  refine lv_aload_n hx hb dX1_isOver_0 rfl (lv_at hl 0 rfl) ?_
  refine va_get (D := G) (ci := 1) (v := .ref qb) (C := RX1) (T := TX1) (N := 7) hx hb hts inlX1 hown hK.1 hP 0 rfl rfl 0 (by decide) (hts _ wd34) (fun _ h9 => h9) rfl dX1_isOver_1 ?_
  have hPc := hP.sub (ws' := [(qb, .inr (0, [.ref qp, .ref qs, .ref qr, .ref qf, .int fl])), (qp, .inl (cI, 12, .inl pr)), (qs, .inl (cI, 12, .inl sb)), (qr, .inl (cI, 4, .inl br)), (qf, .inl (cI, 4, .inl fe))]) [2, 3, 4, 5, 6] rfl
  have hDc := (hD0.sub (ws' := [(qb, .inr (0, [.ref qp, .ref qs, .ref qr, .ref qf, .int fl])), (qp, .inl (cI, 12, .inl pr)), (qs, .inl (cI, 12, .inl sb)), (qr, .inl (cI, 4, .inl br)), (qf, .inl (cI, 4, .inl fe))]) [2, 3, 4, 5, 6] (by decide) rfl).tt
  refine vp_callSi (va_Run.run (va_runVN (As := []) (rest := []) ⟨hx, hb, hml, hown, hts⟩ (c_X0_winner l G cI cC cZ cG s.heap.size qb qp qs qr qf pr sb br fe fl) (cf_RX1_51 hts hK.2 ⟨Nat.le_of_ble_eq_true rfl, Nat.le_of_ble_eq_true rfl⟩) (pre_V hK hPc hDc (ci := 0) (q0 := 0) rfl rfl) rfl rfl hl.1 rfl (lv_room (Nat.le_of_ble_eq_true rfl)) dX1_isOver_4 ⟨Nat.le_of_ble_eq_true rfl, Nat.le_of_ble_eq_true rfl⟩)) (fun r134 hr134 => ?_)
  subst hr134
  refine lv_bipush (v := (-6)) hx hb dX1_isOver_7 (by decide) ?_
  refine lv_icmp_eq (tgt := 16) hx hb dX1_isOver_9 (by decide) (fun c_135 => ?_) (fun c_135 => ?_)
  · refine lv_iconst (v := 0) hx hb dX1_isOver_16 (by decide) ?_
    exact W.zret (v := 0) hx hb hr rfl (fun t ht hW => ⟨0, rfl, bz_f (by simp [ne_eq, c_135]), ht⟩) (fun _ h => absurd h List.not_mem_nil) dX1_isOver_17
  · refine lv_iconst (v := 1) hx hb dX1_isOver_12 (by decide) ?_
    refine lv_goto (tgt := 17) hx hb dX1_isOver_13 (by decide) ?_
    exact W.zret (v := 1) hx hb hr rfl (fun t ht hW => ⟨1, rfl, bz_t (by simp [ne_eq, c_135]), ht⟩) (fun _ h => absurd h List.not_mem_nil) dX1_isOver_17

abbrev rm_X1_hasThrow : Room := { frames := 0, cells := 0, slots := 0, locals := 0 }
set_option maxHeartbeats 1000000 in
set_option maxRecDepth 100000 in
theorem c_X1_hasThrow (l : Launch) (G : va_G) (cI cC cZ cG : ClassId) (sz : Nat) (qg qt qb qp qs qr qf : Nat) (pr sb br fe se : IA) (fl x : Int32) (pl : Nat) (th tu ca : Int32) : Met l yX1_hasThrow (.code yX1_hasThrow cX1_hasThrow 1 (some .boolean) :: wsL_law) rm_X1_hasThrow (va_Pc [.ref qg] (bw G cI cC cZ cG false sz [(qg, .inr (1, [.ref qb, .ref qt, .int x, .int (nI pl), .int th, .int tu, .int ca])), (qt, .inl (cI, 3, .inl se)), (qb, .inr (0, [.ref qp, .ref qs, .ref qr, .ref qf, .int fl])), (qp, .inl (cI, 12, .inl pr)), (qs, .inl (cI, 12, .inl sb)), (qr, .inl (cI, 4, .inl br)), (qf, .inl (cI, 4, .inl fe))])) (vp_Si (fun r => r = bz (¬ th = -6))) 0 0 (fun _ => False) := by
  refine met_bw rfl (Nat.le_of_ble_eq_true rfl) ?_
  intro p e s m below meth c ls hx hb hr hml hown hts hlocks hin hsz hP hK hD0 hX0 hl
  have hown : s.vm.findClass RX1 = some m.cls := hown
  have hl : lv_has ls 1 [(0, .ref qg)] := hl
  refine lv_aload_n hx hb dX1_hasThrow_0 rfl (lv_at hl 0 rfl) ?_
  refine va_get (D := G) (ci := 1) (v := .int th) (C := RX1) (T := TX1) (N := 7) hx hb hts inlX1 hown hK.1 hP 0 rfl rfl 4 (by decide) (hts _ wd38) (fun _ h9 => h9) rfl dX1_hasThrow_1 ?_
  refine lv_bipush (v := (-6)) hx hb dX1_hasThrow_4 (by decide) ?_
  refine lv_icmp_eq (tgt := 13) hx hb dX1_hasThrow_6 (by decide) (fun c_136 => ?_) (fun c_136 => ?_)
  · refine lv_iconst (v := 0) hx hb dX1_hasThrow_13 (by decide) ?_
    exact W.zret (v := 0) hx hb hr rfl (fun t ht hW => ⟨0, rfl, bz_f (by simp [ne_eq, c_136]), ht⟩) (fun _ h => absurd h List.not_mem_nil) dX1_hasThrow_14
  · refine lv_iconst (v := 1) hx hb dX1_hasThrow_9 (by decide) ?_
    refine lv_goto (tgt := 14) hx hb dX1_hasThrow_10 (by decide) ?_
    exact W.zret (v := 1) hx hb hr rfl (fun t ht hW => ⟨1, rfl, bz_t (by simp [ne_eq, c_136]), ht⟩) (fun _ h => absurd h List.not_mem_nil) dX1_hasThrow_14

abbrev rm_X1_reason : Room := { frames := 3, cells := 0, slots := 0, locals := 71 }
theorem cf_RX1_58 {R : Room} {s : State} {args : Array Value} (ht : ∀ w ∈ wsL_law, w.before args s = true) (hN : ∀ w ∈ nestW, va_Nw w s) (hR : rm_X0_target.frames + 1 ≤ R.frames ∧ 8 + (6 + 11) + rm_X0_target.locals ≤ R.locals) : va_CN R s args RX1 58 yX0_target "BridgedPachisi" cX0_target 6 (some .int) (.code yX0_target cX0_target 6 (some .int) :: wsL_law) rm_X0_target 0 0 3 ∧ (Cond.instanceMethod yX0_target).before args s = true ∧ (Cond.selects RX0 yX0_target yX0_target).before args s = true := ⟨cw_N 3 ht hN nw32 wd33 wd165 (by decide +kernel) rfl rfl hR, ht _ wd163, ht _ wd164⟩
theorem cf_RX1_62 {R : Room} {s : State} {args : Array Value} (ht : ∀ w ∈ wsL_law, w.before args s = true) (hN : ∀ w ∈ nestW, va_Nw w s) (hR : rm_X0_isBlockedOnWay.frames + 1 ≤ R.frames ∧ 8 + (6 + 11) + rm_X0_isBlockedOnWay.locals ≤ R.locals) : va_CN R s args RX1 62 yX0_isBlockedOnWay "BridgedPachisi" cX0_isBlockedOnWay 6 (some .boolean) (.code yX0_isBlockedOnWay cX0_isBlockedOnWay 6 (some .boolean) :: wsL_law) rm_X0_isBlockedOnWay 0 0 3 ∧ (Cond.instanceMethod yX0_isBlockedOnWay).before args s = true ∧ (Cond.selects RX0 yX0_isBlockedOnWay yX0_isBlockedOnWay).before args s = true := ⟨cw_N 3 ht hN nw33 wd33 wd172 (by decide +kernel) rfl rfl hR, ht _ wd170, ht _ wd171⟩
theorem cf_RX1_66 {R : Room} {s : State} {args : Array Value} (ht : ∀ w ∈ wsL_law, w.before args s = true) (hN : ∀ w ∈ nestW, va_Nw w s) (hR : rm_X0_isFullFor.frames + 1 ≤ R.frames ∧ 8 + (3 + 11) + rm_X0_isFullFor.locals ≤ R.locals) : va_CN R s args RX1 66 yX0_isFullFor "BridgedPachisi" cX0_isFullFor 3 (some .boolean) (.code yX0_isFullFor cX0_isFullFor 3 (some .boolean) :: wsL_law) rm_X0_isFullFor 0 0 2 ∧ (Cond.instanceMethod yX0_isFullFor).before args s = true ∧ (Cond.selects RX0 yX0_isFullFor yX0_isFullFor).before args s = true := ⟨cw_N 2 ht hN nw34 wd33 wd179 (by decide +kernel) rfl rfl hR, ht _ wd177, ht _ wd178⟩
theorem cf_RX1_70 {R : Room} {s : State} {args : Array Value} (ht : ∀ w ∈ wsL_law, w.before args s = true) (hN : ∀ w ∈ nestW, va_Nw w s) (hR : rm_X5_ringField.frames + 1 ≤ R.frames ∧ 8 + (2 + 11) + rm_X5_ringField.locals ≤ R.locals) : va_CN R s args RX1 70 yX5_ringField "BridgedPachisi" cX5_ringField 2 (some .int) (.code yX5_ringField cX5_ringField 2 (some .int) :: wsL_law) rm_X5_ringField 0 0 2 ∧ (Cond.static yX5_ringField).before args s = true ∧ True := ⟨cw_N 2 ht hN nw35 wd2 wd88 (by decide +kernel) rfl rfl hR, ht _ wd87, trivial⟩
theorem cf_RX1_74 {R : Room} {s : State} {args : Array Value} (ht : ∀ w ∈ wsL_law, w.before args s = true) (hN : ∀ w ∈ nestW, va_Nw w s) (hR : rm_X5_isSafe.frames + 1 ≤ R.frames ∧ 8 + (1 + 11) + rm_X5_isSafe.locals ≤ R.locals) : va_CN R s args RX1 74 yX5_isSafe "BridgedPachisi" cX5_isSafe 1 (some .boolean) (.code yX5_isSafe cX5_isSafe 1 (some .boolean) :: wsL_law) rm_X5_isSafe 0 0 1 ∧ (Cond.static yX5_isSafe).before args s = true ∧ True := ⟨cw_N 1 ht hN nw36 wd2 wd113 (by decide +kernel) rfl rfl hR, ht _ wd112, trivial⟩
theorem cf_RX1_78 {R : Room} {s : State} {args : Array Value} (ht : ∀ w ∈ wsL_law, w.before args s = true) (hN : ∀ w ∈ nestW, va_Nw w s) (hR : rm_X0_rivalsAt.frames + 1 ≤ R.frames ∧ 8 + (6 + 11) + rm_X0_rivalsAt.locals ≤ R.locals) : va_CN R s args RX1 78 yX0_rivalsAt "BridgedPachisi" cX0_rivalsAt 6 (some .int) (.code yX0_rivalsAt cX0_rivalsAt 6 (some .int) :: wsL_law) rm_X0_rivalsAt 0 0 2 ∧ (Cond.instanceMethod yX0_rivalsAt).before args s = true ∧ (Cond.selects RX0 yX0_rivalsAt yX0_rivalsAt).before args s = true := ⟨cw_N 2 ht hN nw37 wd33 wd176 (by decide +kernel) rfl rfl hR, ht _ wd174, ht _ wd175⟩
set_option maxHeartbeats 1000000 in
set_option maxRecDepth 100000 in
theorem c_X1_reason (l : Launch) (G : va_G) (cI cC cZ cG : ClassId) (sz : Nat) (qg qt qb qp qs qr qf : Nat) (pr sb br fe se : IA) (fl x : Int32) (pl : Nat) (th tu ca : Int32) (k cn : Nat) (hpr : ∀ k, k < 12 → okv (pr k)) (hk : k < 12) (hc : cn ≤ 6) : Met l yX1_reason (.code yX1_reason cX1_reason 6 (some .int) :: wsL_law) rm_X1_reason (va_Pc [.ref qg, .int (nI k), .int (nI cn)] (bw G cI cC cZ cG false sz [(qg, .inr (1, [.ref qb, .ref qt, .int x, .int (nI pl), .int th, .int tu, .int ca])), (qt, .inl (cI, 3, .inl se)), (qb, .inr (0, [.ref qp, .ref qs, .ref qr, .ref qf, .int fl])), (qp, .inl (cI, 12, .inl pr)), (qs, .inl (cI, 12, .inl sb)), (qr, .inl (cI, 4, .inl br)), (qf, .inl (cI, 4, .inl fe))])) (vp_Si (fun r => r = rs pr br se k cn)) 0 0 (fun _ => False) := by
  refine met_bw rfl (Nat.le_of_ble_eq_true rfl) ?_
  intro p e s m below meth c ls hx hb hr hml hown hts hlocks hin hsz hP hK hD0 hX0 hl
  have hown : s.vm.findClass RX1 = some m.cls := hown
  have hl : lv_has ls 6 [(0, .ref qg), (1, .int (nI k)), (2, .int (nI cn))] := hl
  refine lv_iload_n hx hb dX1_reason_0 rfl (lv_at hl 1 rfl) ?_
  refine lv_iconst (v := 3) hx hb dX1_reason_1 (by decide) ?_
  refine zi_div hx hb k 3 dX1_reason_2 rfl rfl (by omega) (by decide) (by decide) ?_
  refine lv_istore_n (lv' := [(3, .int (nI (k / 3))), (0, .ref qg), (1, .int (nI k)), (2, .int (nI cn))]) hx hb dX1_reason_3 rfl hl (by decide) rfl (fun ls hl => ?_)
  refine lv_aload_n hx hb dX1_reason_4 rfl (lv_at hl 1 rfl) ?_
  refine va_get (D := G) (ci := 1) (v := .ref qb) (C := RX1) (T := TX1) (N := 7) hx hb hts inlX1 hown hK.1 hP 0 rfl rfl 0 (by decide) (hts _ wd34) (fun _ h9 => h9) rfl dX1_reason_5 ?_
  refine va_getN (D := G) (ci := 0) (v := .ref qp) (C := RX0) (T := TX0) (N := 5) hx hb hts inlX0 hown hK.1 hP 2 rfl rfl 0 (by decide) (va_Nw.use rfl (hK.2 _ nw2)) (fun _ h9 => h9) rfl dX1_reason_8 ?_
  refine lv_iload_n hx hb dX1_reason_11 rfl (lv_at hl 2 rfl) ?_
  refine za_ld hx hb hK.1 hP 3 0 rfl rfl k rfl (by omega) (by decide) dX1_reason_12 ?_
  refine lv_istore (lv' := [(4, .int (pr k)), (3, .int (nI (k / 3))), (0, .ref qg), (1, .int (nI k)), (2, .int (nI cn))]) hx hb dX1_reason_13 hl (by decide) rfl (fun ls hl => ?_)
  refine lv_iload hx hb dX1_reason_15 (lv_at hl 0 rfl) ?_
  refine lv_bipush (v := 35) hx hb dX1_reason_17 (by decide) ?_
  refine lv_icmp_ne (tgt := 24) hx hb dX1_reason_19 (by decide) (fun c_137 => ?_) (fun c_137 => ?_)
  · refine lv_iload hx hb dX1_reason_24 (lv_at hl 0 rfl) ?_
    refine lv_bipush (v := (-6)) hx hb dX1_reason_26 (by decide) ?_
    refine lv_icmp_ne (tgt := 43) hx hb dX1_reason_28 (by decide) (fun c_138 => ?_) (fun c_138 => ?_)
    · refine lv_aload_n hx hb dX1_reason_43 rfl (lv_at hl 2 rfl) ?_
      refine va_get (D := G) (ci := 1) (v := .ref qb) (C := RX1) (T := TX1) (N := 7) hx hb hts inlX1 hown hK.1 hP 0 rfl rfl 0 (by decide) (hts _ wd34) (fun _ h9 => h9) rfl dX1_reason_44 ?_
      refine lv_iload_n hx hb dX1_reason_47 rfl (lv_at hl 1 rfl) ?_
      refine lv_iload hx hb dX1_reason_48 (lv_at hl 0 rfl) ?_
      refine lv_iload_n hx hb dX1_reason_50 rfl (lv_at hl 4 rfl) ?_
      have hPc := hP.sub (ws' := [(qb, .inr (0, [.ref qp, .ref qs, .ref qr, .ref qf, .int fl])), (qp, .inl (cI, 12, .inl pr)), (qs, .inl (cI, 12, .inl sb)), (qr, .inl (cI, 4, .inl br)), (qf, .inl (cI, 4, .inl fe))]) [2, 3, 4, 5, 6] rfl
      have hDc := (hD0.sub (ws' := [(qb, .inr (0, [.ref qp, .ref qs, .ref qr, .ref qf, .int fl])), (qp, .inl (cI, 12, .inl pr)), (qs, .inl (cI, 12, .inl sb)), (qr, .inl (cI, 4, .inl br)), (qf, .inl (cI, 4, .inl fe))]) [2, 3, 4, 5, 6] (by decide) rfl).tt
      refine vp_callSi (va_Run.run (va_runVN (As := [.int (nI (k / 3)), .int (pr k), .int (nI cn)]) (rest := []) ⟨hx, hb, hml, hown, hts⟩ (c_X0_target l G cI cC cZ cG s.heap.size qb qp qs qr qf pr sb br fe fl (k / 3) (pr k) cn (by omega) (hpr k hk) hc) (cf_RX1_58 hts hK.2 ⟨Nat.le_of_ble_eq_true rfl, Nat.le_of_ble_eq_true rfl⟩) (pre_V hK hPc hDc (ci := 0) (q0 := 0) rfl rfl) rfl rfl hl.1 rfl (lv_room (Nat.le_of_ble_eq_true rfl)) dX1_reason_51 ⟨Nat.le_of_ble_eq_true rfl, Nat.le_of_ble_eq_true rfl⟩)) (fun r139 hr139 => ?_)
      subst hr139
      refine lv_istore (lv' := [(5, .int (tgt br (k / 3) (pr k) cn)), (4, .int (pr k)), (3, .int (nI (k / 3))), (0, .ref qg), (1, .int (nI k)), (2, .int (nI cn))]) hx hb dX1_reason_54 hl (by decide) rfl (fun ls hl => ?_)
      refine lv_iload hx hb dX1_reason_56 (lv_at hl 0 rfl) ?_
      refine lv_bipush (v := (-6)) hx hb dX1_reason_58 (by decide) ?_
      refine lv_icmp_ne (tgt := 65) hx hb dX1_reason_60 (by decide) (fun c_140 => ?_) (fun c_140 => ?_)
      · obtain ⟨tn, htn, etn, -, hft⟩ := tgt_ne (hpr k hk) hc c_140
        have ecl : (nI tn).toNatClampNeg = tn := nI_clamp (by omega)
        rw [etn] at hl
        refine lv_aload_n hx hb dX1_reason_65 rfl (lv_at hl 3 rfl) ?_
        refine va_get (D := G) (ci := 1) (v := .ref qb) (C := RX1) (T := TX1) (N := 7) hx hb hts inlX1 hown hK.1 hP 0 rfl rfl 0 (by decide) (hts _ wd34) (fun _ h9 => h9) rfl dX1_reason_66 ?_
        refine lv_iload_n hx hb dX1_reason_69 rfl (lv_at hl 2 rfl) ?_
        refine lv_iload hx hb dX1_reason_70 (lv_at hl 1 rfl) ?_
        refine lv_iload hx hb dX1_reason_72 (lv_at hl 0 rfl) ?_
        have hPc := hP.sub (ws' := [(qb, .inr (0, [.ref qp, .ref qs, .ref qr, .ref qf, .int fl])), (qp, .inl (cI, 12, .inl pr)), (qs, .inl (cI, 12, .inl sb)), (qr, .inl (cI, 4, .inl br)), (qf, .inl (cI, 4, .inl fe))]) [2, 3, 4, 5, 6] rfl
        have hDc := (hD0.sub (ws' := [(qb, .inr (0, [.ref qp, .ref qs, .ref qr, .ref qf, .int fl])), (qp, .inl (cI, 12, .inl pr)), (qs, .inl (cI, 12, .inl sb)), (qr, .inl (cI, 4, .inl br)), (qf, .inl (cI, 4, .inl fe))]) [2, 3, 4, 5, 6] (by decide) rfl).tt
        refine vp_callSi (va_Run.run (va_runVN (As := [.int (nI (k / 3)), .int (pr k), .int (nI tn)]) (rest := []) ⟨hx, hb, hml, hown, hts⟩ (c_X0_isBlockedOnWay l G cI cC cZ cG s.heap.size qb qp qs qr qf pr sb br fe fl (k / 3) (pr k) tn (by omega) (hpr k hk) htn hft) (cf_RX1_62 hts hK.2 ⟨Nat.le_of_ble_eq_true rfl, Nat.le_of_ble_eq_true rfl⟩) (pre_V hK hPc hDc (ci := 0) (q0 := 0) rfl rfl) rfl rfl hl.1 rfl (lv_room (Nat.le_of_ble_eq_true rfl)) dX1_reason_74 ⟨Nat.le_of_ble_eq_true rfl, Nat.le_of_ble_eq_true rfl⟩)) (fun r141 hr141 => ?_)
        subst hr141
        refine zb_eq (tgt := 82) hx hb dX1_reason_77 (by decide) (fun c_142 => ?_) (fun c_142 => ?_)
        · refine lv_aload_n hx hb dX1_reason_82 rfl (lv_at hl 3 rfl) ?_
          refine va_get (D := G) (ci := 1) (v := .ref qb) (C := RX1) (T := TX1) (N := 7) hx hb hts inlX1 hown hK.1 hP 0 rfl rfl 0 (by decide) (hts _ wd34) (fun _ h9 => h9) rfl dX1_reason_83 ?_
          refine lv_iload_n hx hb dX1_reason_86 rfl (lv_at hl 4 rfl) ?_
          refine lv_iload hx hb dX1_reason_87 (lv_at hl 0 rfl) ?_
          have hPc := hP.sub (ws' := [(qb, .inr (0, [.ref qp, .ref qs, .ref qr, .ref qf, .int fl])), (qp, .inl (cI, 12, .inl pr)), (qs, .inl (cI, 12, .inl sb)), (qr, .inl (cI, 4, .inl br)), (qf, .inl (cI, 4, .inl fe))]) [2, 3, 4, 5, 6] rfl
          have hDc := (hD0.sub (ws' := [(qb, .inr (0, [.ref qp, .ref qs, .ref qr, .ref qf, .int fl])), (qp, .inl (cI, 12, .inl pr)), (qs, .inl (cI, 12, .inl sb)), (qr, .inl (cI, 4, .inl br)), (qf, .inl (cI, 4, .inl fe))]) [2, 3, 4, 5, 6] (by decide) rfl).tt
          refine vp_callSi (va_Run.run (va_runVN (As := [.int (nI k), .int (nI tn)]) (rest := []) ⟨hx, hb, hml, hown, hts⟩ (c_X0_isFullFor l G cI cC cZ cG s.heap.size qb qp qs qr qf pr sb br fe fl k (nI tn) hk) (cf_RX1_66 hts hK.2 ⟨Nat.le_of_ble_eq_true rfl, Nat.le_of_ble_eq_true rfl⟩) (pre_V hK hPc hDc (ci := 0) (q0 := 0) rfl rfl) rfl rfl hl.1 rfl (lv_room (Nat.le_of_ble_eq_true rfl)) dX1_reason_89 ⟨Nat.le_of_ble_eq_true rfl, Nat.le_of_ble_eq_true rfl⟩)) (fun r143 hr143 => ?_)
          subst hr143
          refine zb_eq (tgt := 97) hx hb dX1_reason_92 (by decide) (fun c_144 => ?_) (fun c_144 => ?_)
          · refine lv_iload_n hx hb dX1_reason_97 rfl (lv_at hl 2 rfl) ?_
            refine lv_iload hx hb dX1_reason_98 (lv_at hl 0 rfl) ?_
            refine vp_callSi (va_Run.run (va_runSN (As := [.int (nI (k / 3)), .int (nI tn)]) (rest := []) ⟨hx, hb, hml, hown, hts⟩ (c_X5_ringField l (k / 3) (nI tn) (by omega)) (cf_RX1_70 hts hK.2 ⟨Nat.le_of_ble_eq_true rfl, Nat.le_of_ble_eq_true rfl⟩) pre_P rfl rfl hl.1 rfl (lv_room (Nat.le_of_ble_eq_true rfl)) dX1_reason_100 ⟨Nat.le_of_ble_eq_true rfl, Nat.le_of_ble_eq_true rfl⟩)) (fun r145 hr145 => ?_)
            subst hr145
            refine vp_callSi (va_Run.run (va_runSN (As := [.int (rf (k / 3) (nI tn))]) (rest := []) ⟨hx, hb, hml, hown, hts⟩ (c_X5_isSafe l (rf (k / 3) (nI tn))) (cf_RX1_74 hts hK.2 ⟨Nat.le_of_ble_eq_true rfl, Nat.le_of_ble_eq_true rfl⟩) pre_P rfl rfl hl.1 rfl (lv_room (Nat.le_of_ble_eq_true rfl)) dX1_reason_103 ⟨Nat.le_of_ble_eq_true rfl, Nat.le_of_ble_eq_true rfl⟩)) (fun r146 hr146 => ?_)
            subst hr146
            refine zb_eq (tgt := 125) hx hb dX1_reason_106 (by decide) (fun c_147 => ?_) (fun c_147 => ?_)
            · refine lv_iconst (v := 0) hx hb dX1_reason_125 (by decide) ?_
              exact W.iret (v := 0) hx hb hr (fun t ht hW => ⟨0, rfl, by rw [rs, if_neg c_137, if_neg (fun h => c_138 h.1), if_neg c_140, etn, ecl, if_neg c_142, if_neg c_144, if_neg (fun h => c_147 h.1)], ht⟩) (fun _ h => absurd h List.not_mem_nil) dX1_reason_126
            · refine lv_aload_n hx hb dX1_reason_109 rfl (lv_at hl 3 rfl) ?_
              refine va_get (D := G) (ci := 1) (v := .ref qb) (C := RX1) (T := TX1) (N := 7) hx hb hts inlX1 hown hK.1 hP 0 rfl rfl 0 (by decide) (hts _ wd34) (fun _ h9 => h9) rfl dX1_reason_110 ?_
              refine lv_iload_n hx hb dX1_reason_113 rfl (lv_at hl 2 rfl) ?_
              refine lv_iload hx hb dX1_reason_114 (lv_at hl 0 rfl) ?_
              have hPc := hP.sub (ws' := [(qb, .inr (0, [.ref qp, .ref qs, .ref qr, .ref qf, .int fl])), (qp, .inl (cI, 12, .inl pr)), (qs, .inl (cI, 12, .inl sb)), (qr, .inl (cI, 4, .inl br)), (qf, .inl (cI, 4, .inl fe))]) [2, 3, 4, 5, 6] rfl
              have hDc := (hD0.sub (ws' := [(qb, .inr (0, [.ref qp, .ref qs, .ref qr, .ref qf, .int fl])), (qp, .inl (cI, 12, .inl pr)), (qs, .inl (cI, 12, .inl sb)), (qr, .inl (cI, 4, .inl br)), (qf, .inl (cI, 4, .inl fe))]) [2, 3, 4, 5, 6] (by decide) rfl).tt
              refine vp_callSi (va_Run.run (va_runVN (As := [.int (nI (k / 3)), .int (nI tn)]) (rest := []) ⟨hx, hb, hml, hown, hts⟩ (c_X0_rivalsAt l G cI cC cZ cG s.heap.size qb qp qs qr qf pr sb br fe fl (k / 3) (nI tn) (by omega)) (cf_RX1_78 hts hK.2 ⟨Nat.le_of_ble_eq_true rfl, Nat.le_of_ble_eq_true rfl⟩) (pre_V hK hPc hDc (ci := 0) (q0 := 0) rfl rfl) rfl rfl hl.1 rfl (lv_room (Nat.le_of_ble_eq_true rfl)) dX1_reason_116 ⟨Nat.le_of_ble_eq_true rfl, Nat.le_of_ble_eq_true rfl⟩)) (fun r148 hr148 => ?_)
              subst hr148
              have hf149 := (show rv pr (k / 3) (nI tn) ≤ 12 from cnt_le (rvP pr (k / 3) (rf (k / 3) (nI tn))) 12)
              refine z0_le (tgt := 125) hx hb (rv pr (k / 3) (nI tn)) dX1_reason_119 (by decide) rfl (by omega) (fun c_150 => ?_) (fun c_150 => ?_)
              · refine lv_iconst (v := 0) hx hb dX1_reason_125 (by decide) ?_
                exact W.iret (v := 0) hx hb hr (fun t ht hW => ⟨0, rfl, by rw [rs, if_neg c_137, if_neg (fun h => c_138 h.1), if_neg c_140, etn, ecl, if_neg c_142, if_neg c_144, if_neg (fun h => absurd h.2 (by omega))], ht⟩) (fun _ h => absurd h List.not_mem_nil) dX1_reason_126
              · refine lv_bipush (v := 6) hx hb dX1_reason_122 (by decide) ?_
                exact W.iret (v := 6) hx hb hr (fun t ht hW => ⟨6, rfl, by rw [rs, if_neg c_137, if_neg (fun h => c_138 h.1), if_neg c_140, etn, ecl, if_neg c_142, if_neg c_144, if_pos ⟨c_147, c_150⟩], ht⟩) (fun _ h => absurd h List.not_mem_nil) dX1_reason_124
          · refine lv_iconst (v := 5) hx hb dX1_reason_95 (by decide) ?_
            exact W.iret (v := 5) hx hb hr (fun t ht hW => ⟨5, rfl, by rw [rs, if_neg c_137, if_neg (fun h => c_138 h.1), if_neg c_140, etn, ecl, if_neg c_142, if_pos c_144], ht⟩) (fun _ h => absurd h List.not_mem_nil) dX1_reason_96
        · refine lv_iconst (v := 4) hx hb dX1_reason_80 (by decide) ?_
          exact W.iret (v := 4) hx hb hr (fun t ht hW => ⟨4, rfl, by rw [rs, if_neg c_137, if_neg (fun h => c_138 h.1), if_neg c_140, etn, ecl, if_pos c_142], ht⟩) (fun _ h => absurd h List.not_mem_nil) dX1_reason_81
      · refine lv_iconst (v := 3) hx hb dX1_reason_63 (by decide) ?_
        exact W.iret (v := 3) hx hb hr (fun t ht hW => ⟨3, rfl, by rw [rs, if_neg c_137, if_neg (fun h => c_138 h.1), if_pos c_140], ht⟩) (fun _ h => absurd h List.not_mem_nil) dX1_reason_64
    · refine lv_iload_n hx hb dX1_reason_31 rfl (lv_at hl 4 rfl) ?_
      refine lv_aload_n hx hb dX1_reason_32 rfl (lv_at hl 2 rfl) ?_
      refine va_get (D := G) (ci := 1) (v := .ref qt) (C := RX1) (T := TX1) (N := 7) hx hb hts inlX1 hown hK.1 hP 0 rfl rfl 1 (by decide) (hts _ wd35) (fun _ h9 => h9) rfl dX1_reason_33 ?_
      refine lv_iconst (v := 0) hx hb dX1_reason_36 (by decide) ?_
      refine za_ld hx hb hK.1 hP 1 0 rfl rfl 0 rfl (by decide) (by decide) dX1_reason_37 ?_
      refine lv_icmp_ge (tgt := 43) hx hb dX1_reason_38 (by decide) (fun c_151 => ?_) (fun c_151 => ?_)
      · refine lv_aload_n hx hb dX1_reason_43 rfl (lv_at hl 2 rfl) ?_
        refine va_get (D := G) (ci := 1) (v := .ref qb) (C := RX1) (T := TX1) (N := 7) hx hb hts inlX1 hown hK.1 hP 0 rfl rfl 0 (by decide) (hts _ wd34) (fun _ h9 => h9) rfl dX1_reason_44 ?_
        refine lv_iload_n hx hb dX1_reason_47 rfl (lv_at hl 1 rfl) ?_
        refine lv_iload hx hb dX1_reason_48 (lv_at hl 0 rfl) ?_
        refine lv_iload_n hx hb dX1_reason_50 rfl (lv_at hl 4 rfl) ?_
        have hPc := hP.sub (ws' := [(qb, .inr (0, [.ref qp, .ref qs, .ref qr, .ref qf, .int fl])), (qp, .inl (cI, 12, .inl pr)), (qs, .inl (cI, 12, .inl sb)), (qr, .inl (cI, 4, .inl br)), (qf, .inl (cI, 4, .inl fe))]) [2, 3, 4, 5, 6] rfl
        have hDc := (hD0.sub (ws' := [(qb, .inr (0, [.ref qp, .ref qs, .ref qr, .ref qf, .int fl])), (qp, .inl (cI, 12, .inl pr)), (qs, .inl (cI, 12, .inl sb)), (qr, .inl (cI, 4, .inl br)), (qf, .inl (cI, 4, .inl fe))]) [2, 3, 4, 5, 6] (by decide) rfl).tt
        refine vp_callSi (va_Run.run (va_runVN (As := [.int (nI (k / 3)), .int (pr k), .int (nI cn)]) (rest := []) ⟨hx, hb, hml, hown, hts⟩ (c_X0_target l G cI cC cZ cG s.heap.size qb qp qs qr qf pr sb br fe fl (k / 3) (pr k) cn (by omega) (hpr k hk) hc) (cf_RX1_58 hts hK.2 ⟨Nat.le_of_ble_eq_true rfl, Nat.le_of_ble_eq_true rfl⟩) (pre_V hK hPc hDc (ci := 0) (q0 := 0) rfl rfl) rfl rfl hl.1 rfl (lv_room (Nat.le_of_ble_eq_true rfl)) dX1_reason_51 ⟨Nat.le_of_ble_eq_true rfl, Nat.le_of_ble_eq_true rfl⟩)) (fun r152 hr152 => ?_)
        subst hr152
        refine lv_istore (lv' := [(5, .int (tgt br (k / 3) (pr k) cn)), (4, .int (pr k)), (3, .int (nI (k / 3))), (0, .ref qg), (1, .int (nI k)), (2, .int (nI cn))]) hx hb dX1_reason_54 hl (by decide) rfl (fun ls hl => ?_)
        refine lv_iload hx hb dX1_reason_56 (lv_at hl 0 rfl) ?_
        refine lv_bipush (v := (-6)) hx hb dX1_reason_58 (by decide) ?_
        refine lv_icmp_ne (tgt := 65) hx hb dX1_reason_60 (by decide) (fun c_153 => ?_) (fun c_153 => ?_)
        · obtain ⟨tn, htn, etn, -, hft⟩ := tgt_ne (hpr k hk) hc c_153
          have ecl : (nI tn).toNatClampNeg = tn := nI_clamp (by omega)
          rw [etn] at hl
          refine lv_aload_n hx hb dX1_reason_65 rfl (lv_at hl 3 rfl) ?_
          refine va_get (D := G) (ci := 1) (v := .ref qb) (C := RX1) (T := TX1) (N := 7) hx hb hts inlX1 hown hK.1 hP 0 rfl rfl 0 (by decide) (hts _ wd34) (fun _ h9 => h9) rfl dX1_reason_66 ?_
          refine lv_iload_n hx hb dX1_reason_69 rfl (lv_at hl 2 rfl) ?_
          refine lv_iload hx hb dX1_reason_70 (lv_at hl 1 rfl) ?_
          refine lv_iload hx hb dX1_reason_72 (lv_at hl 0 rfl) ?_
          have hPc := hP.sub (ws' := [(qb, .inr (0, [.ref qp, .ref qs, .ref qr, .ref qf, .int fl])), (qp, .inl (cI, 12, .inl pr)), (qs, .inl (cI, 12, .inl sb)), (qr, .inl (cI, 4, .inl br)), (qf, .inl (cI, 4, .inl fe))]) [2, 3, 4, 5, 6] rfl
          have hDc := (hD0.sub (ws' := [(qb, .inr (0, [.ref qp, .ref qs, .ref qr, .ref qf, .int fl])), (qp, .inl (cI, 12, .inl pr)), (qs, .inl (cI, 12, .inl sb)), (qr, .inl (cI, 4, .inl br)), (qf, .inl (cI, 4, .inl fe))]) [2, 3, 4, 5, 6] (by decide) rfl).tt
          refine vp_callSi (va_Run.run (va_runVN (As := [.int (nI (k / 3)), .int (pr k), .int (nI tn)]) (rest := []) ⟨hx, hb, hml, hown, hts⟩ (c_X0_isBlockedOnWay l G cI cC cZ cG s.heap.size qb qp qs qr qf pr sb br fe fl (k / 3) (pr k) tn (by omega) (hpr k hk) htn hft) (cf_RX1_62 hts hK.2 ⟨Nat.le_of_ble_eq_true rfl, Nat.le_of_ble_eq_true rfl⟩) (pre_V hK hPc hDc (ci := 0) (q0 := 0) rfl rfl) rfl rfl hl.1 rfl (lv_room (Nat.le_of_ble_eq_true rfl)) dX1_reason_74 ⟨Nat.le_of_ble_eq_true rfl, Nat.le_of_ble_eq_true rfl⟩)) (fun r154 hr154 => ?_)
          subst hr154
          refine zb_eq (tgt := 82) hx hb dX1_reason_77 (by decide) (fun c_155 => ?_) (fun c_155 => ?_)
          · refine lv_aload_n hx hb dX1_reason_82 rfl (lv_at hl 3 rfl) ?_
            refine va_get (D := G) (ci := 1) (v := .ref qb) (C := RX1) (T := TX1) (N := 7) hx hb hts inlX1 hown hK.1 hP 0 rfl rfl 0 (by decide) (hts _ wd34) (fun _ h9 => h9) rfl dX1_reason_83 ?_
            refine lv_iload_n hx hb dX1_reason_86 rfl (lv_at hl 4 rfl) ?_
            refine lv_iload hx hb dX1_reason_87 (lv_at hl 0 rfl) ?_
            have hPc := hP.sub (ws' := [(qb, .inr (0, [.ref qp, .ref qs, .ref qr, .ref qf, .int fl])), (qp, .inl (cI, 12, .inl pr)), (qs, .inl (cI, 12, .inl sb)), (qr, .inl (cI, 4, .inl br)), (qf, .inl (cI, 4, .inl fe))]) [2, 3, 4, 5, 6] rfl
            have hDc := (hD0.sub (ws' := [(qb, .inr (0, [.ref qp, .ref qs, .ref qr, .ref qf, .int fl])), (qp, .inl (cI, 12, .inl pr)), (qs, .inl (cI, 12, .inl sb)), (qr, .inl (cI, 4, .inl br)), (qf, .inl (cI, 4, .inl fe))]) [2, 3, 4, 5, 6] (by decide) rfl).tt
            refine vp_callSi (va_Run.run (va_runVN (As := [.int (nI k), .int (nI tn)]) (rest := []) ⟨hx, hb, hml, hown, hts⟩ (c_X0_isFullFor l G cI cC cZ cG s.heap.size qb qp qs qr qf pr sb br fe fl k (nI tn) hk) (cf_RX1_66 hts hK.2 ⟨Nat.le_of_ble_eq_true rfl, Nat.le_of_ble_eq_true rfl⟩) (pre_V hK hPc hDc (ci := 0) (q0 := 0) rfl rfl) rfl rfl hl.1 rfl (lv_room (Nat.le_of_ble_eq_true rfl)) dX1_reason_89 ⟨Nat.le_of_ble_eq_true rfl, Nat.le_of_ble_eq_true rfl⟩)) (fun r156 hr156 => ?_)
            subst hr156
            refine zb_eq (tgt := 97) hx hb dX1_reason_92 (by decide) (fun c_157 => ?_) (fun c_157 => ?_)
            · refine lv_iload_n hx hb dX1_reason_97 rfl (lv_at hl 2 rfl) ?_
              refine lv_iload hx hb dX1_reason_98 (lv_at hl 0 rfl) ?_
              refine vp_callSi (va_Run.run (va_runSN (As := [.int (nI (k / 3)), .int (nI tn)]) (rest := []) ⟨hx, hb, hml, hown, hts⟩ (c_X5_ringField l (k / 3) (nI tn) (by omega)) (cf_RX1_70 hts hK.2 ⟨Nat.le_of_ble_eq_true rfl, Nat.le_of_ble_eq_true rfl⟩) pre_P rfl rfl hl.1 rfl (lv_room (Nat.le_of_ble_eq_true rfl)) dX1_reason_100 ⟨Nat.le_of_ble_eq_true rfl, Nat.le_of_ble_eq_true rfl⟩)) (fun r158 hr158 => ?_)
              subst hr158
              refine vp_callSi (va_Run.run (va_runSN (As := [.int (rf (k / 3) (nI tn))]) (rest := []) ⟨hx, hb, hml, hown, hts⟩ (c_X5_isSafe l (rf (k / 3) (nI tn))) (cf_RX1_74 hts hK.2 ⟨Nat.le_of_ble_eq_true rfl, Nat.le_of_ble_eq_true rfl⟩) pre_P rfl rfl hl.1 rfl (lv_room (Nat.le_of_ble_eq_true rfl)) dX1_reason_103 ⟨Nat.le_of_ble_eq_true rfl, Nat.le_of_ble_eq_true rfl⟩)) (fun r159 hr159 => ?_)
              subst hr159
              refine zb_eq (tgt := 125) hx hb dX1_reason_106 (by decide) (fun c_160 => ?_) (fun c_160 => ?_)
              · refine lv_iconst (v := 0) hx hb dX1_reason_125 (by decide) ?_
                exact W.iret (v := 0) hx hb hr (fun t ht hW => ⟨0, rfl, by rw [rs, if_neg c_137, if_neg (fun h => h.2 c_151), if_neg c_153, etn, ecl, if_neg c_155, if_neg c_157, if_neg (fun h => c_160 h.1)], ht⟩) (fun _ h => absurd h List.not_mem_nil) dX1_reason_126
              · refine lv_aload_n hx hb dX1_reason_109 rfl (lv_at hl 3 rfl) ?_
                refine va_get (D := G) (ci := 1) (v := .ref qb) (C := RX1) (T := TX1) (N := 7) hx hb hts inlX1 hown hK.1 hP 0 rfl rfl 0 (by decide) (hts _ wd34) (fun _ h9 => h9) rfl dX1_reason_110 ?_
                refine lv_iload_n hx hb dX1_reason_113 rfl (lv_at hl 2 rfl) ?_
                refine lv_iload hx hb dX1_reason_114 (lv_at hl 0 rfl) ?_
                have hPc := hP.sub (ws' := [(qb, .inr (0, [.ref qp, .ref qs, .ref qr, .ref qf, .int fl])), (qp, .inl (cI, 12, .inl pr)), (qs, .inl (cI, 12, .inl sb)), (qr, .inl (cI, 4, .inl br)), (qf, .inl (cI, 4, .inl fe))]) [2, 3, 4, 5, 6] rfl
                have hDc := (hD0.sub (ws' := [(qb, .inr (0, [.ref qp, .ref qs, .ref qr, .ref qf, .int fl])), (qp, .inl (cI, 12, .inl pr)), (qs, .inl (cI, 12, .inl sb)), (qr, .inl (cI, 4, .inl br)), (qf, .inl (cI, 4, .inl fe))]) [2, 3, 4, 5, 6] (by decide) rfl).tt
                refine vp_callSi (va_Run.run (va_runVN (As := [.int (nI (k / 3)), .int (nI tn)]) (rest := []) ⟨hx, hb, hml, hown, hts⟩ (c_X0_rivalsAt l G cI cC cZ cG s.heap.size qb qp qs qr qf pr sb br fe fl (k / 3) (nI tn) (by omega)) (cf_RX1_78 hts hK.2 ⟨Nat.le_of_ble_eq_true rfl, Nat.le_of_ble_eq_true rfl⟩) (pre_V hK hPc hDc (ci := 0) (q0 := 0) rfl rfl) rfl rfl hl.1 rfl (lv_room (Nat.le_of_ble_eq_true rfl)) dX1_reason_116 ⟨Nat.le_of_ble_eq_true rfl, Nat.le_of_ble_eq_true rfl⟩)) (fun r161 hr161 => ?_)
                subst hr161
                have hf162 := (show rv pr (k / 3) (nI tn) ≤ 12 from cnt_le (rvP pr (k / 3) (rf (k / 3) (nI tn))) 12)
                refine z0_le (tgt := 125) hx hb (rv pr (k / 3) (nI tn)) dX1_reason_119 (by decide) rfl (by omega) (fun c_163 => ?_) (fun c_163 => ?_)
                · refine lv_iconst (v := 0) hx hb dX1_reason_125 (by decide) ?_
                  exact W.iret (v := 0) hx hb hr (fun t ht hW => ⟨0, rfl, by rw [rs, if_neg c_137, if_neg (fun h => h.2 c_151), if_neg c_153, etn, ecl, if_neg c_155, if_neg c_157, if_neg (fun h => absurd h.2 (by omega))], ht⟩) (fun _ h => absurd h List.not_mem_nil) dX1_reason_126
                · refine lv_bipush (v := 6) hx hb dX1_reason_122 (by decide) ?_
                  exact W.iret (v := 6) hx hb hr (fun t ht hW => ⟨6, rfl, by rw [rs, if_neg c_137, if_neg (fun h => h.2 c_151), if_neg c_153, etn, ecl, if_neg c_155, if_neg c_157, if_pos ⟨c_160, c_163⟩], ht⟩) (fun _ h => absurd h List.not_mem_nil) dX1_reason_124
            · refine lv_iconst (v := 5) hx hb dX1_reason_95 (by decide) ?_
              exact W.iret (v := 5) hx hb hr (fun t ht hW => ⟨5, rfl, by rw [rs, if_neg c_137, if_neg (fun h => h.2 c_151), if_neg c_153, etn, ecl, if_neg c_155, if_pos c_157], ht⟩) (fun _ h => absurd h List.not_mem_nil) dX1_reason_96
          · refine lv_iconst (v := 4) hx hb dX1_reason_80 (by decide) ?_
            exact W.iret (v := 4) hx hb hr (fun t ht hW => ⟨4, rfl, by rw [rs, if_neg c_137, if_neg (fun h => h.2 c_151), if_neg c_153, etn, ecl, if_pos c_155], ht⟩) (fun _ h => absurd h List.not_mem_nil) dX1_reason_81
        · refine lv_iconst (v := 3) hx hb dX1_reason_63 (by decide) ?_
          exact W.iret (v := 3) hx hb hr (fun t ht hW => ⟨3, rfl, by rw [rs, if_neg c_137, if_neg (fun h => h.2 c_151), if_pos c_153], ht⟩) (fun _ h => absurd h List.not_mem_nil) dX1_reason_64
      · refine lv_iconst (v := 2) hx hb dX1_reason_41 (by decide) ?_
        exact W.iret (v := 2) hx hb hr (fun t ht hW => ⟨2, rfl, by rw [rs, if_neg c_137, if_pos ⟨c_138, c_151⟩], ht⟩) (fun _ h => absurd h List.not_mem_nil) dX1_reason_42
  · refine lv_iconst (v := 1) hx hb dX1_reason_22 (by decide) ?_
    exact W.iret (v := 1) hx hb hr (fun t ht hW => ⟨1, rfl, by rw [rs, if_pos c_137], ht⟩) (fun _ h => absurd h List.not_mem_nil) dX1_reason_23

abbrev rm_X1_canMoveBy : Room := { frames := 4, cells := 0, slots := 0, locals := 96 }
theorem cf_RX1_81 {R : Room} {s : State} {args : Array Value} (ht : ∀ w ∈ wsL_law, w.before args s = true) (hR : rm_X1_reason.frames + 1 ≤ R.frames ∧ 8 + (6 + 11) + rm_X1_reason.locals ≤ R.locals) : CallW R s args RX1 RX1 81 yX1_reason cX1_reason 6 (some .int) (.code yX1_reason cX1_reason 6 (some .int) :: wsL_law) rm_X1_reason 0 0 2 := ⟨cw_B 2 ht wd159 wd12 wd162 (by decide +kernel) rfl rfl hR, ht _ wd160, ht _ wd161⟩
set_option maxHeartbeats 1000000 in
set_option maxRecDepth 100000 in
theorem c_X1_canMoveBy (l : Launch) (G : va_G) (cI cC cZ cG : ClassId) (sz : Nat) (qg qt qb qp qs qr qf : Nat) (pr sb br fe se : IA) (fl x : Int32) (pl : Nat) (th tu ca : Int32) (cn : Nat) (hpr : ∀ k, k < 12 → okv (pr k)) (hc : cn ≤ 6) (hpl : pl < 4) : Met l yX1_canMoveBy (.code yX1_canMoveBy cX1_canMoveBy 3 (some .boolean) :: wsL_law) rm_X1_canMoveBy (va_Pc [.ref qg, .int (nI cn)] (bw G cI cC cZ cG false sz [(qg, .inr (1, [.ref qb, .ref qt, .int x, .int (nI pl), .int th, .int tu, .int ca])), (qt, .inl (cI, 3, .inl se)), (qb, .inr (0, [.ref qp, .ref qs, .ref qr, .ref qf, .int fl])), (qp, .inl (cI, 12, .inl pr)), (qs, .inl (cI, 12, .inl sb)), (qr, .inl (cI, 4, .inl br)), (qf, .inl (cI, 4, .inl fe))])) (vp_Si (fun r => r = bz (cmQ pr br se pl cn = true))) 0 0 (fun _ => False) := by
  refine met_bw rfl (Nat.le_of_ble_eq_true rfl) ?_
  intro p e s m below meth c ls hx hb hr hml hown hts hlocks hin hsz hP hK hD0 hX0 hl
  have hown : s.vm.findClass RX1 = some m.cls := hown
  have hl : lv_has ls 3 [(0, .ref qg), (1, .int (nI cn))] := hl
  generalize hQ : MQ below (vp_Si (fun r => r = bz (cmQ pr br se pl cn = true))) ([.ref qg, .int (nI cn)] : List Value).toArray s 0 0 (fun _ => False) = Q
  generalize hag : ([.ref qg, .int (nI cn)] : List Value).toArray = ag at hts hQ ⊢
  refine lv_aload_n hx hb dX1_canMoveBy_0 rfl (lv_at hl 0 rfl) ?_
  refine va_get (D := G) (ci := 1) (v := .int (nI pl)) (C := RX1) (T := TX1) (N := 7) hx hb hts inlX1 hown hK.1 hP 0 rfl rfl 3 (by decide) (hts _ wd37) (fun _ h9 => h9) rfl dX1_canMoveBy_1 ?_
  refine lv_iconst (v := 3) hx hb dX1_canMoveBy_4 (by decide) ?_
  refine zi_mul hx hb pl 3 dX1_canMoveBy_5 rfl rfl ?_
  refine lv_istore_n (lv' := [(2, .int (nI (pl * 3))), (0, .ref qg), (1, .int (nI cn))]) hx hb dX1_canMoveBy_6 rfl hl (by decide) rfl (fun ls hl => ?_)
  have L1 : ∀ (n : Nat), ∀ (i : Nat), ∀ (h0 : pl * 3 ≤ i), ∀ (hi : i ≤ pl * 3 + 3), ∀ (hf : anyp (rsP pr br se cn) (pl * 3) 3 = anyp (rsP pr br se cn) i (pl * 3 + 3 - i)), ∀ (hn : pl * 3 + 4 ≤ i + n), ∀ (ls : Array Slot), lv_has ls 3 [(2, .int (nI i)), (0, .ref qg), (1, .int (nI cn))] → W p l e rm_X1_canMoveBy s m ag below meth c s.heap [] 0 0 Q (F0 m 7 ls []) := by
    intro n
    induction n with
    | zero =>
      intro i h0 hi hf hn ls hl
      omega
    | succ n ih1 =>
      intro i h0 hi hf hn ls hl
      have he : i < pl * 3 + 3 → pl * 3 + 3 - i = (pl * 3 + 3 - (i + 1)) + 1 := fun h => by omega
      refine lv_iload_n hx hb dX1_canMoveBy_7 rfl (lv_at hl 0 rfl) ?_
      refine lv_aload_n hx hb dX1_canMoveBy_8 rfl (lv_at hl 1 rfl) ?_
      refine va_get (D := G) (ci := 1) (v := .int (nI pl)) (C := RX1) (T := TX1) (N := 7) hx hb hts inlX1 hown hK.1 hP 0 rfl rfl 3 (by decide) (hts _ wd37) (fun _ h9 => h9) rfl dX1_canMoveBy_9 ?_
      refine lv_iconst (v := 3) hx hb dX1_canMoveBy_12 (by decide) ?_
      refine zi_mul hx hb pl 3 dX1_canMoveBy_13 rfl rfl ?_
      refine lv_iconst (v := 3) hx hb dX1_canMoveBy_14 (by decide) ?_
      refine zi_add hx hb (pl * 3) 3 dX1_canMoveBy_15 rfl rfl ?_
      refine zi_ge (tgt := 36) hx hb i ((pl * 3) + 3) dX1_canMoveBy_16 (by decide) rfl rfl (by omega) (by omega) (fun c_165 => ?_) (fun c_165 => ?_)
      · refine lv_iconst (v := 0) hx hb dX1_canMoveBy_36 (by decide) ?_
        subst hQ
        exact W.zret (v := 0) hx hb hr rfl (fun t ht hW => ⟨0, rfl, bz_f (by rw [cmQ, hf, show pl * 3 + 3 - i = 0 by omega]; simp [anyp]), ht⟩) (fun _ h => absurd h List.not_mem_nil) dX1_canMoveBy_37
      · refine lv_aload_n hx hb dX1_canMoveBy_19 rfl (lv_at hl 1 rfl) ?_
        refine lv_iload_n hx hb dX1_canMoveBy_20 rfl (lv_at hl 0 rfl) ?_
        refine lv_iload_n hx hb dX1_canMoveBy_21 rfl (lv_at hl 2 rfl) ?_
        have hPc : va_P G vwCl [(qg, .inr (1, [.ref qb, .ref qt, .int x, .int (nI pl), .int th, .int tu, .int ca])), (qt, .inl (cI, 3, .inl se)), (qb, .inr (0, [.ref qp, .ref qs, .ref qr, .ref qf, .int fl])), (qp, .inl (cI, 12, .inl pr)), (qs, .inl (cI, 12, .inl sb)), (qr, .inl (cI, 4, .inl br)), (qf, .inl (cI, 4, .inl fe))] s.heap := hP
        have hDc := hD0
        refine vp_callSi (va_Run.run (va_runV (As := [.int (nI i), .int (nI cn)]) (rest := []) ⟨hx, hb, hml, hown, hts⟩ (c_X1_reason l G cI cC cZ cG s.heap.size qg qt qb qp qs qr qf pr sb br fe se fl x pl th tu ca i cn hpr (by omega) hc) (cf_RX1_81 hts ⟨Nat.le_of_ble_eq_true rfl, Nat.le_of_ble_eq_true rfl⟩) (pre_V hK hPc hDc (ci := 1) (q0 := 0) rfl rfl) rfl rfl hl.1 rfl (lv_room (Nat.le_of_ble_eq_true rfl)) dX1_canMoveBy_22 ⟨Nat.le_of_ble_eq_true rfl, Nat.le_of_ble_eq_true rfl⟩)) (fun r166 hr166 => ?_)
        subst hr166
        refine lv_if_ne (tgt := 30) hx hb dX1_canMoveBy_25 (by decide) (fun c_167 => ?_) (fun c_167 => ?_)
        · refine lv_iinc (v := nI (i + 1)) (lv' := [(2, .int (nI (i + 1))), (0, .ref qg), (1, .int (nI cn))]) hx hb dX1_canMoveBy_30 hl (k := 0) rfl (nI_inc i) (by decide) rfl (fun ls hl => ?_)
          refine lv_goto (tgt := 7) hx hb dX1_canMoveBy_33 (by decide) ?_
          exact ih1 (i + 1) (by omega) (by omega) (by rw [hf, he c_165]; simp [anyp, rsP, c_167]) (by omega) _ (lv_sub hl [0, 1, 2] rfl)
        · refine lv_iconst (v := 1) hx hb dX1_canMoveBy_28 (by decide) ?_
          subst hQ
          exact W.zret (v := 1) hx hb hr rfl (fun t ht hW => ⟨1, rfl, bz_t (by rw [cmQ, hf, he c_165]; simp [anyp, rsP, c_167]), ht⟩) (fun _ h => absurd h List.not_mem_nil) dX1_canMoveBy_29
  exact L1 4 (pl * 3) (by omega) (by omega) (by rw [show pl * 3 + 3 - pl * 3 = 3 by omega]) (by omega) _ (lv_sub hl [0, 1, 2] rfl)

abbrev rm_X1_worthOfMove : Room := { frames := 3, cells := 0, slots := 0, locals := 69 }
theorem cf_RX1_88 {R : Room} {s : State} {args : Array Value} (ht : ∀ w ∈ wsL_law, w.before args s = true) (hN : ∀ w ∈ nestW, va_Nw w s) (hR : rm_X5_isOnRing.frames + 1 ≤ R.frames ∧ 8 + (1 + 11) + rm_X5_isOnRing.locals ≤ R.locals) : va_CN R s args RX1 88 yX5_isOnRing "BridgedPachisi" cX5_isOnRing 1 (some .boolean) (.code yX5_isOnRing cX5_isOnRing 1 (some .boolean) :: wsL_law) rm_X5_isOnRing 0 0 1 ∧ (Cond.static yX5_isOnRing).before args s = true ∧ True := ⟨cw_N 1 ht hN nw53 wd2 wd93 (by decide +kernel) rfl rfl hR, ht _ wd92, trivial⟩
theorem cf_RX1_91 {R : Room} {s : State} {args : Array Value} (ht : ∀ w ∈ wsL_law, w.before args s = true) (hN : ∀ w ∈ nestW, va_Nw w s) (hR : rm_X0_matesAt.frames + 1 ≤ R.frames ∧ 8 + (6 + 11) + rm_X0_matesAt.locals ≤ R.locals) : va_CN R s args RX1 91 yX0_matesAt "BridgedPachisi" cX0_matesAt 6 (some .int) (.code yX0_matesAt cX0_matesAt 6 (some .int) :: wsL_law) rm_X0_matesAt 0 0 2 ∧ (Cond.instanceMethod yX0_matesAt).before args s = true ∧ (Cond.selects RX0 yX0_matesAt yX0_matesAt).before args s = true := ⟨cw_N 2 ht hN nw54 wd33 wd97 (by decide +kernel) rfl rfl hR, ht _ wd95, ht _ wd96⟩
set_option maxHeartbeats 1000000 in
set_option maxRecDepth 100000 in
theorem c_X1_worthOfMove (l : Launch) (G : va_G) (cI cC cZ cG : ClassId) (sz : Nat) (qg qt qb qp qs qr qf : Nat) (pr sb br fe se : IA) (fl x : Int32) (pl cn : Nat) (tu ca : Int32) (k : Nat) (hpr : ∀ k, k < 12 → okv (pr k)) (hk : k < 12) (hc : cn ≤ 6) (hpl : pl < 4) : Met l yX1_worthOfMove (.code yX1_worthOfMove cX1_worthOfMove 5 (some .int) :: wsL_law) rm_X1_worthOfMove (va_Pc [.ref qg, .int (nI k)] (bw G cI cC cZ cG false sz [(qg, .inr (1, [.ref qb, .ref qt, .int x, .int (nI pl), .int (nI cn), .int tu, .int ca])), (qt, .inl (cI, 3, .inl se)), (qb, .inr (0, [.ref qp, .ref qs, .ref qr, .ref qf, .int fl])), (qp, .inl (cI, 12, .inl pr)), (qs, .inl (cI, 12, .inl sb)), (qr, .inl (cI, 4, .inl br)), (qf, .inl (cI, 4, .inl fe))])) (vp_Si (fun r => r = wo pr br pl k cn)) 0 0 (fun _ => False) := by
  refine met_bw rfl (Nat.le_of_ble_eq_true rfl) ?_
  intro p e s m below meth c ls hx hb hr hml hown hts hlocks hin hsz hP hK hD0 hX0 hl
  have hown : s.vm.findClass RX1 = some m.cls := hown
  have hl : lv_has ls 5 [(0, .ref qg), (1, .int (nI k))] := hl
  refine lv_aload_n hx hb dX1_worthOfMove_0 rfl (lv_at hl 0 rfl) ?_
  refine va_get (D := G) (ci := 1) (v := .ref qb) (C := RX1) (T := TX1) (N := 7) hx hb hts inlX1 hown hK.1 hP 0 rfl rfl 0 (by decide) (hts _ wd34) (fun _ h9 => h9) rfl dX1_worthOfMove_1 ?_
  refine va_getN (D := G) (ci := 0) (v := .ref qp) (C := RX0) (T := TX0) (N := 5) hx hb hts inlX0 hown hK.1 hP 2 rfl rfl 0 (by decide) (va_Nw.use rfl (hK.2 _ nw2)) (fun _ h9 => h9) rfl dX1_worthOfMove_4 ?_
  refine lv_iload_n hx hb dX1_worthOfMove_7 rfl (lv_at hl 1 rfl) ?_
  refine za_ld hx hb hK.1 hP 3 0 rfl rfl k rfl (by omega) (by decide) dX1_worthOfMove_8 ?_
  refine lv_istore_n (lv' := [(2, .int (pr k)), (0, .ref qg), (1, .int (nI k))]) hx hb dX1_worthOfMove_9 rfl hl (by decide) rfl (fun ls hl => ?_)
  refine lv_aload_n hx hb dX1_worthOfMove_10 rfl (lv_at hl 1 rfl) ?_
  refine va_get (D := G) (ci := 1) (v := .ref qb) (C := RX1) (T := TX1) (N := 7) hx hb hts inlX1 hown hK.1 hP 0 rfl rfl 0 (by decide) (hts _ wd34) (fun _ h9 => h9) rfl dX1_worthOfMove_11 ?_
  refine lv_aload_n hx hb dX1_worthOfMove_14 rfl (lv_at hl 1 rfl) ?_
  refine va_get (D := G) (ci := 1) (v := .int (nI pl)) (C := RX1) (T := TX1) (N := 7) hx hb hts inlX1 hown hK.1 hP 0 rfl rfl 3 (by decide) (hts _ wd37) (fun _ h9 => h9) rfl dX1_worthOfMove_15 ?_
  refine lv_iload_n hx hb dX1_worthOfMove_18 rfl (lv_at hl 0 rfl) ?_
  refine lv_aload_n hx hb dX1_worthOfMove_19 rfl (lv_at hl 1 rfl) ?_
  refine va_get (D := G) (ci := 1) (v := .int (nI cn)) (C := RX1) (T := TX1) (N := 7) hx hb hts inlX1 hown hK.1 hP 0 rfl rfl 4 (by decide) (hts _ wd38) (fun _ h9 => h9) rfl dX1_worthOfMove_20 ?_
  have hPc := hP.sub (ws' := [(qb, .inr (0, [.ref qp, .ref qs, .ref qr, .ref qf, .int fl])), (qp, .inl (cI, 12, .inl pr)), (qs, .inl (cI, 12, .inl sb)), (qr, .inl (cI, 4, .inl br)), (qf, .inl (cI, 4, .inl fe))]) [2, 3, 4, 5, 6] rfl
  have hDc := (hD0.sub (ws' := [(qb, .inr (0, [.ref qp, .ref qs, .ref qr, .ref qf, .int fl])), (qp, .inl (cI, 12, .inl pr)), (qs, .inl (cI, 12, .inl sb)), (qr, .inl (cI, 4, .inl br)), (qf, .inl (cI, 4, .inl fe))]) [2, 3, 4, 5, 6] (by decide) rfl).tt
  refine vp_callSi (va_Run.run (va_runVN (As := [.int (nI pl), .int (pr k), .int (nI cn)]) (rest := []) ⟨hx, hb, hml, hown, hts⟩ (c_X0_target l G cI cC cZ cG s.heap.size qb qp qs qr qf pr sb br fe fl pl (pr k) cn (by omega) (hpr k hk) hc) (cf_RX1_58 hts hK.2 ⟨Nat.le_of_ble_eq_true rfl, Nat.le_of_ble_eq_true rfl⟩) (pre_V hK hPc hDc (ci := 0) (q0 := 0) rfl rfl) rfl rfl hl.1 rfl (lv_room (Nat.le_of_ble_eq_true rfl)) dX1_worthOfMove_23 ⟨Nat.le_of_ble_eq_true rfl, Nat.le_of_ble_eq_true rfl⟩)) (fun r168 hr168 => ?_)
  subst hr168
  refine lv_istore_n (lv' := [(3, .int (tgt br pl (pr k) cn)), (2, .int (pr k)), (0, .ref qg), (1, .int (nI k))]) hx hb dX1_worthOfMove_26 rfl hl (by decide) rfl (fun ls hl => ?_)
  refine lv_iconst (v := 0) hx hb dX1_worthOfMove_27 (by decide) ?_
  refine lv_istore (lv' := [(4, .int 0), (3, .int (tgt br pl (pr k) cn)), (2, .int (pr k)), (0, .ref qg), (1, .int (nI k))]) hx hb dX1_worthOfMove_28 hl (by decide) rfl (fun ls hl => ?_)
  refine lv_iload_n hx hb dX1_worthOfMove_30 rfl (lv_at hl 1 rfl) ?_
  refine lv_bipush (v := 35) hx hb dX1_worthOfMove_31 (by decide) ?_
  refine lv_icmp_ne (tgt := 42) hx hb dX1_worthOfMove_33 (by decide) (fun c_169 => ?_) (fun c_169 => ?_)
  · refine lv_aload_n hx hb dX1_worthOfMove_42 rfl (lv_at hl 3 rfl) ?_
    refine va_get (D := G) (ci := 1) (v := .ref qb) (C := RX1) (T := TX1) (N := 7) hx hb hts inlX1 hown hK.1 hP 0 rfl rfl 0 (by decide) (hts _ wd34) (fun _ h9 => h9) rfl dX1_worthOfMove_43 ?_
    refine lv_aload_n hx hb dX1_worthOfMove_46 rfl (lv_at hl 3 rfl) ?_
    refine va_get (D := G) (ci := 1) (v := .int (nI pl)) (C := RX1) (T := TX1) (N := 7) hx hb hts inlX1 hown hK.1 hP 0 rfl rfl 3 (by decide) (hts _ wd37) (fun _ h9 => h9) rfl dX1_worthOfMove_47 ?_
    refine lv_iload_n hx hb dX1_worthOfMove_50 rfl (lv_at hl 1 rfl) ?_
    have hPc := hP.sub (ws' := [(qb, .inr (0, [.ref qp, .ref qs, .ref qr, .ref qf, .int fl])), (qp, .inl (cI, 12, .inl pr)), (qs, .inl (cI, 12, .inl sb)), (qr, .inl (cI, 4, .inl br)), (qf, .inl (cI, 4, .inl fe))]) [2, 3, 4, 5, 6] rfl
    have hDc := (hD0.sub (ws' := [(qb, .inr (0, [.ref qp, .ref qs, .ref qr, .ref qf, .int fl])), (qp, .inl (cI, 12, .inl pr)), (qs, .inl (cI, 12, .inl sb)), (qr, .inl (cI, 4, .inl br)), (qf, .inl (cI, 4, .inl fe))]) [2, 3, 4, 5, 6] (by decide) rfl).tt
    refine vp_callSi (va_Run.run (va_runVN (As := [.int (nI pl), .int (tgt br pl (pr k) cn)]) (rest := []) ⟨hx, hb, hml, hown, hts⟩ (c_X0_rivalsAt l G cI cC cZ cG s.heap.size qb qp qs qr qf pr sb br fe fl pl (tgt br pl (pr k) cn) (by omega)) (cf_RX1_78 hts hK.2 ⟨Nat.le_of_ble_eq_true rfl, Nat.le_of_ble_eq_true rfl⟩) (pre_V hK hPc hDc (ci := 0) (q0 := 0) rfl rfl) rfl rfl hl.1 rfl (lv_room (Nat.le_of_ble_eq_true rfl)) dX1_worthOfMove_51 ⟨Nat.le_of_ble_eq_true rfl, Nat.le_of_ble_eq_true rfl⟩)) (fun r170 hr170 => ?_)
    subst hr170
    have hf171 := (show rv pr pl (tgt br pl (pr k) cn) ≤ 12 from cnt_le (rvP pr pl (rf pl (tgt br pl (pr k) cn))) 12)
    refine z0_le (tgt := 63) hx hb (rv pr pl (tgt br pl (pr k) cn)) dX1_worthOfMove_54 (by decide) rfl (by omega) (fun c_172 => ?_) (fun c_172 => ?_)
    · refine lv_iload_n hx hb dX1_worthOfMove_63 rfl (lv_at hl 1 rfl) ?_
      refine vp_callSi (va_Run.run (va_runSN (As := [.int (tgt br pl (pr k) cn)]) (rest := []) ⟨hx, hb, hml, hown, hts⟩ (c_X5_isOnRing l (tgt br pl (pr k) cn)) (cf_RX1_88 hts hK.2 ⟨Nat.le_of_ble_eq_true rfl, Nat.le_of_ble_eq_true rfl⟩) pre_P rfl rfl hl.1 rfl (lv_room (Nat.le_of_ble_eq_true rfl)) dX1_worthOfMove_64 ⟨Nat.le_of_ble_eq_true rfl, Nat.le_of_ble_eq_true rfl⟩)) (fun r173 hr173 => ?_)
      subst hr173
      refine zb_eq (tgt := 85) hx hb dX1_worthOfMove_67 (by decide) (fun c_174 => ?_) (fun c_174 => ?_)
      · refine lv_iload hx hb dX1_worthOfMove_85 (lv_at hl 0 rfl) ?_
        refine lv_bipush (v := 100) hx hb dX1_worthOfMove_87 (by decide) ?_
        refine zi_mul hx hb 0 100 dX1_worthOfMove_89 rfl rfl ?_
        refine lv_iload_n hx hb dX1_worthOfMove_90 rfl (lv_at hl 2 rfl) ?_
        refine lv_iadd hx hb dX1_worthOfMove_91 ?_
        exact W.iret (v := 0 + (pr k)) hx hb hr (fun t ht hW => ⟨0 + (pr k), rfl, by rw [wo, if_neg c_169, if_neg (by omega), if_neg (fun h => c_174 h.1)], ht⟩) (fun _ h => absurd h List.not_mem_nil) dX1_worthOfMove_92
      · refine lv_aload_n hx hb dX1_worthOfMove_70 rfl (lv_at hl 3 rfl) ?_
        refine va_get (D := G) (ci := 1) (v := .ref qb) (C := RX1) (T := TX1) (N := 7) hx hb hts inlX1 hown hK.1 hP 0 rfl rfl 0 (by decide) (hts _ wd34) (fun _ h9 => h9) rfl dX1_worthOfMove_71 ?_
        refine lv_iload_n hx hb dX1_worthOfMove_74 rfl (lv_at hl 4 rfl) ?_
        refine lv_iload_n hx hb dX1_worthOfMove_75 rfl (lv_at hl 1 rfl) ?_
        have hPc := hP.sub (ws' := [(qb, .inr (0, [.ref qp, .ref qs, .ref qr, .ref qf, .int fl])), (qp, .inl (cI, 12, .inl pr)), (qs, .inl (cI, 12, .inl sb)), (qr, .inl (cI, 4, .inl br)), (qf, .inl (cI, 4, .inl fe))]) [2, 3, 4, 5, 6] rfl
        have hDc := (hD0.sub (ws' := [(qb, .inr (0, [.ref qp, .ref qs, .ref qr, .ref qf, .int fl])), (qp, .inl (cI, 12, .inl pr)), (qs, .inl (cI, 12, .inl sb)), (qr, .inl (cI, 4, .inl br)), (qf, .inl (cI, 4, .inl fe))]) [2, 3, 4, 5, 6] (by decide) rfl).tt
        refine vp_callSi (va_Run.run (va_runVN (As := [.int (nI k), .int (tgt br pl (pr k) cn)]) (rest := []) ⟨hx, hb, hml, hown, hts⟩ (c_X0_matesAt l G cI cC cZ cG s.heap.size qb qp qs qr qf pr sb br fe fl k (tgt br pl (pr k) cn) (by omega)) (cf_RX1_91 hts hK.2 ⟨Nat.le_of_ble_eq_true rfl, Nat.le_of_ble_eq_true rfl⟩) (pre_V hK hPc hDc (ci := 0) (q0 := 0) rfl rfl) rfl rfl hl.1 rfl (lv_room (Nat.le_of_ble_eq_true rfl)) dX1_worthOfMove_76 ⟨Nat.le_of_ble_eq_true rfl, Nat.le_of_ble_eq_true rfl⟩)) (fun r175 hr175 => ?_)
        subst hr175
        have hf176 := (show mt pr k (tgt br pl (pr k) cn) ≤ 3 from cnt_le (mtP pr k (tgt br pl (pr k) cn)) 3)
        refine z0_le (tgt := 85) hx hb (mt pr k (tgt br pl (pr k) cn)) dX1_worthOfMove_79 (by decide) rfl (by omega) (fun c_177 => ?_) (fun c_177 => ?_)
        · refine lv_iload hx hb dX1_worthOfMove_85 (lv_at hl 0 rfl) ?_
          refine lv_bipush (v := 100) hx hb dX1_worthOfMove_87 (by decide) ?_
          refine zi_mul hx hb 0 100 dX1_worthOfMove_89 rfl rfl ?_
          refine lv_iload_n hx hb dX1_worthOfMove_90 rfl (lv_at hl 2 rfl) ?_
          refine lv_iadd hx hb dX1_worthOfMove_91 ?_
          exact W.iret (v := 0 + (pr k)) hx hb hr (fun t ht hW => ⟨0 + (pr k), rfl, by rw [wo, if_neg c_169, if_neg (by omega), if_neg (fun h => absurd h.2 (by omega))], ht⟩) (fun _ h => absurd h List.not_mem_nil) dX1_worthOfMove_92
        · refine lv_iconst (v := 1) hx hb dX1_worthOfMove_82 (by decide) ?_
          refine lv_istore (lv' := [(4, .int 1), (3, .int (tgt br pl (pr k) cn)), (2, .int (pr k)), (0, .ref qg), (1, .int (nI k))]) hx hb dX1_worthOfMove_83 hl (by decide) rfl (fun ls hl => ?_)
          refine lv_iload hx hb dX1_worthOfMove_85 (lv_at hl 0 rfl) ?_
          refine lv_bipush (v := 100) hx hb dX1_worthOfMove_87 (by decide) ?_
          refine zi_mul hx hb 1 100 dX1_worthOfMove_89 rfl rfl ?_
          refine lv_iload_n hx hb dX1_worthOfMove_90 rfl (lv_at hl 2 rfl) ?_
          refine lv_iadd hx hb dX1_worthOfMove_91 ?_
          exact W.iret (v := 100 + (pr k)) hx hb hr (fun t ht hW => ⟨100 + (pr k), rfl, by rw [wo, if_neg c_169, if_neg (by omega), if_pos ⟨c_174, c_177⟩], ht⟩) (fun _ h => absurd h List.not_mem_nil) dX1_worthOfMove_92
    · refine lv_iconst (v := 2) hx hb dX1_worthOfMove_57 (by decide) ?_
      refine lv_istore (lv' := [(4, .int 2), (3, .int (tgt br pl (pr k) cn)), (2, .int (pr k)), (0, .ref qg), (1, .int (nI k))]) hx hb dX1_worthOfMove_58 hl (by decide) rfl (fun ls hl => ?_)
      refine lv_goto (tgt := 85) hx hb dX1_worthOfMove_60 (by decide) ?_
      refine lv_iload hx hb dX1_worthOfMove_85 (lv_at hl 0 rfl) ?_
      refine lv_bipush (v := 100) hx hb dX1_worthOfMove_87 (by decide) ?_
      refine zi_mul hx hb 2 100 dX1_worthOfMove_89 rfl rfl ?_
      refine lv_iload_n hx hb dX1_worthOfMove_90 rfl (lv_at hl 2 rfl) ?_
      refine lv_iadd hx hb dX1_worthOfMove_91 ?_
      exact W.iret (v := 200 + (pr k)) hx hb hr (fun t ht hW => ⟨200 + (pr k), rfl, by rw [wo, if_neg c_169, if_pos c_172], ht⟩) (fun _ h => absurd h List.not_mem_nil) dX1_worthOfMove_92
  · refine lv_iconst (v := 3) hx hb dX1_worthOfMove_36 (by decide) ?_
    refine lv_istore (lv' := [(4, .int 3), (3, .int (tgt br pl (pr k) cn)), (2, .int (pr k)), (0, .ref qg), (1, .int (nI k))]) hx hb dX1_worthOfMove_37 hl (by decide) rfl (fun ls hl => ?_)
    refine lv_goto (tgt := 85) hx hb dX1_worthOfMove_39 (by decide) ?_
    refine lv_iload hx hb dX1_worthOfMove_85 (lv_at hl 0 rfl) ?_
    refine lv_bipush (v := 100) hx hb dX1_worthOfMove_87 (by decide) ?_
    refine zi_mul hx hb 3 100 dX1_worthOfMove_89 rfl rfl ?_
    refine lv_iload_n hx hb dX1_worthOfMove_90 rfl (lv_at hl 2 rfl) ?_
    refine lv_iadd hx hb dX1_worthOfMove_91 ?_
    exact W.iret (v := 300 + (pr k)) hx hb hr (fun t ht hW => ⟨300 + (pr k), rfl, by rw [wo, if_pos c_169], ht⟩) (fun _ h => absurd h List.not_mem_nil) dX1_worthOfMove_92

abbrev rm_X1_bestPiece : Room := { frames := 4, cells := 0, slots := 0, locals := 96 }
theorem cf_RX1_84 {R : Room} {s : State} {args : Array Value} (ht : ∀ w ∈ wsL_law, w.before args s = true) (hR : rm_X1_worthOfMove.frames + 1 ≤ R.frames ∧ 8 + (5 + 11) + rm_X1_worthOfMove.locals ≤ R.locals) : CallW R s args RX1 RX1 84 yX1_worthOfMove cX1_worthOfMove 5 (some .int) (.code yX1_worthOfMove cX1_worthOfMove 5 (some .int) :: wsL_law) rm_X1_worthOfMove 0 0 1 := ⟨cw_B 1 ht wd180 wd12 wd183 (by decide +kernel) rfl rfl hR, ht _ wd181, ht _ wd182⟩
set_option maxHeartbeats 1000000 in
set_option maxRecDepth 100000 in
theorem c_X1_bestPiece (l : Launch) (G : va_G) (cI cC cZ cG : ClassId) (sz : Nat) (qg qt qb qp qs qr qf : Nat) (pr sb br fe se : IA) (fl x : Int32) (pl cn : Nat) (tu ca : Int32) (hpr : ∀ k, k < 12 → okv (pr k)) (hc : cn ≤ 6) (hpl : pl < 4) : Met l yX1_bestPiece (.code yX1_bestPiece cX1_bestPiece 5 (some .int) :: wsL_law) rm_X1_bestPiece (va_Pc [.ref qg] (bw G cI cC cZ cG false sz [(qg, .inr (1, [.ref qb, .ref qt, .int x, .int (nI pl), .int (nI cn), .int tu, .int ca])), (qt, .inl (cI, 3, .inl se)), (qb, .inr (0, [.ref qp, .ref qs, .ref qr, .ref qf, .int fl])), (qp, .inl (cI, 12, .inl pr)), (qs, .inl (cI, 12, .inl sb)), (qr, .inl (cI, 4, .inl br)), (qf, .inl (cI, 4, .inl fe))])) (vp_Si (fun r => r = bp pr br se pl cn)) 0 0 (fun _ => False) := by
  refine met_bw rfl (Nat.le_of_ble_eq_true rfl) ?_
  intro p e s m below meth c ls hx hb hr hml hown hts hlocks hin hsz hP hK hD0 hX0 hl
  have hown : s.vm.findClass RX1 = some m.cls := hown
  have hl : lv_has ls 5 [(0, .ref qg)] := hl
  generalize hQ : MQ below (vp_Si (fun r => r = bp pr br se pl cn)) ([.ref qg] : List Value).toArray s 0 0 (fun _ => False) = Q
  generalize hag : ([.ref qg] : List Value).toArray = ag at hts hQ ⊢
  refine lv_bipush (v := (-6)) hx hb dX1_bestPiece_0 (by decide) ?_
  refine lv_istore_n (lv' := [(1, .int (-6)), (0, .ref qg)]) hx hb dX1_bestPiece_2 rfl hl (by decide) rfl (fun ls hl => ?_)
  refine lv_iconst (v := 0) hx hb dX1_bestPiece_3 (by decide) ?_
  refine lv_istore_n (lv' := [(2, .int 0), (1, .int (-6)), (0, .ref qg)]) hx hb dX1_bestPiece_4 rfl hl (by decide) rfl (fun ls hl => ?_)
  refine lv_aload_n hx hb dX1_bestPiece_5 rfl (lv_at hl 2 rfl) ?_
  refine va_get (D := G) (ci := 1) (v := .int (nI pl)) (C := RX1) (T := TX1) (N := 7) hx hb hts inlX1 hown hK.1 hP 0 rfl rfl 3 (by decide) (hts _ wd37) (fun _ h9 => h9) rfl dX1_bestPiece_6 ?_
  refine lv_iconst (v := 3) hx hb dX1_bestPiece_9 (by decide) ?_
  refine zi_mul hx hb pl 3 dX1_bestPiece_10 rfl rfl ?_
  refine lv_istore_n (lv' := [(3, .int (nI (pl * 3))), (2, .int 0), (1, .int (-6)), (0, .ref qg)]) hx hb dX1_bestPiece_11 rfl hl (by decide) rfl (fun ls hl => ?_)
  have L1 : ∀ (n : Nat), ∀ (i : Nat), ∀ (f : Int32), ∀ (w : Int32), ∀ (h0 : pl * 3 ≤ i), ∀ (hi : i ≤ pl * 3 + 3), ∀ (hf : (f, w) = bpS pr br se pl cn (i - pl * 3)), ∀ (hn : pl * 3 + 4 ≤ i + n), ∀ (ls : Array Slot), lv_has ls 5 [(3, .int (nI i)), (2, .int w), (1, .int f), (0, .ref qg)] → W p l e rm_X1_bestPiece s m ag below meth c s.heap [] 0 0 Q (F0 m 12 ls []) := by
    intro n
    induction n with
    | zero =>
      intro i f w h0 hi hf hn ls hl
      omega
    | succ n ih1 =>
      intro i f w h0 hi hf hn ls hl
      have hb2 : pl * 3 + (i - pl * 3) = i := by omega
      refine lv_iload_n hx hb dX1_bestPiece_12 rfl (lv_at hl 0 rfl) ?_
      refine lv_aload_n hx hb dX1_bestPiece_13 rfl (lv_at hl 3 rfl) ?_
      refine va_get (D := G) (ci := 1) (v := .int (nI pl)) (C := RX1) (T := TX1) (N := 7) hx hb hts inlX1 hown hK.1 hP 0 rfl rfl 3 (by decide) (hts _ wd37) (fun _ h9 => h9) rfl dX1_bestPiece_14 ?_
      refine lv_iconst (v := 3) hx hb dX1_bestPiece_17 (by decide) ?_
      refine zi_mul hx hb pl 3 dX1_bestPiece_18 rfl rfl ?_
      refine lv_iconst (v := 3) hx hb dX1_bestPiece_19 (by decide) ?_
      refine zi_add hx hb (pl * 3) 3 dX1_bestPiece_20 rfl rfl ?_
      refine zi_ge (tgt := 66) hx hb i ((pl * 3) + 3) dX1_bestPiece_21 (by decide) rfl rfl (by omega) (by omega) (fun c_179 => ?_) (fun c_179 => ?_)
      · refine lv_iload_n hx hb dX1_bestPiece_66 rfl (lv_at hl 2 rfl) ?_
        subst hQ
        exact W.iret (v := f) hx hb hr (fun t ht hW => ⟨f, rfl, by rw [bp, show 3 = i - pl * 3 by omega, ← hf], ht⟩) (fun _ h => absurd h List.not_mem_nil) dX1_bestPiece_67
      · refine lv_aload_n hx hb dX1_bestPiece_24 rfl (lv_at hl 3 rfl) ?_
        refine lv_iload_n hx hb dX1_bestPiece_25 rfl (lv_at hl 0 rfl) ?_
        refine lv_aload_n hx hb dX1_bestPiece_26 rfl (lv_at hl 3 rfl) ?_
        refine va_get (D := G) (ci := 1) (v := .int (nI cn)) (C := RX1) (T := TX1) (N := 7) hx hb hts inlX1 hown hK.1 hP 0 rfl rfl 4 (by decide) (hts _ wd38) (fun _ h9 => h9) rfl dX1_bestPiece_27 ?_
        have hPc : va_P G vwCl [(qg, .inr (1, [.ref qb, .ref qt, .int x, .int (nI pl), .int (nI cn), .int tu, .int ca])), (qt, .inl (cI, 3, .inl se)), (qb, .inr (0, [.ref qp, .ref qs, .ref qr, .ref qf, .int fl])), (qp, .inl (cI, 12, .inl pr)), (qs, .inl (cI, 12, .inl sb)), (qr, .inl (cI, 4, .inl br)), (qf, .inl (cI, 4, .inl fe))] s.heap := hP
        have hDc := hD0
        refine vp_callSi (va_Run.run (va_runV (As := [.int (nI i), .int (nI cn)]) (rest := []) ⟨hx, hb, hml, hown, hts⟩ (c_X1_reason l G cI cC cZ cG s.heap.size qg qt qb qp qs qr qf pr sb br fe se fl x pl (nI cn) tu ca i cn hpr (by omega) hc) (cf_RX1_81 hts ⟨Nat.le_of_ble_eq_true rfl, Nat.le_of_ble_eq_true rfl⟩) (pre_V hK hPc hDc (ci := 1) (q0 := 0) rfl rfl) rfl rfl hl.1 rfl (lv_room (Nat.le_of_ble_eq_true rfl)) dX1_bestPiece_30 ⟨Nat.le_of_ble_eq_true rfl, Nat.le_of_ble_eq_true rfl⟩)) (fun r180 hr180 => ?_)
        subst hr180
        refine lv_if_ne (tgt := 60) hx hb dX1_bestPiece_33 (by decide) (fun c_181 => ?_) (fun c_181 => ?_)
        · refine lv_iinc (v := nI (i + 1)) (lv' := [(3, .int (nI (i + 1))), (2, .int w), (1, .int f), (0, .ref qg)]) hx hb dX1_bestPiece_60 hl (k := 0) rfl (nI_inc i) (by decide) rfl (fun ls hl => ?_)
          refine lv_goto (tgt := 12) hx hb dX1_bestPiece_63 (by decide) ?_
          exact ih1 (i + 1) f w (by omega) (by omega) (by rw [show i + 1 - pl * 3 = (i - pl * 3) + 1 by omega, bpS, hb2, ← hf, if_neg (fun h => absurd h.1 (by simpa [hb2] using c_181))]) (by omega) _ (lv_sub hl [0, 1, 2, 3] rfl)
        · refine lv_aload_n hx hb dX1_bestPiece_36 rfl (lv_at hl 3 rfl) ?_
          refine lv_iload_n hx hb dX1_bestPiece_37 rfl (lv_at hl 0 rfl) ?_
          have hPc : va_P G vwCl [(qg, .inr (1, [.ref qb, .ref qt, .int x, .int (nI pl), .int (nI cn), .int tu, .int ca])), (qt, .inl (cI, 3, .inl se)), (qb, .inr (0, [.ref qp, .ref qs, .ref qr, .ref qf, .int fl])), (qp, .inl (cI, 12, .inl pr)), (qs, .inl (cI, 12, .inl sb)), (qr, .inl (cI, 4, .inl br)), (qf, .inl (cI, 4, .inl fe))] s.heap := hP
          have hDc := hD0
          refine vp_callSi (va_Run.run (va_runV (As := [.int (nI i)]) (rest := []) ⟨hx, hb, hml, hown, hts⟩ (c_X1_worthOfMove l G cI cC cZ cG s.heap.size qg qt qb qp qs qr qf pr sb br fe se fl x pl cn tu ca i hpr (by omega) hc hpl) (cf_RX1_84 hts ⟨Nat.le_of_ble_eq_true rfl, Nat.le_of_ble_eq_true rfl⟩) (pre_V hK hPc hDc (ci := 1) (q0 := 0) rfl rfl) rfl rfl hl.1 rfl (lv_room (Nat.le_of_ble_eq_true rfl)) dX1_bestPiece_38 ⟨Nat.le_of_ble_eq_true rfl, Nat.le_of_ble_eq_true rfl⟩)) (fun r182 hr182 => ?_)
          subst hr182
          refine lv_istore (lv' := [(4, .int (wo pr br pl i cn)), (3, .int (nI i)), (2, .int w), (1, .int f), (0, .ref qg)]) hx hb dX1_bestPiece_41 hl (by decide) rfl (fun ls hl => ?_)
          refine lv_iload_n hx hb dX1_bestPiece_43 rfl (lv_at hl 3 rfl) ?_
          refine lv_bipush (v := (-6)) hx hb dX1_bestPiece_44 (by decide) ?_
          refine lv_icmp_eq (tgt := 55) hx hb dX1_bestPiece_46 (by decide) (fun c_183 => ?_) (fun c_183 => ?_)
          · refine lv_iload_n hx hb dX1_bestPiece_55 rfl (lv_at hl 1 rfl) ?_
            refine lv_istore_n (lv' := [(1, .int (nI i)), (4, .int (wo pr br pl i cn)), (3, .int (nI i)), (2, .int w), (0, .ref qg)]) hx hb dX1_bestPiece_56 rfl hl (by decide) rfl (fun ls hl => ?_)
            refine lv_iload hx hb dX1_bestPiece_57 (lv_at hl 1 rfl) ?_
            refine lv_istore_n (lv' := [(2, .int (wo pr br pl i cn)), (1, .int (nI i)), (4, .int (wo pr br pl i cn)), (3, .int (nI i)), (0, .ref qg)]) hx hb dX1_bestPiece_59 rfl hl (by decide) rfl (fun ls hl => ?_)
            refine lv_iinc (v := nI (i + 1)) (lv' := [(3, .int (nI (i + 1))), (2, .int (wo pr br pl i cn)), (1, .int (nI i)), (4, .int (wo pr br pl i cn)), (0, .ref qg)]) hx hb dX1_bestPiece_60 hl (k := 3) rfl (nI_inc i) (by decide) rfl (fun ls hl => ?_)
            refine lv_goto (tgt := 12) hx hb dX1_bestPiece_63 (by decide) ?_
            exact ih1 (i + 1) (nI i) (wo pr br pl i cn) (by omega) (by omega) (by rw [show i + 1 - pl * 3 = (i - pl * 3) + 1 by omega, bpS, hb2, ← hf, if_pos ⟨c_181, Or.inl c_183⟩]) (by omega) _ (lv_sub hl [0, 1, 2, 4] rfl)
          · refine lv_iload hx hb dX1_bestPiece_49 (lv_at hl 0 rfl) ?_
            refine lv_iload_n hx hb dX1_bestPiece_51 rfl (lv_at hl 2 rfl) ?_
            refine lv_icmp_le (tgt := 60) hx hb dX1_bestPiece_52 (by decide) (fun c_184 => ?_) (fun c_184 => ?_)
            · refine lv_iinc (v := nI (i + 1)) (lv' := [(3, .int (nI (i + 1))), (4, .int (wo pr br pl i cn)), (2, .int w), (1, .int f), (0, .ref qg)]) hx hb dX1_bestPiece_60 hl (k := 1) rfl (nI_inc i) (by decide) rfl (fun ls hl => ?_)
              refine lv_goto (tgt := 12) hx hb dX1_bestPiece_63 (by decide) ?_
              exact ih1 (i + 1) f w (by omega) (by omega) (by rw [show i + 1 - pl * 3 = (i - pl * 3) + 1 by omega, bpS, hb2, ← hf, if_neg (fun h => h.2.elim c_183 (fun q => q c_184))]) (by omega) _ (lv_sub hl [0, 2, 3, 4] rfl)
            · refine lv_iload_n hx hb dX1_bestPiece_55 rfl (lv_at hl 1 rfl) ?_
              refine lv_istore_n (lv' := [(1, .int (nI i)), (4, .int (wo pr br pl i cn)), (3, .int (nI i)), (2, .int w), (0, .ref qg)]) hx hb dX1_bestPiece_56 rfl hl (by decide) rfl (fun ls hl => ?_)
              refine lv_iload hx hb dX1_bestPiece_57 (lv_at hl 1 rfl) ?_
              refine lv_istore_n (lv' := [(2, .int (wo pr br pl i cn)), (1, .int (nI i)), (4, .int (wo pr br pl i cn)), (3, .int (nI i)), (0, .ref qg)]) hx hb dX1_bestPiece_59 rfl hl (by decide) rfl (fun ls hl => ?_)
              refine lv_iinc (v := nI (i + 1)) (lv' := [(3, .int (nI (i + 1))), (2, .int (wo pr br pl i cn)), (1, .int (nI i)), (4, .int (wo pr br pl i cn)), (0, .ref qg)]) hx hb dX1_bestPiece_60 hl (k := 3) rfl (nI_inc i) (by decide) rfl (fun ls hl => ?_)
              refine lv_goto (tgt := 12) hx hb dX1_bestPiece_63 (by decide) ?_
              exact ih1 (i + 1) (nI i) (wo pr br pl i cn) (by omega) (by omega) (by rw [show i + 1 - pl * 3 = (i - pl * 3) + 1 by omega, bpS, hb2, ← hf, if_pos ⟨c_181, Or.inr c_184⟩]) (by omega) _ (lv_sub hl [0, 1, 2, 4] rfl)
  exact L1 4 (pl * 3) (-6) 0 (by omega) (by omega) (by rw [Nat.sub_self]; rfl) (by omega) _ (lv_sub hl [0, 1, 2, 3] rfl)

abbrev rm_X1_takeThrow : Room := { frames := 0, cells := 0, slots := 0, locals := 0 }
set_option maxHeartbeats 1000000 in
set_option maxRecDepth 100000 in
theorem c_X1_takeThrow (l : Launch) (G : va_G) (cI cC cZ cG : ClassId) (sz : Nat) (qg qt qb qp qs qr qf : Nat) (pr sb br fe se : IA) (fl x : Int32) (pl : Nat) (th tu ca : Int32) (v : Int32) : Met l yX1_takeThrow (.code yX1_takeThrow cX1_takeThrow 2 none :: wsL_law) rm_X1_takeThrow (va_Pc [.ref qg, .int v] (bw G cI cC cZ cG false sz [(qg, .inr (1, [.ref qb, .ref qt, .int x, .int (nI pl), .int th, .int tu, .int ca])), (qt, .inl (cI, 3, .inl se)), (qb, .inr (0, [.ref qp, .ref qs, .ref qr, .ref qf, .int fl])), (qp, .inl (cI, 12, .inl pr)), (qs, .inl (cI, 12, .inl sb)), (qr, .inl (cI, 4, .inl br)), (qf, .inl (cI, 4, .inl fe))])) (va_Qv (fun (u : Int32) => u = ca + 1) (fun (u : Int32) t => va_P G vwCl [(qg, .inr (1, [.ref qb, .ref qt, .int x, .int (nI pl), .int v, .int tu, .int u])), (qt, .inl (cI, 3, .inl se)), (qb, .inr (0, [.ref qp, .ref qs, .ref qr, .ref qf, .int fl])), (qp, .inl (cI, 12, .inl pr)), (qs, .inl (cI, 12, .inl sb)), (qr, .inl (cI, 4, .inl br)), (qf, .inl (cI, 4, .inl fe))] t.heap ∧ va_D (va_A [(qg, .inr (1, [.ref qb, .ref qt, .int x, .int (nI pl), .int th, .int tu, .int ca])), (qt, .inl (cI, 3, .inl se)), (qb, .inr (0, [.ref qp, .ref qs, .ref qr, .ref qf, .int fl])), (qp, .inl (cI, 12, .inl pr)), (qs, .inl (cI, 12, .inl sb)), (qr, .inl (cI, 4, .inl br)), (qf, .inl (cI, 4, .inl fe))] sz) [(qg, .inr (1, [.ref qb, .ref qt, .int x, .int (nI pl), .int v, .int tu, .int u])), (qt, .inl (cI, 3, .inl se)), (qb, .inr (0, [.ref qp, .ref qs, .ref qr, .ref qf, .int fl])), (qp, .inl (cI, 12, .inl pr)), (qs, .inl (cI, 12, .inl sb)), (qr, .inl (cI, 4, .inl br)), (qf, .inl (cI, 4, .inl fe))]) (va_A [(qg, .inr (1, [.ref qb, .ref qt, .int x, .int (nI pl), .int th, .int tu, .int ca])), (qt, .inl (cI, 3, .inl se)), (qb, .inr (0, [.ref qp, .ref qs, .ref qr, .ref qf, .int fl])), (qp, .inl (cI, 12, .inl pr)), (qs, .inl (cI, 12, .inl sb)), (qr, .inl (cI, 4, .inl br)), (qf, .inl (cI, 4, .inl fe))] sz)) 0 0 (va_A [(qg, .inr (1, [.ref qb, .ref qt, .int x, .int (nI pl), .int th, .int tu, .int ca])), (qt, .inl (cI, 3, .inl se)), (qb, .inr (0, [.ref qp, .ref qs, .ref qr, .ref qf, .int fl])), (qp, .inl (cI, 12, .inl pr)), (qs, .inl (cI, 12, .inl sb)), (qr, .inl (cI, 4, .inl br)), (qf, .inl (cI, 4, .inl fe))] sz) := by
  refine met_bw rfl (Nat.le_of_ble_eq_true rfl) ?_
  intro p e s m below meth c ls hx hb hr hml hown hts hlocks hin hsz hP hK hD0 hX0 hl
  have hown : s.vm.findClass RX1 = some m.cls := hown
  have hl : lv_has ls 2 [(0, .ref qg), (1, .int v)] := hl
  subst hsz
  have hD := hD0.self (sz := s.heap.size)
  generalize hAe : va_A [(qg, .inr (1, [.ref qb, .ref qt, .int x, .int (nI pl), .int th, .int tu, .int ca])), (qt, .inl (cI, 3, .inl se)), (qb, .inr (0, [.ref qp, .ref qs, .ref qr, .ref qf, .int fl])), (qp, .inl (cI, 12, .inl pr)), (qs, .inl (cI, 12, .inl sb)), (qr, .inl (cI, 4, .inl br)), (qf, .inl (cI, 4, .inl fe))] s.heap.size = A at hD ⊢
  have hA : ∀ q : Nat, s.heap.size ≤ q → A q := fun q h => by rw [← hAe]; exact Or.inr h
  have hS : va_S A s.heap s.heap [] := va_S.rf
  refine lv_aload_n hx hb dX1_takeThrow_0 rfl (lv_at hl 0 rfl) ?_
  refine lv_iload_n hx hb dX1_takeThrow_1 rfl (lv_at hl 1 rfl) ?_
  refine va_put (D := G) (ci := 1) (v := .int v) (ty := .int) (C := RX1) (T := TX1) (N := 7) hx hb hts inlX1 tyX1 tyX1_ok nmX1 hown hK.1 hP hD hS 0 rfl rfl 4 (by decide) (hts _ wd38) (fun _ h9 => h9) rfl (by decide +kernel) rfl rfl (Nat.le_of_ble_eq_true rfl) dX1_takeThrow_2 (fun H185 locs185 hP hD hS => ?_)
  have hP : va_P G vwCl [(qg, .inr (1, [.ref qb, .ref qt, .int x, .int (nI pl), .int v, .int tu, .int ca])), (qt, .inl (cI, 3, .inl se)), (qb, .inr (0, [.ref qp, .ref qs, .ref qr, .ref qf, .int fl])), (qp, .inl (cI, 12, .inl pr)), (qs, .inl (cI, 12, .inl sb)), (qr, .inl (cI, 4, .inl br)), (qf, .inl (cI, 4, .inl fe))] H185 := hP
  have hD : va_D A [(qg, .inr (1, [.ref qb, .ref qt, .int x, .int (nI pl), .int v, .int tu, .int ca])), (qt, .inl (cI, 3, .inl se)), (qb, .inr (0, [.ref qp, .ref qs, .ref qr, .ref qf, .int fl])), (qp, .inl (cI, 12, .inl pr)), (qs, .inl (cI, 12, .inl sb)), (qr, .inl (cI, 4, .inl br)), (qf, .inl (cI, 4, .inl fe))] := hD
  refine lv_aload_n hx hb dX1_takeThrow_5 rfl (lv_at hl 0 rfl) ?_
  refine lv_dup hx hb dX1_takeThrow_6 rfl ?_
  refine va_get (D := G) (ci := 1) (v := .int ca) (C := RX1) (T := TX1) (N := 7) hx hb hts inlX1 hown hK.1 hP 0 rfl rfl 6 (by decide) (hts _ wd40) (fun _ h9 => h9) rfl dX1_takeThrow_7 ?_
  refine lv_iconst (v := 1) hx hb dX1_takeThrow_10 (by decide) ?_
  refine lv_iadd hx hb dX1_takeThrow_11 ?_
  refine va_put (D := G) (ci := 1) (v := .int (ca + 1)) (ty := .int) (C := RX1) (T := TX1) (N := 7) hx hb hts inlX1 tyX1 tyX1_ok nmX1 hown hK.1 hP hD hS 0 rfl rfl 6 (by decide) (hts _ wd40) (fun _ h9 => h9) rfl (by decide +kernel) rfl rfl (Nat.le_of_ble_eq_true rfl) dX1_takeThrow_12 (fun H186 locs186 hP hD hS => ?_)
  have hP : va_P G vwCl [(qg, .inr (1, [.ref qb, .ref qt, .int x, .int (nI pl), .int v, .int tu, .int (ca + 1)])), (qt, .inl (cI, 3, .inl se)), (qb, .inr (0, [.ref qp, .ref qs, .ref qr, .ref qf, .int fl])), (qp, .inl (cI, 12, .inl pr)), (qs, .inl (cI, 12, .inl sb)), (qr, .inl (cI, 4, .inl br)), (qf, .inl (cI, 4, .inl fe))] H186 := hP
  have hD : va_D A [(qg, .inr (1, [.ref qb, .ref qt, .int x, .int (nI pl), .int v, .int tu, .int (ca + 1)])), (qt, .inl (cI, 3, .inl se)), (qb, .inr (0, [.ref qp, .ref qs, .ref qr, .ref qf, .int fl])), (qp, .inl (cI, 12, .inl pr)), (qs, .inl (cI, 12, .inl sb)), (qr, .inl (cI, 4, .inl br)), (qf, .inl (cI, 4, .inl fe))] := hD
  exact W.vret hx hb hr (fun t ht hW => ⟨⟨ca + 1, rfl, rfl, by rw [ht]; exact hP, hD⟩, hS.F ht⟩) hS.2.2 dX1_takeThrow_15

abbrev rm_X1_throwByX : Room := { frames := 1, cells := 0, slots := 0, locals := 21 }
theorem cf_RX1_94 {R : Room} {s : State} {args : Array Value} (ht : ∀ w ∈ wsL_law, w.before args s = true) (hN : ∀ w ∈ nestW, va_Nw w s) (hR : rm_X5_nextX.frames + 1 ≤ R.frames ∧ 8 + (1 + 11) + rm_X5_nextX.locals ≤ R.locals) : va_CN R s args RX1 94 yX5_nextX "BridgedPachisi" cX5_nextX 1 (some .int) (.code yX5_nextX cX5_nextX 1 (some .int) :: wsL_law) rm_X5_nextX 0 0 1 ∧ (Cond.static yX5_nextX).before args s = true ∧ True := ⟨cw_N 1 ht hN nw57 wd2 wd239 (by decide +kernel) rfl rfl hR, ht _ wd238, trivial⟩
theorem cf_RX1_97 {R : Room} {s : State} {args : Array Value} (ht : ∀ w ∈ wsL_law, w.before args s = true) (hN : ∀ w ∈ nestW, va_Nw w s) (hR : rm_X5_castOf.frames + 1 ≤ R.frames ∧ 8 + (1 + 11) + rm_X5_castOf.locals ≤ R.locals) : va_CN R s args RX1 97 yX5_castOf "BridgedPachisi" cX5_castOf 1 (some .int) (.code yX5_castOf cX5_castOf 1 (some .int) :: wsL_law) rm_X5_castOf 0 0 1 ∧ (Cond.static yX5_castOf).before args s = true ∧ True := ⟨cw_N 1 ht hN nw58 wd2 wd245 (by decide +kernel) rfl rfl hR, ht _ wd244, trivial⟩
theorem cf_RX1_100 {R : Room} {s : State} {args : Array Value} (ht : ∀ w ∈ wsL_law, w.before args s = true) (hR : rm_X1_takeThrow.frames + 1 ≤ R.frames ∧ 8 + (2 + 11) + rm_X1_takeThrow.locals ≤ R.locals) : CallW R s args RX1 RX1 100 yX1_takeThrow cX1_takeThrow 2 none (.code yX1_takeThrow cX1_takeThrow 2 none :: wsL_law) rm_X1_takeThrow 0 0 1 := ⟨cw_B 1 ht wd281 wd12 wd284 (by decide +kernel) rfl rfl hR, ht _ wd282, ht _ wd283⟩
set_option maxHeartbeats 1000000 in
set_option maxRecDepth 100000 in
theorem c_X1_throwByX (l : Launch) (G : va_G) (cI cC cZ cG : ClassId) (sz : Nat) (qg qt qb qp qs qr qf : Nat) (pr sb br fe se : IA) (fl x : Int32) (pl : Nat) (th tu ca : Int32) : Met l yX1_throwByX (.code yX1_throwByX cX1_throwByX 1 none :: wsL_law) rm_X1_throwByX (va_Pc [.ref qg] (bw G cI cC cZ cG false sz [(qg, .inr (1, [.ref qb, .ref qt, .int x, .int (nI pl), .int th, .int tu, .int ca])), (qt, .inl (cI, 3, .inl se)), (qb, .inr (0, [.ref qp, .ref qs, .ref qr, .ref qf, .int fl])), (qp, .inl (cI, 12, .inl pr)), (qs, .inl (cI, 12, .inl sb)), (qr, .inl (cI, 4, .inl br)), (qf, .inl (cI, 4, .inl fe))])) (va_Qv (fun (u : Int32) => u = ca + 1) (fun (u : Int32) t => va_P G vwCl [(qg, .inr (1, [.ref qb, .ref qt, .int (nx x), .int (nI pl), .int (co (nx x)), .int tu, .int u])), (qt, .inl (cI, 3, .inl se)), (qb, .inr (0, [.ref qp, .ref qs, .ref qr, .ref qf, .int fl])), (qp, .inl (cI, 12, .inl pr)), (qs, .inl (cI, 12, .inl sb)), (qr, .inl (cI, 4, .inl br)), (qf, .inl (cI, 4, .inl fe))] t.heap ∧ va_D (va_A [(qg, .inr (1, [.ref qb, .ref qt, .int x, .int (nI pl), .int th, .int tu, .int ca])), (qt, .inl (cI, 3, .inl se)), (qb, .inr (0, [.ref qp, .ref qs, .ref qr, .ref qf, .int fl])), (qp, .inl (cI, 12, .inl pr)), (qs, .inl (cI, 12, .inl sb)), (qr, .inl (cI, 4, .inl br)), (qf, .inl (cI, 4, .inl fe))] sz) [(qg, .inr (1, [.ref qb, .ref qt, .int (nx x), .int (nI pl), .int (co (nx x)), .int tu, .int u])), (qt, .inl (cI, 3, .inl se)), (qb, .inr (0, [.ref qp, .ref qs, .ref qr, .ref qf, .int fl])), (qp, .inl (cI, 12, .inl pr)), (qs, .inl (cI, 12, .inl sb)), (qr, .inl (cI, 4, .inl br)), (qf, .inl (cI, 4, .inl fe))]) (va_A [(qg, .inr (1, [.ref qb, .ref qt, .int x, .int (nI pl), .int th, .int tu, .int ca])), (qt, .inl (cI, 3, .inl se)), (qb, .inr (0, [.ref qp, .ref qs, .ref qr, .ref qf, .int fl])), (qp, .inl (cI, 12, .inl pr)), (qs, .inl (cI, 12, .inl sb)), (qr, .inl (cI, 4, .inl br)), (qf, .inl (cI, 4, .inl fe))] sz)) 0 0 (va_A [(qg, .inr (1, [.ref qb, .ref qt, .int x, .int (nI pl), .int th, .int tu, .int ca])), (qt, .inl (cI, 3, .inl se)), (qb, .inr (0, [.ref qp, .ref qs, .ref qr, .ref qf, .int fl])), (qp, .inl (cI, 12, .inl pr)), (qs, .inl (cI, 12, .inl sb)), (qr, .inl (cI, 4, .inl br)), (qf, .inl (cI, 4, .inl fe))] sz) := by
  refine met_bw rfl (Nat.le_of_ble_eq_true rfl) ?_
  intro p e s m below meth c ls hx hb hr hml hown hts hlocks hin hsz hP hK hD0 hX0 hl
  have hown : s.vm.findClass RX1 = some m.cls := hown
  have hl : lv_has ls 1 [(0, .ref qg)] := hl
  subst hsz
  have hD := hD0.self (sz := s.heap.size)
  generalize hAe : va_A [(qg, .inr (1, [.ref qb, .ref qt, .int x, .int (nI pl), .int th, .int tu, .int ca])), (qt, .inl (cI, 3, .inl se)), (qb, .inr (0, [.ref qp, .ref qs, .ref qr, .ref qf, .int fl])), (qp, .inl (cI, 12, .inl pr)), (qs, .inl (cI, 12, .inl sb)), (qr, .inl (cI, 4, .inl br)), (qf, .inl (cI, 4, .inl fe))] s.heap.size = A at hD ⊢
  have hA : ∀ q : Nat, s.heap.size ≤ q → A q := fun q h => by rw [← hAe]; exact Or.inr h
  have hS : va_S A s.heap s.heap [] := va_S.rf
  refine lv_aload_n hx hb dX1_throwByX_0 rfl (lv_at hl 0 rfl) ?_
  refine lv_aload_n hx hb dX1_throwByX_1 rfl (lv_at hl 0 rfl) ?_
  refine va_get (D := G) (ci := 1) (v := .int x) (C := RX1) (T := TX1) (N := 7) hx hb hts inlX1 hown hK.1 hP 0 rfl rfl 2 (by decide) (hts _ wd36) (fun _ h9 => h9) rfl dX1_throwByX_2 ?_
  refine vp_callSi (va_Run.run (va_runSN (As := [.int x]) (rest := [.ref qg]) ⟨hx, hb, hml, hown, hts⟩ (c_X5_nextX l x) (cf_RX1_94 hts hK.2 ⟨Nat.le_of_ble_eq_true rfl, Nat.le_of_ble_eq_true rfl⟩) pre_P rfl rfl hl.1 rfl (lv_room (Nat.le_of_ble_eq_true rfl)) dX1_throwByX_5 ⟨Nat.le_of_ble_eq_true rfl, Nat.le_of_ble_eq_true rfl⟩)) (fun r187 hr187 => ?_)
  subst hr187
  refine va_put (D := G) (ci := 1) (v := .int (nx x)) (ty := .int) (C := RX1) (T := TX1) (N := 7) hx hb hts inlX1 tyX1 tyX1_ok nmX1 hown hK.1 hP hD hS 0 rfl rfl 2 (by decide) (hts _ wd36) (fun _ h9 => h9) rfl (by decide +kernel) rfl rfl (Nat.le_of_ble_eq_true rfl) dX1_throwByX_8 (fun H188 locs188 hP hD hS => ?_)
  have hP : va_P G vwCl [(qg, .inr (1, [.ref qb, .ref qt, .int (nx x), .int (nI pl), .int th, .int tu, .int ca])), (qt, .inl (cI, 3, .inl se)), (qb, .inr (0, [.ref qp, .ref qs, .ref qr, .ref qf, .int fl])), (qp, .inl (cI, 12, .inl pr)), (qs, .inl (cI, 12, .inl sb)), (qr, .inl (cI, 4, .inl br)), (qf, .inl (cI, 4, .inl fe))] H188 := hP
  have hD : va_D A [(qg, .inr (1, [.ref qb, .ref qt, .int (nx x), .int (nI pl), .int th, .int tu, .int ca])), (qt, .inl (cI, 3, .inl se)), (qb, .inr (0, [.ref qp, .ref qs, .ref qr, .ref qf, .int fl])), (qp, .inl (cI, 12, .inl pr)), (qs, .inl (cI, 12, .inl sb)), (qr, .inl (cI, 4, .inl br)), (qf, .inl (cI, 4, .inl fe))] := hD
  refine lv_aload_n hx hb dX1_throwByX_11 rfl (lv_at hl 0 rfl) ?_
  refine lv_aload_n hx hb dX1_throwByX_12 rfl (lv_at hl 0 rfl) ?_
  refine va_get (D := G) (ci := 1) (v := .int (nx x)) (C := RX1) (T := TX1) (N := 7) hx hb hts inlX1 hown hK.1 hP 0 rfl rfl 2 (by decide) (hts _ wd36) (fun _ h9 => h9) rfl dX1_throwByX_13 ?_
  refine vp_callSi (va_Run.run (va_runSN (As := [.int (nx x)]) (rest := [.ref qg]) ⟨hx, hb, hml, hown, hts⟩ (c_X5_castOf l (nx x)) (cf_RX1_97 hts hK.2 ⟨Nat.le_of_ble_eq_true rfl, Nat.le_of_ble_eq_true rfl⟩) pre_P rfl rfl hl.1 rfl (lv_room (Nat.le_of_ble_eq_true rfl)) dX1_throwByX_16 ⟨Nat.le_of_ble_eq_true rfl, Nat.le_of_ble_eq_true rfl⟩)) (fun r189 hr189 => ?_)
  subst hr189
  have hPc : va_P G vwCl [(qg, .inr (1, [.ref qb, .ref qt, .int (nx x), .int (nI pl), .int th, .int tu, .int ca])), (qt, .inl (cI, 3, .inl se)), (qb, .inr (0, [.ref qp, .ref qs, .ref qr, .ref qf, .int fl])), (qp, .inl (cI, 12, .inl pr)), (qs, .inl (cI, 12, .inl sb)), (qr, .inl (cI, 4, .inl br)), (qf, .inl (cI, 4, .inl fe))] H188 := hP
  have hDc := hD.tt
  have hFc := va_free (wc := [(qg, .inr (1, [.ref qb, .ref qt, .int (nx x), .int (nI pl), .int th, .int tu, .int ca])), (qt, .inl (cI, 3, .inl se)), (qb, .inr (0, [.ref qp, .ref qs, .ref qr, .ref qf, .int fl])), (qp, .inl (cI, 12, .inl pr)), (qs, .inl (cI, 12, .inl sb)), (qr, .inl (cI, 4, .inl br)), (qf, .inl (cI, 4, .inl fe))]) hD hS hA [0, 1, 2, 3, 4, 5, 6] rfl
  refine va_callv (va_runV (As := [.int (co (nx x))]) (rest := []) ⟨hx, hb, hml, hown, hts⟩ (c_X1_takeThrow l G cI cC cZ cG H188.size qg qt qb qp qs qr qf pr sb br fe se fl (nx x) pl th tu ca (co (nx x))) (cf_RX1_100 hts ⟨Nat.le_of_ble_eq_true rfl, Nat.le_of_ble_eq_true rfl⟩) (pre_V hK hPc hDc (ci := 1) (q0 := 0) rfl rfl) rfl rfl hl.1 rfl (lv_room (Nat.le_of_ble_eq_true rfl)) dX1_throwByX_19 ⟨Nat.le_of_ble_eq_true rfl, Nat.le_of_ble_eq_true rfl⟩) hS (fun q _ h => hFc q h) hFc (fun u190 t190 H190 locs190 ht190 hvm190 hw190 hB190 hz190 hk190 hS => ?_)
  obtain ⟨ca190, rfl⟩ : ∃ z, z = u190 := ⟨_, rfl⟩
  obtain ⟨hP1, hD1⟩ := hB190
  rw [ht190] at hP1
  try dsimp only at hw190
  obtain ⟨hP, hD⟩ := va_join (wr := []) (w1 := [(qg, .inr (1, [.ref qb, .ref qt, .int (nx x), .int (nI pl), .int (co (nx x)), .int tu, .int ca190])), (qt, .inl (cI, 3, .inl se)), (qb, .inr (0, [.ref qp, .ref qs, .ref qr, .ref qf, .int fl])), (qp, .inl (cI, 12, .inl pr)), (qs, .inl (cI, 12, .inl sb)), (qr, .inl (cI, 4, .inl br)), (qf, .inl (cI, 4, .inl fe))]) hP hD [0, 1, 2, 3, 4, 5, 6] [] rfl rfl (by decide) (by decide) hk190 hFc hP1 hD1
  have hP : va_P G vwCl [(qg, .inr (1, [.ref qb, .ref qt, .int (nx x), .int (nI pl), .int (co (nx x)), .int tu, .int ca190])), (qt, .inl (cI, 3, .inl se)), (qb, .inr (0, [.ref qp, .ref qs, .ref qr, .ref qf, .int fl])), (qp, .inl (cI, 12, .inl pr)), (qs, .inl (cI, 12, .inl sb)), (qr, .inl (cI, 4, .inl br)), (qf, .inl (cI, 4, .inl fe))] H190 := hP
  have hD : va_D A [(qg, .inr (1, [.ref qb, .ref qt, .int (nx x), .int (nI pl), .int (co (nx x)), .int tu, .int ca190])), (qt, .inl (cI, 3, .inl se)), (qb, .inr (0, [.ref qp, .ref qs, .ref qr, .ref qf, .int fl])), (qp, .inl (cI, 12, .inl pr)), (qs, .inl (cI, 12, .inl sb)), (qr, .inl (cI, 4, .inl br)), (qf, .inl (cI, 4, .inl fe))] := hD
  exact W.vret hx hb hr (fun t ht hW => ⟨⟨ca190, rfl, hw190, by rw [ht]; exact hP, hD⟩, hS.F ht⟩) hS.2.2 dX1_throwByX_22

abbrev rm_X1_beginTurn : Room := { frames := 1, cells := 0, slots := 0, locals := 23 }
theorem cf_RX1_122 {R : Room} {s : State} {args : Array Value} (ht : ∀ w ∈ wsL_law, w.before args s = true) (hN : ∀ w ∈ nestW, va_Nw w s) (hR : rm_X0_mend.frames + 1 ≤ R.frames ∧ 8 + (4 + 11) + rm_X0_mend.locals ≤ R.locals) : va_CN R s args RX1 122 yX0_mend "BridgedPachisi" cX0_mend 4 none (.code yX0_mend cX0_mend 4 none :: wsL_law) rm_X0_mend 0 0 2 ∧ (Cond.instanceMethod yX0_mend).before args s = true ∧ (Cond.selects RX0 yX0_mend yX0_mend).before args s = true := ⟨cw_N 2 ht hN nw59 wd33 wd296 (by decide +kernel) rfl rfl hR, ht _ wd294, ht _ wd295⟩
set_option maxHeartbeats 1000000 in
set_option maxRecDepth 100000 in
theorem c_X1_beginTurn (l : Launch) (G : va_G) (cI cC cZ cG : ClassId) (sz : Nat) (qg qt qb qp qs qr qf : Nat) (pr sb br fe se : IA) (fl x : Int32) (pl : Nat) (th tu ca : Int32) (hpl : pl < 4) : Met l yX1_beginTurn (.code yX1_beginTurn cX1_beginTurn 1 none :: wsL_law) rm_X1_beginTurn (va_Pc [.ref qg] (bw G cI cC cZ cG false sz [(qg, .inr (1, [.ref qb, .ref qt, .int x, .int (nI pl), .int th, .int tu, .int ca])), (qt, .inl (cI, 3, .inl se)), (qb, .inr (0, [.ref qp, .ref qs, .ref qr, .ref qf, .int fl])), (qp, .inl (cI, 12, .inl pr)), (qs, .inl (cI, 12, .inl sb)), (qr, .inl (cI, 4, .inl br)), (qf, .inl (cI, 4, .inl fe))])) (va_Qv (fun (u : IA) => u = md fe (tu + 1) (se 1) br 4) (fun (u : IA) t => va_P G vwCl [(qg, .inr (1, [.ref qb, .ref qt, .int x, .int (nI ((pl + 1) % 4)), .int th, .int (tu + 1), .int 0])), (qt, .inl (cI, 3, .inl se)), (qb, .inr (0, [.ref qp, .ref qs, .ref qr, .ref qf, .int fl])), (qp, .inl (cI, 12, .inl pr)), (qs, .inl (cI, 12, .inl sb)), (qr, .inl (cI, 4, .inl u)), (qf, .inl (cI, 4, .inl fe))] t.heap ∧ va_D (va_A [(qg, .inr (1, [.ref qb, .ref qt, .int x, .int (nI pl), .int th, .int tu, .int ca])), (qt, .inl (cI, 3, .inl se)), (qb, .inr (0, [.ref qp, .ref qs, .ref qr, .ref qf, .int fl])), (qp, .inl (cI, 12, .inl pr)), (qs, .inl (cI, 12, .inl sb)), (qr, .inl (cI, 4, .inl br)), (qf, .inl (cI, 4, .inl fe))] sz) [(qg, .inr (1, [.ref qb, .ref qt, .int x, .int (nI ((pl + 1) % 4)), .int th, .int (tu + 1), .int 0])), (qt, .inl (cI, 3, .inl se)), (qb, .inr (0, [.ref qp, .ref qs, .ref qr, .ref qf, .int fl])), (qp, .inl (cI, 12, .inl pr)), (qs, .inl (cI, 12, .inl sb)), (qr, .inl (cI, 4, .inl u)), (qf, .inl (cI, 4, .inl fe))]) (va_A [(qg, .inr (1, [.ref qb, .ref qt, .int x, .int (nI pl), .int th, .int tu, .int ca])), (qt, .inl (cI, 3, .inl se)), (qb, .inr (0, [.ref qp, .ref qs, .ref qr, .ref qf, .int fl])), (qp, .inl (cI, 12, .inl pr)), (qs, .inl (cI, 12, .inl sb)), (qr, .inl (cI, 4, .inl br)), (qf, .inl (cI, 4, .inl fe))] sz)) 0 0 (va_A [(qg, .inr (1, [.ref qb, .ref qt, .int x, .int (nI pl), .int th, .int tu, .int ca])), (qt, .inl (cI, 3, .inl se)), (qb, .inr (0, [.ref qp, .ref qs, .ref qr, .ref qf, .int fl])), (qp, .inl (cI, 12, .inl pr)), (qs, .inl (cI, 12, .inl sb)), (qr, .inl (cI, 4, .inl br)), (qf, .inl (cI, 4, .inl fe))] sz) := by
  refine met_bw rfl (Nat.le_of_ble_eq_true rfl) ?_
  intro p e s m below meth c ls hx hb hr hml hown hts hlocks hin hsz hP hK hD0 hX0 hl
  have hown : s.vm.findClass RX1 = some m.cls := hown
  have hl : lv_has ls 1 [(0, .ref qg)] := hl
  subst hsz
  have hD := hD0.self (sz := s.heap.size)
  generalize hAe : va_A [(qg, .inr (1, [.ref qb, .ref qt, .int x, .int (nI pl), .int th, .int tu, .int ca])), (qt, .inl (cI, 3, .inl se)), (qb, .inr (0, [.ref qp, .ref qs, .ref qr, .ref qf, .int fl])), (qp, .inl (cI, 12, .inl pr)), (qs, .inl (cI, 12, .inl sb)), (qr, .inl (cI, 4, .inl br)), (qf, .inl (cI, 4, .inl fe))] s.heap.size = A at hD ⊢
  have hA : ∀ q : Nat, s.heap.size ≤ q → A q := fun q h => by rw [← hAe]; exact Or.inr h
  have hS : va_S A s.heap s.heap [] := va_S.rf
  refine lv_aload_n hx hb dX1_beginTurn_0 rfl (lv_at hl 0 rfl) ?_
  refine lv_aload_n hx hb dX1_beginTurn_1 rfl (lv_at hl 0 rfl) ?_
  refine va_get (D := G) (ci := 1) (v := .int (nI pl)) (C := RX1) (T := TX1) (N := 7) hx hb hts inlX1 hown hK.1 hP 0 rfl rfl 3 (by decide) (hts _ wd37) (fun _ h9 => h9) rfl dX1_beginTurn_2 ?_
  refine lv_iconst (v := 1) hx hb dX1_beginTurn_5 (by decide) ?_
  refine zi_add hx hb pl 1 dX1_beginTurn_6 rfl rfl ?_
  refine lv_iconst (v := 4) hx hb dX1_beginTurn_7 (by decide) ?_
  refine zi_rem hx hb (pl + 1) 4 dX1_beginTurn_8 rfl rfl (by omega) (by decide) (by decide) ?_
  refine va_put (D := G) (ci := 1) (v := .int (nI ((pl + 1) % 4))) (ty := .int) (C := RX1) (T := TX1) (N := 7) hx hb hts inlX1 tyX1 tyX1_ok nmX1 hown hK.1 hP hD hS 0 rfl rfl 3 (by decide) (hts _ wd37) (fun _ h9 => h9) rfl (by decide +kernel) rfl rfl (Nat.le_of_ble_eq_true rfl) dX1_beginTurn_9 (fun H191 locs191 hP hD hS => ?_)
  have hP : va_P G vwCl [(qg, .inr (1, [.ref qb, .ref qt, .int x, .int (nI ((pl + 1) % 4)), .int th, .int tu, .int ca])), (qt, .inl (cI, 3, .inl se)), (qb, .inr (0, [.ref qp, .ref qs, .ref qr, .ref qf, .int fl])), (qp, .inl (cI, 12, .inl pr)), (qs, .inl (cI, 12, .inl sb)), (qr, .inl (cI, 4, .inl br)), (qf, .inl (cI, 4, .inl fe))] H191 := hP
  have hD : va_D A [(qg, .inr (1, [.ref qb, .ref qt, .int x, .int (nI ((pl + 1) % 4)), .int th, .int tu, .int ca])), (qt, .inl (cI, 3, .inl se)), (qb, .inr (0, [.ref qp, .ref qs, .ref qr, .ref qf, .int fl])), (qp, .inl (cI, 12, .inl pr)), (qs, .inl (cI, 12, .inl sb)), (qr, .inl (cI, 4, .inl br)), (qf, .inl (cI, 4, .inl fe))] := hD
  refine lv_aload_n hx hb dX1_beginTurn_12 rfl (lv_at hl 0 rfl) ?_
  refine lv_dup hx hb dX1_beginTurn_13 rfl ?_
  refine va_get (D := G) (ci := 1) (v := .int tu) (C := RX1) (T := TX1) (N := 7) hx hb hts inlX1 hown hK.1 hP 0 rfl rfl 5 (by decide) (hts _ wd39) (fun _ h9 => h9) rfl dX1_beginTurn_14 ?_
  refine lv_iconst (v := 1) hx hb dX1_beginTurn_17 (by decide) ?_
  refine lv_iadd hx hb dX1_beginTurn_18 ?_
  refine va_put (D := G) (ci := 1) (v := .int (tu + 1)) (ty := .int) (C := RX1) (T := TX1) (N := 7) hx hb hts inlX1 tyX1 tyX1_ok nmX1 hown hK.1 hP hD hS 0 rfl rfl 5 (by decide) (hts _ wd39) (fun _ h9 => h9) rfl (by decide +kernel) rfl rfl (Nat.le_of_ble_eq_true rfl) dX1_beginTurn_19 (fun H192 locs192 hP hD hS => ?_)
  have hP : va_P G vwCl [(qg, .inr (1, [.ref qb, .ref qt, .int x, .int (nI ((pl + 1) % 4)), .int th, .int (tu + 1), .int ca])), (qt, .inl (cI, 3, .inl se)), (qb, .inr (0, [.ref qp, .ref qs, .ref qr, .ref qf, .int fl])), (qp, .inl (cI, 12, .inl pr)), (qs, .inl (cI, 12, .inl sb)), (qr, .inl (cI, 4, .inl br)), (qf, .inl (cI, 4, .inl fe))] H192 := hP
  have hD : va_D A [(qg, .inr (1, [.ref qb, .ref qt, .int x, .int (nI ((pl + 1) % 4)), .int th, .int (tu + 1), .int ca])), (qt, .inl (cI, 3, .inl se)), (qb, .inr (0, [.ref qp, .ref qs, .ref qr, .ref qf, .int fl])), (qp, .inl (cI, 12, .inl pr)), (qs, .inl (cI, 12, .inl sb)), (qr, .inl (cI, 4, .inl br)), (qf, .inl (cI, 4, .inl fe))] := hD
  refine lv_aload_n hx hb dX1_beginTurn_22 rfl (lv_at hl 0 rfl) ?_
  refine lv_iconst (v := 0) hx hb dX1_beginTurn_23 (by decide) ?_
  refine va_put (D := G) (ci := 1) (v := .int 0) (ty := .int) (C := RX1) (T := TX1) (N := 7) hx hb hts inlX1 tyX1 tyX1_ok nmX1 hown hK.1 hP hD hS 0 rfl rfl 6 (by decide) (hts _ wd40) (fun _ h9 => h9) rfl (by decide +kernel) rfl rfl (Nat.le_of_ble_eq_true rfl) dX1_beginTurn_24 (fun H193 locs193 hP hD hS => ?_)
  have hP : va_P G vwCl [(qg, .inr (1, [.ref qb, .ref qt, .int x, .int (nI ((pl + 1) % 4)), .int th, .int (tu + 1), .int 0])), (qt, .inl (cI, 3, .inl se)), (qb, .inr (0, [.ref qp, .ref qs, .ref qr, .ref qf, .int fl])), (qp, .inl (cI, 12, .inl pr)), (qs, .inl (cI, 12, .inl sb)), (qr, .inl (cI, 4, .inl br)), (qf, .inl (cI, 4, .inl fe))] H193 := hP
  have hD : va_D A [(qg, .inr (1, [.ref qb, .ref qt, .int x, .int (nI ((pl + 1) % 4)), .int th, .int (tu + 1), .int 0])), (qt, .inl (cI, 3, .inl se)), (qb, .inr (0, [.ref qp, .ref qs, .ref qr, .ref qf, .int fl])), (qp, .inl (cI, 12, .inl pr)), (qs, .inl (cI, 12, .inl sb)), (qr, .inl (cI, 4, .inl br)), (qf, .inl (cI, 4, .inl fe))] := hD
  refine lv_aload_n hx hb dX1_beginTurn_27 rfl (lv_at hl 0 rfl) ?_
  refine va_get (D := G) (ci := 1) (v := .ref qb) (C := RX1) (T := TX1) (N := 7) hx hb hts inlX1 hown hK.1 hP 0 rfl rfl 0 (by decide) (hts _ wd34) (fun _ h9 => h9) rfl dX1_beginTurn_28 ?_
  refine lv_aload_n hx hb dX1_beginTurn_31 rfl (lv_at hl 0 rfl) ?_
  refine va_get (D := G) (ci := 1) (v := .int (tu + 1)) (C := RX1) (T := TX1) (N := 7) hx hb hts inlX1 hown hK.1 hP 0 rfl rfl 5 (by decide) (hts _ wd39) (fun _ h9 => h9) rfl dX1_beginTurn_32 ?_
  refine lv_aload_n hx hb dX1_beginTurn_35 rfl (lv_at hl 0 rfl) ?_
  refine va_get (D := G) (ci := 1) (v := .ref qt) (C := RX1) (T := TX1) (N := 7) hx hb hts inlX1 hown hK.1 hP 0 rfl rfl 1 (by decide) (hts _ wd35) (fun _ h9 => h9) rfl dX1_beginTurn_36 ?_
  refine lv_iconst (v := 1) hx hb dX1_beginTurn_39 (by decide) ?_
  refine za_ld hx hb hK.1 hP 1 0 rfl rfl 1 rfl (by decide) (by decide) dX1_beginTurn_40 ?_
  have hPc := hP.sub (ws' := [(qb, .inr (0, [.ref qp, .ref qs, .ref qr, .ref qf, .int fl])), (qp, .inl (cI, 12, .inl pr)), (qs, .inl (cI, 12, .inl sb)), (qr, .inl (cI, 4, .inl br)), (qf, .inl (cI, 4, .inl fe))]) [2, 3, 4, 5, 6] rfl
  have hDc := (hD.sub (ws' := [(qb, .inr (0, [.ref qp, .ref qs, .ref qr, .ref qf, .int fl])), (qp, .inl (cI, 12, .inl pr)), (qs, .inl (cI, 12, .inl sb)), (qr, .inl (cI, 4, .inl br)), (qf, .inl (cI, 4, .inl fe))]) [2, 3, 4, 5, 6] (by decide) rfl).tt
  have hFc := va_free (wc := [(qb, .inr (0, [.ref qp, .ref qs, .ref qr, .ref qf, .int fl])), (qp, .inl (cI, 12, .inl pr)), (qs, .inl (cI, 12, .inl sb)), (qr, .inl (cI, 4, .inl br)), (qf, .inl (cI, 4, .inl fe))]) hD hS hA [2, 3, 4, 5, 6] rfl
  refine va_callv (va_runVN (As := [.int (tu + 1), .int (se 1)]) (rest := []) ⟨hx, hb, hml, hown, hts⟩ (c_X0_mend l G cI cC cZ cG H193.size qb qp qs qr qf pr sb br fe fl (tu + 1) (se 1)) (cf_RX1_122 hts hK.2 ⟨Nat.le_of_ble_eq_true rfl, Nat.le_of_ble_eq_true rfl⟩) (pre_V hK hPc hDc (ci := 0) (q0 := 0) rfl rfl) rfl rfl hl.1 rfl (lv_room (Nat.le_of_ble_eq_true rfl)) dX1_beginTurn_41 ⟨Nat.le_of_ble_eq_true rfl, Nat.le_of_ble_eq_true rfl⟩) hS (fun q _ h => hFc q h) hFc (fun u194 t194 H194 locs194 ht194 hvm194 hw194 hB194 hz194 hk194 hS => ?_)
  obtain ⟨br194, rfl⟩ : ∃ z, z = u194 := ⟨_, rfl⟩
  obtain ⟨hP1, hD1⟩ := hB194
  rw [ht194] at hP1
  try dsimp only at hw194
  obtain ⟨hP, hD⟩ := va_join (wr := [(qg, .inr (1, [.ref qb, .ref qt, .int x, .int (nI ((pl + 1) % 4)), .int th, .int (tu + 1), .int 0])), (qt, .inl (cI, 3, .inl se))]) (w1 := [(qb, .inr (0, [.ref qp, .ref qs, .ref qr, .ref qf, .int fl])), (qp, .inl (cI, 12, .inl pr)), (qs, .inl (cI, 12, .inl sb)), (qr, .inl (cI, 4, .inl br194)), (qf, .inl (cI, 4, .inl fe))]) hP hD [2, 3, 4, 5, 6] [0, 1] rfl rfl (by decide) (by decide) hk194 hFc hP1 hD1
  have hP : va_P G vwCl [(qg, .inr (1, [.ref qb, .ref qt, .int x, .int (nI ((pl + 1) % 4)), .int th, .int (tu + 1), .int 0])), (qt, .inl (cI, 3, .inl se)), (qb, .inr (0, [.ref qp, .ref qs, .ref qr, .ref qf, .int fl])), (qp, .inl (cI, 12, .inl pr)), (qs, .inl (cI, 12, .inl sb)), (qr, .inl (cI, 4, .inl br194)), (qf, .inl (cI, 4, .inl fe))] H194 := hP
  have hD : va_D A [(qg, .inr (1, [.ref qb, .ref qt, .int x, .int (nI ((pl + 1) % 4)), .int th, .int (tu + 1), .int 0])), (qt, .inl (cI, 3, .inl se)), (qb, .inr (0, [.ref qp, .ref qs, .ref qr, .ref qf, .int fl])), (qp, .inl (cI, 12, .inl pr)), (qs, .inl (cI, 12, .inl sb)), (qr, .inl (cI, 4, .inl br194)), (qf, .inl (cI, 4, .inl fe))] := hD
  exact W.vret hx hb hr (fun t ht hW => ⟨⟨br194, rfl, hw194, by rw [ht]; exact hP, hD⟩, hS.F ht⟩) hS.2.2 dX1_beginTurn_44

abbrev rm_X1_endThrow : Room := { frames := 3, cells := 0, slots := 0, locals := 64 }
theorem cf_RX1_115 {R : Room} {s : State} {args : Array Value} (ht : ∀ w ∈ wsL_law, w.before args s = true) (hR : rm_X1_isOver.frames + 1 ≤ R.frames ∧ 8 + (1 + 11) + rm_X1_isOver.locals ≤ R.locals) : CallW R s args RX1 RX1 115 yX1_isOver cX1_isOver 1 (some .boolean) (.code yX1_isOver cX1_isOver 1 (some .boolean) :: wsL_law) rm_X1_isOver 0 0 0 := ⟨cw_B 0 ht wd273 wd12 wd276 (by decide +kernel) rfl rfl hR, ht _ wd274, ht _ wd275⟩
theorem cf_RX1_119 {R : Room} {s : State} {args : Array Value} (ht : ∀ w ∈ wsL_law, w.before args s = true) (hR : rm_X1_beginTurn.frames + 1 ≤ R.frames ∧ 8 + (1 + 11) + rm_X1_beginTurn.locals ≤ R.locals) : CallW R s args RX1 RX1 119 yX1_beginTurn cX1_beginTurn 1 none (.code yX1_beginTurn cX1_beginTurn 1 none :: wsL_law) rm_X1_beginTurn 0 0 0 := ⟨cw_B 0 ht wd290 wd12 wd293 (by decide +kernel) rfl rfl hR, ht _ wd291, ht _ wd292⟩
set_option maxHeartbeats 1000000 in
set_option maxRecDepth 100000 in
theorem c_X1_endThrow (l : Launch) (G : va_G) (cI cC cZ cG : ClassId) (sz : Nat) (qg qt qb qp qs qr qf : Nat) (pr sb br fe se : IA) (fl x : Int32) (pl : Nat) (th tu ca : Int32) (hpl : pl < 4) : Met l yX1_endThrow (.code yX1_endThrow cX1_endThrow 2 none :: wsL_law) rm_X1_endThrow (va_Pc [.ref qg] (bw G cI cC cZ cG false sz [(qg, .inr (1, [.ref qb, .ref qt, .int x, .int (nI pl), .int th, .int tu, .int ca])), (qt, .inl (cI, 3, .inl se)), (qb, .inr (0, [.ref qp, .ref qs, .ref qr, .ref qf, .int fl])), (qp, .inl (cI, 12, .inl pr)), (qs, .inl (cI, 12, .inl sb)), (qr, .inl (cI, 4, .inl br)), (qf, .inl (cI, 4, .inl fe))])) (va_Qv (fun (u : IA × Nat × Int32 × Int32) => u = et pr br fe se pl th tu ca) (fun (u : IA × Nat × Int32 × Int32) t => va_P G vwCl [(qg, .inr (1, [.ref qb, .ref qt, .int x, .int (nI u.2.1), .int (-6), .int u.2.2.1, .int u.2.2.2])), (qt, .inl (cI, 3, .inl se)), (qb, .inr (0, [.ref qp, .ref qs, .ref qr, .ref qf, .int fl])), (qp, .inl (cI, 12, .inl pr)), (qs, .inl (cI, 12, .inl sb)), (qr, .inl (cI, 4, .inl u.1)), (qf, .inl (cI, 4, .inl fe))] t.heap ∧ va_D (va_A [(qg, .inr (1, [.ref qb, .ref qt, .int x, .int (nI pl), .int th, .int tu, .int ca])), (qt, .inl (cI, 3, .inl se)), (qb, .inr (0, [.ref qp, .ref qs, .ref qr, .ref qf, .int fl])), (qp, .inl (cI, 12, .inl pr)), (qs, .inl (cI, 12, .inl sb)), (qr, .inl (cI, 4, .inl br)), (qf, .inl (cI, 4, .inl fe))] sz) [(qg, .inr (1, [.ref qb, .ref qt, .int x, .int (nI u.2.1), .int (-6), .int u.2.2.1, .int u.2.2.2])), (qt, .inl (cI, 3, .inl se)), (qb, .inr (0, [.ref qp, .ref qs, .ref qr, .ref qf, .int fl])), (qp, .inl (cI, 12, .inl pr)), (qs, .inl (cI, 12, .inl sb)), (qr, .inl (cI, 4, .inl u.1)), (qf, .inl (cI, 4, .inl fe))]) (va_A [(qg, .inr (1, [.ref qb, .ref qt, .int x, .int (nI pl), .int th, .int tu, .int ca])), (qt, .inl (cI, 3, .inl se)), (qb, .inr (0, [.ref qp, .ref qs, .ref qr, .ref qf, .int fl])), (qp, .inl (cI, 12, .inl pr)), (qs, .inl (cI, 12, .inl sb)), (qr, .inl (cI, 4, .inl br)), (qf, .inl (cI, 4, .inl fe))] sz)) 0 0 (va_A [(qg, .inr (1, [.ref qb, .ref qt, .int x, .int (nI pl), .int th, .int tu, .int ca])), (qt, .inl (cI, 3, .inl se)), (qb, .inr (0, [.ref qp, .ref qs, .ref qr, .ref qf, .int fl])), (qp, .inl (cI, 12, .inl pr)), (qs, .inl (cI, 12, .inl sb)), (qr, .inl (cI, 4, .inl br)), (qf, .inl (cI, 4, .inl fe))] sz) := by
  refine met_bw rfl (Nat.le_of_ble_eq_true rfl) ?_
  intro p e s m below meth c ls hx hb hr hml hown hts hlocks hin hsz hP hK hD0 hX0 hl
  have hown : s.vm.findClass RX1 = some m.cls := hown
  have hl : lv_has ls 2 [(0, .ref qg)] := hl
  subst hsz
  have hD := hD0.self (sz := s.heap.size)
  generalize hAe : va_A [(qg, .inr (1, [.ref qb, .ref qt, .int x, .int (nI pl), .int th, .int tu, .int ca])), (qt, .inl (cI, 3, .inl se)), (qb, .inr (0, [.ref qp, .ref qs, .ref qr, .ref qf, .int fl])), (qp, .inl (cI, 12, .inl pr)), (qs, .inl (cI, 12, .inl sb)), (qr, .inl (cI, 4, .inl br)), (qf, .inl (cI, 4, .inl fe))] s.heap.size = A at hD ⊢
  have hA : ∀ q : Nat, s.heap.size ≤ q → A q := fun q h => by rw [← hAe]; exact Or.inr h
  have hS : va_S A s.heap s.heap [] := va_S.rf
  refine lv_aload_n hx hb dX1_endThrow_0 rfl (lv_at hl 0 rfl) ?_
  refine va_get (D := G) (ci := 1) (v := .int th) (C := RX1) (T := TX1) (N := 7) hx hb hts inlX1 hown hK.1 hP 0 rfl rfl 4 (by decide) (hts _ wd38) (fun _ h9 => h9) rfl dX1_endThrow_1 ?_
  refine lv_bipush (v := 6) hx hb dX1_endThrow_4 (by decide) ?_
  refine lv_icmp_ne (tgt := 26) hx hb dX1_endThrow_6 (by decide) (fun c_195 => ?_) (fun c_195 => ?_)
  · refine lv_iconst (v := 0) hx hb dX1_endThrow_26 (by decide) ?_
    refine lv_istore_n (lv' := [(1, .int 0), (0, .ref qg)]) hx hb dX1_endThrow_27 rfl hl (by decide) rfl (fun ls hl => ?_)
    refine lv_aload_n hx hb dX1_endThrow_28 rfl (lv_at hl 1 rfl) ?_
    refine lv_bipush (v := (-6)) hx hb dX1_endThrow_29 (by decide) ?_
    refine va_put (D := G) (ci := 1) (v := .int (-6)) (ty := .int) (C := RX1) (T := TX1) (N := 7) hx hb hts inlX1 tyX1 tyX1_ok nmX1 hown hK.1 hP hD hS 0 rfl rfl 4 (by decide) (hts _ wd38) (fun _ h9 => h9) rfl (by decide +kernel) rfl rfl (Nat.le_of_ble_eq_true rfl) dX1_endThrow_31 (fun H196 locs196 hP hD hS => ?_)
    have hP : va_P G vwCl [(qg, .inr (1, [.ref qb, .ref qt, .int x, .int (nI pl), .int (-6), .int tu, .int ca])), (qt, .inl (cI, 3, .inl se)), (qb, .inr (0, [.ref qp, .ref qs, .ref qr, .ref qf, .int fl])), (qp, .inl (cI, 12, .inl pr)), (qs, .inl (cI, 12, .inl sb)), (qr, .inl (cI, 4, .inl br)), (qf, .inl (cI, 4, .inl fe))] H196 := hP
    have hD : va_D A [(qg, .inr (1, [.ref qb, .ref qt, .int x, .int (nI pl), .int (-6), .int tu, .int ca])), (qt, .inl (cI, 3, .inl se)), (qb, .inr (0, [.ref qp, .ref qs, .ref qr, .ref qf, .int fl])), (qp, .inl (cI, 12, .inl pr)), (qs, .inl (cI, 12, .inl sb)), (qr, .inl (cI, 4, .inl br)), (qf, .inl (cI, 4, .inl fe))] := hD
    refine lv_iload_n hx hb dX1_endThrow_34 rfl (lv_at hl 0 rfl) ?_
    refine lv_if_ne (tgt := 49) hx hb dX1_endThrow_35 (by decide) (fun c_197 => ?_) (fun c_197 => ?_)
    · exact absurd c_197 (by decide)
    · refine lv_aload_n hx hb dX1_endThrow_38 rfl (lv_at hl 1 rfl) ?_
      have hPc : va_P G vwCl [(qg, .inr (1, [.ref qb, .ref qt, .int x, .int (nI pl), .int (-6), .int tu, .int ca])), (qt, .inl (cI, 3, .inl se)), (qb, .inr (0, [.ref qp, .ref qs, .ref qr, .ref qf, .int fl])), (qp, .inl (cI, 12, .inl pr)), (qs, .inl (cI, 12, .inl sb)), (qr, .inl (cI, 4, .inl br)), (qf, .inl (cI, 4, .inl fe))] H196 := hP
      have hDc := hD.tt
      refine vp_callSi (va_Run.run (va_runV (As := []) (rest := []) ⟨hx, hb, hml, hown, hts⟩ (c_X1_isOver l G cI cC cZ cG H196.size qg qt qb qp qs qr qf pr sb br fe se fl x pl ((-6)) tu ca) (cf_RX1_115 hts ⟨Nat.le_of_ble_eq_true rfl, Nat.le_of_ble_eq_true rfl⟩) (pre_V hK hPc hDc (ci := 1) (q0 := 0) rfl rfl) rfl rfl hl.1 rfl (lv_room (Nat.le_of_ble_eq_true rfl)) dX1_endThrow_39 ⟨Nat.le_of_ble_eq_true rfl, Nat.le_of_ble_eq_true rfl⟩)) (fun r198 hr198 => ?_)
      subst hr198
      refine zb_ne (tgt := 49) hx hb dX1_endThrow_42 (by decide) (fun c_199 => ?_) (fun c_199 => ?_)
      · exact W.vret hx hb hr (fun t ht hW => ⟨⟨(br, pl, tu, ca), rfl, by rw [et, if_pos (Or.inr c_199)], by rw [ht]; exact hP, hD⟩, hS.F ht⟩) hS.2.2 dX1_endThrow_49
      · refine lv_aload_n hx hb dX1_endThrow_45 rfl (lv_at hl 1 rfl) ?_
        have hPc : va_P G vwCl [(qg, .inr (1, [.ref qb, .ref qt, .int x, .int (nI pl), .int (-6), .int tu, .int ca])), (qt, .inl (cI, 3, .inl se)), (qb, .inr (0, [.ref qp, .ref qs, .ref qr, .ref qf, .int fl])), (qp, .inl (cI, 12, .inl pr)), (qs, .inl (cI, 12, .inl sb)), (qr, .inl (cI, 4, .inl br)), (qf, .inl (cI, 4, .inl fe))] H196 := hP
        have hDc := hD.tt
        have hFc := va_free (wc := [(qg, .inr (1, [.ref qb, .ref qt, .int x, .int (nI pl), .int (-6), .int tu, .int ca])), (qt, .inl (cI, 3, .inl se)), (qb, .inr (0, [.ref qp, .ref qs, .ref qr, .ref qf, .int fl])), (qp, .inl (cI, 12, .inl pr)), (qs, .inl (cI, 12, .inl sb)), (qr, .inl (cI, 4, .inl br)), (qf, .inl (cI, 4, .inl fe))]) hD hS hA [0, 1, 2, 3, 4, 5, 6] rfl
        refine va_callv (va_runV (As := []) (rest := []) ⟨hx, hb, hml, hown, hts⟩ (c_X1_beginTurn l G cI cC cZ cG H196.size qg qt qb qp qs qr qf pr sb br fe se fl x pl ((-6)) tu ca (by omega)) (cf_RX1_119 hts ⟨Nat.le_of_ble_eq_true rfl, Nat.le_of_ble_eq_true rfl⟩) (pre_V hK hPc hDc (ci := 1) (q0 := 0) rfl rfl) rfl rfl hl.1 rfl (lv_room (Nat.le_of_ble_eq_true rfl)) dX1_endThrow_46 ⟨Nat.le_of_ble_eq_true rfl, Nat.le_of_ble_eq_true rfl⟩) hS (fun q _ h => hFc q h) hFc (fun u200 t200 H200 locs200 ht200 hvm200 hw200 hB200 hz200 hk200 hS => ?_)
        obtain ⟨br200, rfl⟩ : ∃ z, z = u200 := ⟨_, rfl⟩
        obtain ⟨hP1, hD1⟩ := hB200
        rw [ht200] at hP1
        try dsimp only at hw200
        obtain ⟨hP, hD⟩ := va_join (wr := []) (w1 := [(qg, .inr (1, [.ref qb, .ref qt, .int x, .int (nI ((pl + 1) % 4)), .int (-6), .int (tu + 1), .int 0])), (qt, .inl (cI, 3, .inl se)), (qb, .inr (0, [.ref qp, .ref qs, .ref qr, .ref qf, .int fl])), (qp, .inl (cI, 12, .inl pr)), (qs, .inl (cI, 12, .inl sb)), (qr, .inl (cI, 4, .inl br200)), (qf, .inl (cI, 4, .inl fe))]) hP hD [0, 1, 2, 3, 4, 5, 6] [] rfl rfl (by decide) (by decide) hk200 hFc hP1 hD1
        have hP : va_P G vwCl [(qg, .inr (1, [.ref qb, .ref qt, .int x, .int (nI ((pl + 1) % 4)), .int (-6), .int (tu + 1), .int 0])), (qt, .inl (cI, 3, .inl se)), (qb, .inr (0, [.ref qp, .ref qs, .ref qr, .ref qf, .int fl])), (qp, .inl (cI, 12, .inl pr)), (qs, .inl (cI, 12, .inl sb)), (qr, .inl (cI, 4, .inl br200)), (qf, .inl (cI, 4, .inl fe))] H200 := hP
        have hD : va_D A [(qg, .inr (1, [.ref qb, .ref qt, .int x, .int (nI ((pl + 1) % 4)), .int (-6), .int (tu + 1), .int 0])), (qt, .inl (cI, 3, .inl se)), (qb, .inr (0, [.ref qp, .ref qs, .ref qr, .ref qf, .int fl])), (qp, .inl (cI, 12, .inl pr)), (qs, .inl (cI, 12, .inl sb)), (qr, .inl (cI, 4, .inl br200)), (qf, .inl (cI, 4, .inl fe))] := hD
        exact W.vret hx hb hr (fun t ht hW => ⟨⟨(br200, (pl + 1) % 4, tu + 1, 0), rfl, by rw [et, if_neg (fun h => h.elim (fun h => c_195 h.1) c_199), hw200], by rw [ht]; exact hP, hD⟩, hS.F ht⟩) hS.2.2 dX1_endThrow_49
  · refine lv_aload_n hx hb dX1_endThrow_9 rfl (lv_at hl 0 rfl) ?_
    refine va_get (D := G) (ci := 1) (v := .int ca) (C := RX1) (T := TX1) (N := 7) hx hb hts inlX1 hown hK.1 hP 0 rfl rfl 6 (by decide) (hts _ wd40) (fun _ h9 => h9) rfl dX1_endThrow_10 ?_
    refine lv_aload_n hx hb dX1_endThrow_13 rfl (lv_at hl 0 rfl) ?_
    refine va_get (D := G) (ci := 1) (v := .ref qt) (C := RX1) (T := TX1) (N := 7) hx hb hts inlX1 hown hK.1 hP 0 rfl rfl 1 (by decide) (hts _ wd35) (fun _ h9 => h9) rfl dX1_endThrow_14 ?_
    refine lv_iconst (v := 2) hx hb dX1_endThrow_17 (by decide) ?_
    refine za_ld hx hb hK.1 hP 1 0 rfl rfl 2 rfl (by decide) (by decide) dX1_endThrow_18 ?_
    refine lv_icmp_gt (tgt := 26) hx hb dX1_endThrow_19 (by decide) (fun c_201 => ?_) (fun c_201 => ?_)
    · refine lv_iconst (v := 0) hx hb dX1_endThrow_26 (by decide) ?_
      refine lv_istore_n (lv' := [(1, .int 0), (0, .ref qg)]) hx hb dX1_endThrow_27 rfl hl (by decide) rfl (fun ls hl => ?_)
      refine lv_aload_n hx hb dX1_endThrow_28 rfl (lv_at hl 1 rfl) ?_
      refine lv_bipush (v := (-6)) hx hb dX1_endThrow_29 (by decide) ?_
      refine va_put (D := G) (ci := 1) (v := .int (-6)) (ty := .int) (C := RX1) (T := TX1) (N := 7) hx hb hts inlX1 tyX1 tyX1_ok nmX1 hown hK.1 hP hD hS 0 rfl rfl 4 (by decide) (hts _ wd38) (fun _ h9 => h9) rfl (by decide +kernel) rfl rfl (Nat.le_of_ble_eq_true rfl) dX1_endThrow_31 (fun H202 locs202 hP hD hS => ?_)
      have hP : va_P G vwCl [(qg, .inr (1, [.ref qb, .ref qt, .int x, .int (nI pl), .int (-6), .int tu, .int ca])), (qt, .inl (cI, 3, .inl se)), (qb, .inr (0, [.ref qp, .ref qs, .ref qr, .ref qf, .int fl])), (qp, .inl (cI, 12, .inl pr)), (qs, .inl (cI, 12, .inl sb)), (qr, .inl (cI, 4, .inl br)), (qf, .inl (cI, 4, .inl fe))] H202 := hP
      have hD : va_D A [(qg, .inr (1, [.ref qb, .ref qt, .int x, .int (nI pl), .int (-6), .int tu, .int ca])), (qt, .inl (cI, 3, .inl se)), (qb, .inr (0, [.ref qp, .ref qs, .ref qr, .ref qf, .int fl])), (qp, .inl (cI, 12, .inl pr)), (qs, .inl (cI, 12, .inl sb)), (qr, .inl (cI, 4, .inl br)), (qf, .inl (cI, 4, .inl fe))] := hD
      refine lv_iload_n hx hb dX1_endThrow_34 rfl (lv_at hl 0 rfl) ?_
      refine lv_if_ne (tgt := 49) hx hb dX1_endThrow_35 (by decide) (fun c_203 => ?_) (fun c_203 => ?_)
      · exact absurd c_203 (by decide)
      · refine lv_aload_n hx hb dX1_endThrow_38 rfl (lv_at hl 1 rfl) ?_
        have hPc : va_P G vwCl [(qg, .inr (1, [.ref qb, .ref qt, .int x, .int (nI pl), .int (-6), .int tu, .int ca])), (qt, .inl (cI, 3, .inl se)), (qb, .inr (0, [.ref qp, .ref qs, .ref qr, .ref qf, .int fl])), (qp, .inl (cI, 12, .inl pr)), (qs, .inl (cI, 12, .inl sb)), (qr, .inl (cI, 4, .inl br)), (qf, .inl (cI, 4, .inl fe))] H202 := hP
        have hDc := hD.tt
        refine vp_callSi (va_Run.run (va_runV (As := []) (rest := []) ⟨hx, hb, hml, hown, hts⟩ (c_X1_isOver l G cI cC cZ cG H202.size qg qt qb qp qs qr qf pr sb br fe se fl x pl ((-6)) tu ca) (cf_RX1_115 hts ⟨Nat.le_of_ble_eq_true rfl, Nat.le_of_ble_eq_true rfl⟩) (pre_V hK hPc hDc (ci := 1) (q0 := 0) rfl rfl) rfl rfl hl.1 rfl (lv_room (Nat.le_of_ble_eq_true rfl)) dX1_endThrow_39 ⟨Nat.le_of_ble_eq_true rfl, Nat.le_of_ble_eq_true rfl⟩)) (fun r204 hr204 => ?_)
        subst hr204
        refine zb_ne (tgt := 49) hx hb dX1_endThrow_42 (by decide) (fun c_205 => ?_) (fun c_205 => ?_)
        · exact W.vret hx hb hr (fun t ht hW => ⟨⟨(br, pl, tu, ca), rfl, by rw [et, if_pos (Or.inr c_205)], by rw [ht]; exact hP, hD⟩, hS.F ht⟩) hS.2.2 dX1_endThrow_49
        · refine lv_aload_n hx hb dX1_endThrow_45 rfl (lv_at hl 1 rfl) ?_
          have hPc : va_P G vwCl [(qg, .inr (1, [.ref qb, .ref qt, .int x, .int (nI pl), .int (-6), .int tu, .int ca])), (qt, .inl (cI, 3, .inl se)), (qb, .inr (0, [.ref qp, .ref qs, .ref qr, .ref qf, .int fl])), (qp, .inl (cI, 12, .inl pr)), (qs, .inl (cI, 12, .inl sb)), (qr, .inl (cI, 4, .inl br)), (qf, .inl (cI, 4, .inl fe))] H202 := hP
          have hDc := hD.tt
          have hFc := va_free (wc := [(qg, .inr (1, [.ref qb, .ref qt, .int x, .int (nI pl), .int (-6), .int tu, .int ca])), (qt, .inl (cI, 3, .inl se)), (qb, .inr (0, [.ref qp, .ref qs, .ref qr, .ref qf, .int fl])), (qp, .inl (cI, 12, .inl pr)), (qs, .inl (cI, 12, .inl sb)), (qr, .inl (cI, 4, .inl br)), (qf, .inl (cI, 4, .inl fe))]) hD hS hA [0, 1, 2, 3, 4, 5, 6] rfl
          refine va_callv (va_runV (As := []) (rest := []) ⟨hx, hb, hml, hown, hts⟩ (c_X1_beginTurn l G cI cC cZ cG H202.size qg qt qb qp qs qr qf pr sb br fe se fl x pl ((-6)) tu ca (by omega)) (cf_RX1_119 hts ⟨Nat.le_of_ble_eq_true rfl, Nat.le_of_ble_eq_true rfl⟩) (pre_V hK hPc hDc (ci := 1) (q0 := 0) rfl rfl) rfl rfl hl.1 rfl (lv_room (Nat.le_of_ble_eq_true rfl)) dX1_endThrow_46 ⟨Nat.le_of_ble_eq_true rfl, Nat.le_of_ble_eq_true rfl⟩) hS (fun q _ h => hFc q h) hFc (fun u206 t206 H206 locs206 ht206 hvm206 hw206 hB206 hz206 hk206 hS => ?_)
          obtain ⟨br206, rfl⟩ : ∃ z, z = u206 := ⟨_, rfl⟩
          obtain ⟨hP1, hD1⟩ := hB206
          rw [ht206] at hP1
          try dsimp only at hw206
          obtain ⟨hP, hD⟩ := va_join (wr := []) (w1 := [(qg, .inr (1, [.ref qb, .ref qt, .int x, .int (nI ((pl + 1) % 4)), .int (-6), .int (tu + 1), .int 0])), (qt, .inl (cI, 3, .inl se)), (qb, .inr (0, [.ref qp, .ref qs, .ref qr, .ref qf, .int fl])), (qp, .inl (cI, 12, .inl pr)), (qs, .inl (cI, 12, .inl sb)), (qr, .inl (cI, 4, .inl br206)), (qf, .inl (cI, 4, .inl fe))]) hP hD [0, 1, 2, 3, 4, 5, 6] [] rfl rfl (by decide) (by decide) hk206 hFc hP1 hD1
          have hP : va_P G vwCl [(qg, .inr (1, [.ref qb, .ref qt, .int x, .int (nI ((pl + 1) % 4)), .int (-6), .int (tu + 1), .int 0])), (qt, .inl (cI, 3, .inl se)), (qb, .inr (0, [.ref qp, .ref qs, .ref qr, .ref qf, .int fl])), (qp, .inl (cI, 12, .inl pr)), (qs, .inl (cI, 12, .inl sb)), (qr, .inl (cI, 4, .inl br206)), (qf, .inl (cI, 4, .inl fe))] H206 := hP
          have hD : va_D A [(qg, .inr (1, [.ref qb, .ref qt, .int x, .int (nI ((pl + 1) % 4)), .int (-6), .int (tu + 1), .int 0])), (qt, .inl (cI, 3, .inl se)), (qb, .inr (0, [.ref qp, .ref qs, .ref qr, .ref qf, .int fl])), (qp, .inl (cI, 12, .inl pr)), (qs, .inl (cI, 12, .inl sb)), (qr, .inl (cI, 4, .inl br206)), (qf, .inl (cI, 4, .inl fe))] := hD
          exact W.vret hx hb hr (fun t ht hW => ⟨⟨(br206, (pl + 1) % 4, tu + 1, 0), rfl, by rw [et, if_neg (fun h => h.elim (fun h => h.2 c_201) c_205), hw206], by rw [ht]; exact hP, hD⟩, hS.F ht⟩) hS.2.2 dX1_endThrow_49
    · refine lv_iconst (v := 1) hx hb dX1_endThrow_22 (by decide) ?_
      refine lv_goto (tgt := 27) hx hb dX1_endThrow_23 (by decide) ?_
      refine lv_istore_n (lv' := [(1, .int 1), (0, .ref qg)]) hx hb dX1_endThrow_27 rfl hl (by decide) rfl (fun ls hl => ?_)
      refine lv_aload_n hx hb dX1_endThrow_28 rfl (lv_at hl 1 rfl) ?_
      refine lv_bipush (v := (-6)) hx hb dX1_endThrow_29 (by decide) ?_
      refine va_put (D := G) (ci := 1) (v := .int (-6)) (ty := .int) (C := RX1) (T := TX1) (N := 7) hx hb hts inlX1 tyX1 tyX1_ok nmX1 hown hK.1 hP hD hS 0 rfl rfl 4 (by decide) (hts _ wd38) (fun _ h9 => h9) rfl (by decide +kernel) rfl rfl (Nat.le_of_ble_eq_true rfl) dX1_endThrow_31 (fun H207 locs207 hP hD hS => ?_)
      have hP : va_P G vwCl [(qg, .inr (1, [.ref qb, .ref qt, .int x, .int (nI pl), .int (-6), .int tu, .int ca])), (qt, .inl (cI, 3, .inl se)), (qb, .inr (0, [.ref qp, .ref qs, .ref qr, .ref qf, .int fl])), (qp, .inl (cI, 12, .inl pr)), (qs, .inl (cI, 12, .inl sb)), (qr, .inl (cI, 4, .inl br)), (qf, .inl (cI, 4, .inl fe))] H207 := hP
      have hD : va_D A [(qg, .inr (1, [.ref qb, .ref qt, .int x, .int (nI pl), .int (-6), .int tu, .int ca])), (qt, .inl (cI, 3, .inl se)), (qb, .inr (0, [.ref qp, .ref qs, .ref qr, .ref qf, .int fl])), (qp, .inl (cI, 12, .inl pr)), (qs, .inl (cI, 12, .inl sb)), (qr, .inl (cI, 4, .inl br)), (qf, .inl (cI, 4, .inl fe))] := hD
      refine lv_iload_n hx hb dX1_endThrow_34 rfl (lv_at hl 0 rfl) ?_
      refine lv_if_ne (tgt := 49) hx hb dX1_endThrow_35 (by decide) (fun c_208 => ?_) (fun c_208 => ?_)
      · exact W.vret hx hb hr (fun t ht hW => ⟨⟨(br, pl, tu, ca), rfl, by rw [et, if_pos (Or.inl ⟨c_195, by first | exact c_201 | omega⟩)], by rw [ht]; exact hP, hD⟩, hS.F ht⟩) hS.2.2 dX1_endThrow_49
      · exact absurd c_208 (by decide)

abbrev rm_X1_moveByThrow : Room := { frames := 4, cells := 0, slots := 0, locals := 90 }
theorem cf_RX1_104 {R : Room} {s : State} {args : Array Value} (ht : ∀ w ∈ wsL_law, w.before args s = true) (hN : ∀ w ∈ nestW, va_Nw w s) (hR : rm_X0_sendRivalsBack.frames + 1 ≤ R.frames ∧ 8 + (5 + 11) + rm_X0_sendRivalsBack.locals ≤ R.locals) : va_CN R s args RX1 104 yX0_sendRivalsBack "BridgedPachisi" cX0_sendRivalsBack 5 none (.code yX0_sendRivalsBack cX0_sendRivalsBack 5 none :: wsL_law) rm_X0_sendRivalsBack 0 0 2 ∧ (Cond.instanceMethod yX0_sendRivalsBack).before args s = true ∧ (Cond.selects RX0 yX0_sendRivalsBack yX0_sendRivalsBack).before args s = true := ⟨cw_N 2 ht hN nw60 wd33 wd303 (by decide +kernel) rfl rfl hR, ht _ wd301, ht _ wd302⟩
theorem cf_RX1_108 {R : Room} {s : State} {args : Array Value} (ht : ∀ w ∈ wsL_law, w.before args s = true) (hN : ∀ w ∈ nestW, va_Nw w s) (hR : rm_X0_place.frames + 1 ≤ R.frames ∧ 8 + (4 + 11) + rm_X0_place.locals ≤ R.locals) : va_CN R s args RX1 108 yX0_place "BridgedPachisi" cX0_place 4 none (.code yX0_place cX0_place 4 none :: wsL_law) rm_X0_place 0 0 3 ∧ (Cond.instanceMethod yX0_place).before args s = true ∧ (Cond.selects RX0 yX0_place yX0_place).before args s = true := ⟨cw_N 3 ht hN nw61 wd33 wd306 (by decide +kernel) rfl rfl hR, ht _ wd304, ht _ wd305⟩
theorem cf_RX1_112 {R : Room} {s : State} {args : Array Value} (ht : ∀ w ∈ wsL_law, w.before args s = true) (hR : rm_X1_endThrow.frames + 1 ≤ R.frames ∧ 8 + (2 + 11) + rm_X1_endThrow.locals ≤ R.locals) : CallW R s args RX1 RX1 112 yX1_endThrow cX1_endThrow 2 none (.code yX1_endThrow cX1_endThrow 2 none :: wsL_law) rm_X1_endThrow 0 0 0 := ⟨cw_B 0 ht wd286 wd12 wd289 (by decide +kernel) rfl rfl hR, ht _ wd287, ht _ wd288⟩
set_option maxHeartbeats 1000000 in
set_option maxRecDepth 100000 in
theorem c_X1_moveByThrow (l : Launch) (G : va_G) (cI cC cZ cG : ClassId) (sz : Nat) (qg qt qb qp qs qr qf : Nat) (pr sb br fe se : IA) (fl x : Int32) (pl cn : Nat) (tu ca : Int32) (k : Nat) (hpr : ∀ k, k < 12 → okv (pr k)) (hk : k < 12) (hc : cn ≤ 6) (hpl : pl < 4) : Met l yX1_moveByThrow (.code yX1_moveByThrow cX1_moveByThrow 3 (some .int) :: wsL_law) rm_X1_moveByThrow (va_Pc [.ref qg, .int (nI k)] (bw G cI cC cZ cG false sz [(qg, .inr (1, [.ref qb, .ref qt, .int x, .int (nI pl), .int (nI cn), .int tu, .int ca])), (qt, .inl (cI, 3, .inl se)), (qb, .inr (0, [.ref qp, .ref qs, .ref qr, .ref qf, .int fl])), (qp, .inl (cI, 12, .inl pr)), (qs, .inl (cI, 12, .inl sb)), (qr, .inl (cI, 4, .inl br)), (qf, .inl (cI, 4, .inl fe))])) (va_Qi (fun (r : Int32) (u : GS) => r = tgt br pl (pr k) cn ∧ u = mvS se k cn (nI cn) pr sb br fe fl x pl tu ca) (fun (u : GS) t => va_P G vwCl [(qg, .inr (1, [.ref qb, .ref qt, .int u.2.2.2.2.2.1, .int (nI u.2.2.2.2.2.2.1), .int u.2.2.2.2.2.2.2.1, .int u.2.2.2.2.2.2.2.2.1, .int u.2.2.2.2.2.2.2.2.2])), (qt, .inl (cI, 3, .inl se)), (qb, .inr (0, [.ref qp, .ref qs, .ref qr, .ref qf, .int u.2.2.2.2.1])), (qp, .inl (cI, 12, .inl u.1)), (qs, .inl (cI, 12, .inl u.2.1)), (qr, .inl (cI, 4, .inl u.2.2.1)), (qf, .inl (cI, 4, .inl u.2.2.2.1))] t.heap ∧ va_D (va_A [(qg, .inr (1, [.ref qb, .ref qt, .int x, .int (nI pl), .int (nI cn), .int tu, .int ca])), (qt, .inl (cI, 3, .inl se)), (qb, .inr (0, [.ref qp, .ref qs, .ref qr, .ref qf, .int fl])), (qp, .inl (cI, 12, .inl pr)), (qs, .inl (cI, 12, .inl sb)), (qr, .inl (cI, 4, .inl br)), (qf, .inl (cI, 4, .inl fe))] sz) [(qg, .inr (1, [.ref qb, .ref qt, .int u.2.2.2.2.2.1, .int (nI u.2.2.2.2.2.2.1), .int u.2.2.2.2.2.2.2.1, .int u.2.2.2.2.2.2.2.2.1, .int u.2.2.2.2.2.2.2.2.2])), (qt, .inl (cI, 3, .inl se)), (qb, .inr (0, [.ref qp, .ref qs, .ref qr, .ref qf, .int u.2.2.2.2.1])), (qp, .inl (cI, 12, .inl u.1)), (qs, .inl (cI, 12, .inl u.2.1)), (qr, .inl (cI, 4, .inl u.2.2.1)), (qf, .inl (cI, 4, .inl u.2.2.2.1))]) (va_A [(qg, .inr (1, [.ref qb, .ref qt, .int x, .int (nI pl), .int (nI cn), .int tu, .int ca])), (qt, .inl (cI, 3, .inl se)), (qb, .inr (0, [.ref qp, .ref qs, .ref qr, .ref qf, .int fl])), (qp, .inl (cI, 12, .inl pr)), (qs, .inl (cI, 12, .inl sb)), (qr, .inl (cI, 4, .inl br)), (qf, .inl (cI, 4, .inl fe))] sz)) 0 0 (va_A [(qg, .inr (1, [.ref qb, .ref qt, .int x, .int (nI pl), .int (nI cn), .int tu, .int ca])), (qt, .inl (cI, 3, .inl se)), (qb, .inr (0, [.ref qp, .ref qs, .ref qr, .ref qf, .int fl])), (qp, .inl (cI, 12, .inl pr)), (qs, .inl (cI, 12, .inl sb)), (qr, .inl (cI, 4, .inl br)), (qf, .inl (cI, 4, .inl fe))] sz) := by
  refine met_bw rfl (Nat.le_of_ble_eq_true rfl) ?_
  intro p e s m below meth c ls hx hb hr hml hown hts hlocks hin hsz hP hK hD0 hX0 hl
  have hown : s.vm.findClass RX1 = some m.cls := hown
  have hl : lv_has ls 3 [(0, .ref qg), (1, .int (nI k))] := hl
  subst hsz
  have hD := hD0.self (sz := s.heap.size)
  generalize hAe : va_A [(qg, .inr (1, [.ref qb, .ref qt, .int x, .int (nI pl), .int (nI cn), .int tu, .int ca])), (qt, .inl (cI, 3, .inl se)), (qb, .inr (0, [.ref qp, .ref qs, .ref qr, .ref qf, .int fl])), (qp, .inl (cI, 12, .inl pr)), (qs, .inl (cI, 12, .inl sb)), (qr, .inl (cI, 4, .inl br)), (qf, .inl (cI, 4, .inl fe))] s.heap.size = A at hD ⊢
  have hA : ∀ q : Nat, s.heap.size ≤ q → A q := fun q h => by rw [← hAe]; exact Or.inr h
  have hS : va_S A s.heap s.heap [] := va_S.rf
  refine lv_aload_n hx hb dX1_moveByThrow_0 rfl (lv_at hl 0 rfl) ?_
  refine va_get (D := G) (ci := 1) (v := .ref qb) (C := RX1) (T := TX1) (N := 7) hx hb hts inlX1 hown hK.1 hP 0 rfl rfl 0 (by decide) (hts _ wd34) (fun _ h9 => h9) rfl dX1_moveByThrow_1 ?_
  refine lv_aload_n hx hb dX1_moveByThrow_4 rfl (lv_at hl 0 rfl) ?_
  refine va_get (D := G) (ci := 1) (v := .int (nI pl)) (C := RX1) (T := TX1) (N := 7) hx hb hts inlX1 hown hK.1 hP 0 rfl rfl 3 (by decide) (hts _ wd37) (fun _ h9 => h9) rfl dX1_moveByThrow_5 ?_
  refine lv_aload_n hx hb dX1_moveByThrow_8 rfl (lv_at hl 0 rfl) ?_
  refine va_get (D := G) (ci := 1) (v := .ref qb) (C := RX1) (T := TX1) (N := 7) hx hb hts inlX1 hown hK.1 hP 0 rfl rfl 0 (by decide) (hts _ wd34) (fun _ h9 => h9) rfl dX1_moveByThrow_9 ?_
  refine va_getN (D := G) (ci := 0) (v := .ref qp) (C := RX0) (T := TX0) (N := 5) hx hb hts inlX0 hown hK.1 hP 2 rfl rfl 0 (by decide) (va_Nw.use rfl (hK.2 _ nw2)) (fun _ h9 => h9) rfl dX1_moveByThrow_12 ?_
  refine lv_iload_n hx hb dX1_moveByThrow_15 rfl (lv_at hl 1 rfl) ?_
  refine za_ld hx hb hK.1 hP 3 0 rfl rfl k rfl (by omega) (by decide) dX1_moveByThrow_16 ?_
  refine lv_aload_n hx hb dX1_moveByThrow_17 rfl (lv_at hl 0 rfl) ?_
  refine va_get (D := G) (ci := 1) (v := .int (nI cn)) (C := RX1) (T := TX1) (N := 7) hx hb hts inlX1 hown hK.1 hP 0 rfl rfl 4 (by decide) (hts _ wd38) (fun _ h9 => h9) rfl dX1_moveByThrow_18 ?_
  have hPc := hP.sub (ws' := [(qb, .inr (0, [.ref qp, .ref qs, .ref qr, .ref qf, .int fl])), (qp, .inl (cI, 12, .inl pr)), (qs, .inl (cI, 12, .inl sb)), (qr, .inl (cI, 4, .inl br)), (qf, .inl (cI, 4, .inl fe))]) [2, 3, 4, 5, 6] rfl
  have hDc := (hD.sub (ws' := [(qb, .inr (0, [.ref qp, .ref qs, .ref qr, .ref qf, .int fl])), (qp, .inl (cI, 12, .inl pr)), (qs, .inl (cI, 12, .inl sb)), (qr, .inl (cI, 4, .inl br)), (qf, .inl (cI, 4, .inl fe))]) [2, 3, 4, 5, 6] (by decide) rfl).tt
  refine vp_callSi (va_Run.run (va_runVN (As := [.int (nI pl), .int (pr k), .int (nI cn)]) (rest := []) ⟨hx, hb, hml, hown, hts⟩ (c_X0_target l G cI cC cZ cG s.heap.size qb qp qs qr qf pr sb br fe fl pl (pr k) cn (by omega) (hpr k hk) hc) (cf_RX1_58 hts hK.2 ⟨Nat.le_of_ble_eq_true rfl, Nat.le_of_ble_eq_true rfl⟩) (pre_V hK hPc hDc (ci := 0) (q0 := 0) rfl rfl) rfl rfl hl.1 rfl (lv_room (Nat.le_of_ble_eq_true rfl)) dX1_moveByThrow_21 ⟨Nat.le_of_ble_eq_true rfl, Nat.le_of_ble_eq_true rfl⟩)) (fun r209 hr209 => ?_)
  subst hr209
  refine lv_istore_n (lv' := [(2, .int (tgt br pl (pr k) cn)), (0, .ref qg), (1, .int (nI k))]) hx hb dX1_moveByThrow_24 rfl hl (by decide) rfl (fun ls hl => ?_)
  refine lv_aload_n hx hb dX1_moveByThrow_25 rfl (lv_at hl 1 rfl) ?_
  refine va_get (D := G) (ci := 1) (v := .ref qb) (C := RX1) (T := TX1) (N := 7) hx hb hts inlX1 hown hK.1 hP 0 rfl rfl 0 (by decide) (hts _ wd34) (fun _ h9 => h9) rfl dX1_moveByThrow_26 ?_
  refine lv_aload_n hx hb dX1_moveByThrow_29 rfl (lv_at hl 1 rfl) ?_
  refine va_get (D := G) (ci := 1) (v := .int (nI pl)) (C := RX1) (T := TX1) (N := 7) hx hb hts inlX1 hown hK.1 hP 0 rfl rfl 3 (by decide) (hts _ wd37) (fun _ h9 => h9) rfl dX1_moveByThrow_30 ?_
  refine lv_iload_n hx hb dX1_moveByThrow_33 rfl (lv_at hl 0 rfl) ?_
  have hPc := hP.sub (ws' := [(qb, .inr (0, [.ref qp, .ref qs, .ref qr, .ref qf, .int fl])), (qp, .inl (cI, 12, .inl pr)), (qs, .inl (cI, 12, .inl sb)), (qr, .inl (cI, 4, .inl br)), (qf, .inl (cI, 4, .inl fe))]) [2, 3, 4, 5, 6] rfl
  have hDc := (hD.sub (ws' := [(qb, .inr (0, [.ref qp, .ref qs, .ref qr, .ref qf, .int fl])), (qp, .inl (cI, 12, .inl pr)), (qs, .inl (cI, 12, .inl sb)), (qr, .inl (cI, 4, .inl br)), (qf, .inl (cI, 4, .inl fe))]) [2, 3, 4, 5, 6] (by decide) rfl).tt
  have hFc := va_free (wc := [(qb, .inr (0, [.ref qp, .ref qs, .ref qr, .ref qf, .int fl])), (qp, .inl (cI, 12, .inl pr)), (qs, .inl (cI, 12, .inl sb)), (qr, .inl (cI, 4, .inl br)), (qf, .inl (cI, 4, .inl fe))]) hD hS hA [2, 3, 4, 5, 6] rfl
  refine va_callv (va_runVN (As := [.int (nI pl), .int (tgt br pl (pr k) cn)]) (rest := []) ⟨hx, hb, hml, hown, hts⟩ (c_X0_sendRivalsBack l G cI cC cZ cG s.heap.size qb qp qs qr qf pr sb br fe fl pl (tgt br pl (pr k) cn) (by omega)) (cf_RX1_104 hts hK.2 ⟨Nat.le_of_ble_eq_true rfl, Nat.le_of_ble_eq_true rfl⟩) (pre_V hK hPc hDc (ci := 0) (q0 := 0) rfl rfl) rfl rfl hl.1 rfl (lv_room (Nat.le_of_ble_eq_true rfl)) dX1_moveByThrow_34 ⟨Nat.le_of_ble_eq_true rfl, Nat.le_of_ble_eq_true rfl⟩) hS (fun q _ h => hFc q h) hFc (fun u210 t210 H210 locs210 ht210 hvm210 hw210 hB210 hz210 hk210 hS => ?_)
  obtain ⟨pr210, sb210⟩ := u210
  obtain ⟨hP1, hD1⟩ := hB210
  rw [ht210] at hP1
  try dsimp only at hw210
  obtain ⟨hP, hD⟩ := va_join (wr := [(qg, .inr (1, [.ref qb, .ref qt, .int x, .int (nI pl), .int (nI cn), .int tu, .int ca])), (qt, .inl (cI, 3, .inl se))]) (w1 := [(qb, .inr (0, [.ref qp, .ref qs, .ref qr, .ref qf, .int fl])), (qp, .inl (cI, 12, .inl pr210)), (qs, .inl (cI, 12, .inl sb210)), (qr, .inl (cI, 4, .inl br)), (qf, .inl (cI, 4, .inl fe))]) hP hD [2, 3, 4, 5, 6] [0, 1] rfl rfl (by decide) (by decide) hk210 hFc hP1 hD1
  have hP : va_P G vwCl [(qg, .inr (1, [.ref qb, .ref qt, .int x, .int (nI pl), .int (nI cn), .int tu, .int ca])), (qt, .inl (cI, 3, .inl se)), (qb, .inr (0, [.ref qp, .ref qs, .ref qr, .ref qf, .int fl])), (qp, .inl (cI, 12, .inl pr210)), (qs, .inl (cI, 12, .inl sb210)), (qr, .inl (cI, 4, .inl br)), (qf, .inl (cI, 4, .inl fe))] H210 := hP
  have hD : va_D A [(qg, .inr (1, [.ref qb, .ref qt, .int x, .int (nI pl), .int (nI cn), .int tu, .int ca])), (qt, .inl (cI, 3, .inl se)), (qb, .inr (0, [.ref qp, .ref qs, .ref qr, .ref qf, .int fl])), (qp, .inl (cI, 12, .inl pr210)), (qs, .inl (cI, 12, .inl sb210)), (qr, .inl (cI, 4, .inl br)), (qf, .inl (cI, 4, .inl fe))] := hD
  refine lv_aload_n hx hb dX1_moveByThrow_37 rfl (lv_at hl 1 rfl) ?_
  refine va_get (D := G) (ci := 1) (v := .ref qb) (C := RX1) (T := TX1) (N := 7) hx hb hts inlX1 hown hK.1 hP 0 rfl rfl 0 (by decide) (hts _ wd34) (fun _ h9 => h9) rfl dX1_moveByThrow_38 ?_
  refine lv_iload_n hx hb dX1_moveByThrow_41 rfl (lv_at hl 2 rfl) ?_
  refine lv_iload_n hx hb dX1_moveByThrow_42 rfl (lv_at hl 0 rfl) ?_
  refine lv_aload_n hx hb dX1_moveByThrow_43 rfl (lv_at hl 1 rfl) ?_
  refine va_get (D := G) (ci := 1) (v := .int tu) (C := RX1) (T := TX1) (N := 7) hx hb hts inlX1 hown hK.1 hP 0 rfl rfl 5 (by decide) (hts _ wd39) (fun _ h9 => h9) rfl dX1_moveByThrow_44 ?_
  have hPc := hP.sub (ws' := [(qb, .inr (0, [.ref qp, .ref qs, .ref qr, .ref qf, .int fl])), (qp, .inl (cI, 12, .inl pr210)), (qs, .inl (cI, 12, .inl sb210)), (qr, .inl (cI, 4, .inl br)), (qf, .inl (cI, 4, .inl fe))]) [2, 3, 4, 5, 6] rfl
  have hDc := (hD.sub (ws' := [(qb, .inr (0, [.ref qp, .ref qs, .ref qr, .ref qf, .int fl])), (qp, .inl (cI, 12, .inl pr210)), (qs, .inl (cI, 12, .inl sb210)), (qr, .inl (cI, 4, .inl br)), (qf, .inl (cI, 4, .inl fe))]) [2, 3, 4, 5, 6] (by decide) rfl).tt
  have hFc := va_free (wc := [(qb, .inr (0, [.ref qp, .ref qs, .ref qr, .ref qf, .int fl])), (qp, .inl (cI, 12, .inl pr210)), (qs, .inl (cI, 12, .inl sb210)), (qr, .inl (cI, 4, .inl br)), (qf, .inl (cI, 4, .inl fe))]) hD hS hA [2, 3, 4, 5, 6] rfl
  refine va_callv (va_runVN (As := [.int (nI k), .int (tgt br pl (pr k) cn), .int tu]) (rest := []) ⟨hx, hb, hml, hown, hts⟩ (c_X0_place l G cI cC cZ cG H210.size qb qp qs qr qf pr210 sb210 br fe fl k (tgt br pl (pr k) cn) tu (by omega)) (cf_RX1_108 hts hK.2 ⟨Nat.le_of_ble_eq_true rfl, Nat.le_of_ble_eq_true rfl⟩) (pre_V hK hPc hDc (ci := 0) (q0 := 0) rfl rfl) rfl rfl hl.1 rfl (lv_room (Nat.le_of_ble_eq_true rfl)) dX1_moveByThrow_47 ⟨Nat.le_of_ble_eq_true rfl, Nat.le_of_ble_eq_true rfl⟩) hS (fun q _ h => hFc q h) hFc (fun u211 t211 H211 locs211 ht211 hvm211 hw211 hB211 hz211 hk211 hS => ?_)
  obtain ⟨br211, fe211, fl211⟩ := u211
  obtain ⟨hP1, hD1⟩ := hB211
  rw [ht211] at hP1
  try dsimp only at hw211
  obtain ⟨hP, hD⟩ := va_join (wr := [(qg, .inr (1, [.ref qb, .ref qt, .int x, .int (nI pl), .int (nI cn), .int tu, .int ca])), (qt, .inl (cI, 3, .inl se))]) (w1 := [(qb, .inr (0, [.ref qp, .ref qs, .ref qr, .ref qf, .int fl211])), (qp, .inl (cI, 12, .inl (upd pr210 k (tgt br pl (pr k) cn)))), (qs, .inl (cI, 12, .inl sb210)), (qr, .inl (cI, 4, .inl br211)), (qf, .inl (cI, 4, .inl fe211))]) hP hD [2, 3, 4, 5, 6] [0, 1] rfl rfl (by decide) (by decide) hk211 hFc hP1 hD1
  have hP : va_P G vwCl [(qg, .inr (1, [.ref qb, .ref qt, .int x, .int (nI pl), .int (nI cn), .int tu, .int ca])), (qt, .inl (cI, 3, .inl se)), (qb, .inr (0, [.ref qp, .ref qs, .ref qr, .ref qf, .int fl211])), (qp, .inl (cI, 12, .inl (upd pr210 k (tgt br pl (pr k) cn)))), (qs, .inl (cI, 12, .inl sb210)), (qr, .inl (cI, 4, .inl br211)), (qf, .inl (cI, 4, .inl fe211))] H211 := hP
  have hD : va_D A [(qg, .inr (1, [.ref qb, .ref qt, .int x, .int (nI pl), .int (nI cn), .int tu, .int ca])), (qt, .inl (cI, 3, .inl se)), (qb, .inr (0, [.ref qp, .ref qs, .ref qr, .ref qf, .int fl211])), (qp, .inl (cI, 12, .inl (upd pr210 k (tgt br pl (pr k) cn)))), (qs, .inl (cI, 12, .inl sb210)), (qr, .inl (cI, 4, .inl br211)), (qf, .inl (cI, 4, .inl fe211))] := hD
  refine lv_aload_n hx hb dX1_moveByThrow_50 rfl (lv_at hl 1 rfl) ?_
  have hPc : va_P G vwCl [(qg, .inr (1, [.ref qb, .ref qt, .int x, .int (nI pl), .int (nI cn), .int tu, .int ca])), (qt, .inl (cI, 3, .inl se)), (qb, .inr (0, [.ref qp, .ref qs, .ref qr, .ref qf, .int fl211])), (qp, .inl (cI, 12, .inl (upd pr210 k (tgt br pl (pr k) cn)))), (qs, .inl (cI, 12, .inl sb210)), (qr, .inl (cI, 4, .inl br211)), (qf, .inl (cI, 4, .inl fe211))] H211 := hP
  have hDc := hD.tt
  have hFc := va_free (wc := [(qg, .inr (1, [.ref qb, .ref qt, .int x, .int (nI pl), .int (nI cn), .int tu, .int ca])), (qt, .inl (cI, 3, .inl se)), (qb, .inr (0, [.ref qp, .ref qs, .ref qr, .ref qf, .int fl211])), (qp, .inl (cI, 12, .inl (upd pr210 k (tgt br pl (pr k) cn)))), (qs, .inl (cI, 12, .inl sb210)), (qr, .inl (cI, 4, .inl br211)), (qf, .inl (cI, 4, .inl fe211))]) hD hS hA [0, 1, 2, 3, 4, 5, 6] rfl
  refine va_callv (va_runV (As := []) (rest := []) ⟨hx, hb, hml, hown, hts⟩ (c_X1_endThrow l G cI cC cZ cG H211.size qg qt qb qp qs qr qf (upd pr210 k (tgt br pl (pr k) cn)) sb210 br211 fe211 se fl211 x pl (nI cn) tu ca (by omega)) (cf_RX1_112 hts ⟨Nat.le_of_ble_eq_true rfl, Nat.le_of_ble_eq_true rfl⟩) (pre_V hK hPc hDc (ci := 1) (q0 := 0) rfl rfl) rfl rfl hl.1 rfl (lv_room (Nat.le_of_ble_eq_true rfl)) dX1_moveByThrow_51 ⟨Nat.le_of_ble_eq_true rfl, Nat.le_of_ble_eq_true rfl⟩) hS (fun q _ h => hFc q h) hFc (fun u212 t212 H212 locs212 ht212 hvm212 hw212 hB212 hz212 hk212 hS => ?_)
  obtain ⟨br212, pl212, tu212, ca212⟩ := u212
  obtain ⟨hP1, hD1⟩ := hB212
  rw [ht212] at hP1
  try dsimp only at hw212
  obtain ⟨hP, hD⟩ := va_join (wr := []) (w1 := [(qg, .inr (1, [.ref qb, .ref qt, .int x, .int (nI pl212), .int (-6), .int tu212, .int ca212])), (qt, .inl (cI, 3, .inl se)), (qb, .inr (0, [.ref qp, .ref qs, .ref qr, .ref qf, .int fl211])), (qp, .inl (cI, 12, .inl (upd pr210 k (tgt br pl (pr k) cn)))), (qs, .inl (cI, 12, .inl sb210)), (qr, .inl (cI, 4, .inl br212)), (qf, .inl (cI, 4, .inl fe211))]) hP hD [0, 1, 2, 3, 4, 5, 6] [] rfl rfl (by decide) (by decide) hk212 hFc hP1 hD1
  have hP : va_P G vwCl [(qg, .inr (1, [.ref qb, .ref qt, .int x, .int (nI pl212), .int (-6), .int tu212, .int ca212])), (qt, .inl (cI, 3, .inl se)), (qb, .inr (0, [.ref qp, .ref qs, .ref qr, .ref qf, .int fl211])), (qp, .inl (cI, 12, .inl (upd pr210 k (tgt br pl (pr k) cn)))), (qs, .inl (cI, 12, .inl sb210)), (qr, .inl (cI, 4, .inl br212)), (qf, .inl (cI, 4, .inl fe211))] H212 := hP
  have hD : va_D A [(qg, .inr (1, [.ref qb, .ref qt, .int x, .int (nI pl212), .int (-6), .int tu212, .int ca212])), (qt, .inl (cI, 3, .inl se)), (qb, .inr (0, [.ref qp, .ref qs, .ref qr, .ref qf, .int fl211])), (qp, .inl (cI, 12, .inl (upd pr210 k (tgt br pl (pr k) cn)))), (qs, .inl (cI, 12, .inl sb210)), (qr, .inl (cI, 4, .inl br212)), (qf, .inl (cI, 4, .inl fe211))] := hD
  refine lv_iload_n hx hb dX1_moveByThrow_54 rfl (lv_at hl 0 rfl) ?_
  exact W.iret (v := tgt br pl (pr k) cn) hx hb hr (fun t ht hW => ⟨⟨tgt br pl (pr k) cn, ((upd pr210 k (tgt br pl (pr k) cn)), sb210, br212, fe211, fl211, x, pl212, (-6), tu212, ca212), rfl, ⟨rfl, (mv_eq hw210 hw211 hw212)⟩, by rw [ht]; exact hP, hD⟩, hS.F ht⟩) hS.2.2 dX1_moveByThrow_55

abbrev rm_X1_playOn : Room := { frames := 5, cells := 0, slots := 0, locals := 120 }
theorem cf_RX1_125 {R : Room} {s : State} {args : Array Value} (ht : ∀ w ∈ wsL_law, w.before args s = true) (hR : rm_X1_throwByX.frames + 1 ≤ R.frames ∧ 8 + (1 + 11) + rm_X1_throwByX.locals ≤ R.locals) : CallW R s args RX1 RX1 125 yX1_throwByX cX1_throwByX 1 none (.code yX1_throwByX cX1_throwByX 1 none :: wsL_law) rm_X1_throwByX 0 0 0 := ⟨cw_B 0 ht wd277 wd12 wd280 (by decide +kernel) rfl rfl hR, ht _ wd278, ht _ wd279⟩
theorem cf_RX1_128 {R : Room} {s : State} {args : Array Value} (ht : ∀ w ∈ wsL_law, w.before args s = true) (hR : rm_X1_bestPiece.frames + 1 ≤ R.frames ∧ 8 + (5 + 11) + rm_X1_bestPiece.locals ≤ R.locals) : CallW R s args RX1 RX1 128 yX1_bestPiece cX1_bestPiece 5 (some .int) (.code yX1_bestPiece cX1_bestPiece 5 (some .int) :: wsL_law) rm_X1_bestPiece 0 0 0 := ⟨cw_B 0 ht wd285 wd12 wd158 (by decide +kernel) rfl rfl hR, ht _ wd156, ht _ wd157⟩
theorem cf_RX1_131 {R : Room} {s : State} {args : Array Value} (ht : ∀ w ∈ wsL_law, w.before args s = true) (hR : rm_X1_moveByThrow.frames + 1 ≤ R.frames ∧ 8 + (3 + 11) + rm_X1_moveByThrow.locals ≤ R.locals) : CallW R s args RX1 RX1 131 yX1_moveByThrow cX1_moveByThrow 3 (some .int) (.code yX1_moveByThrow cX1_moveByThrow 3 (some .int) :: wsL_law) rm_X1_moveByThrow 0 0 1 := ⟨cw_B 1 ht wd297 wd12 wd300 (by decide +kernel) rfl rfl hR, ht _ wd298, ht _ wd299⟩
set_option maxHeartbeats 1000000 in
set_option maxRecDepth 100000 in
theorem c_X1_playOn (l : Launch) (G : va_G) (cI cC cZ cG : ClassId) (sz : Nat) (qg qt qb qp qs qr qf : Nat) (pr sb br fe se : IA) (fl x : Int32) (pl : Nat) (th tu ca : Int32) (mo : Nat) (hpr : ∀ k, k < 12 → okv (pr k)) (hx0 : ¬ x < 0) (hpl : pl < 4) (hmo : mo ≤ 400) : Met l yX1_playOn (.code yX1_playOn cX1_playOn 4 (some .int) :: wsL_law) rm_X1_playOn (va_Pc [.ref qg, .int (nI mo)] (bw G cI cC cZ cG false sz [(qg, .inr (1, [.ref qb, .ref qt, .int x, .int (nI pl), .int th, .int tu, .int ca])), (qt, .inl (cI, 3, .inl se)), (qb, .inr (0, [.ref qp, .ref qs, .ref qr, .ref qf, .int fl])), (qp, .inl (cI, 12, .inl pr)), (qs, .inl (cI, 12, .inl sb)), (qr, .inl (cI, 4, .inl br)), (qf, .inl (cI, 4, .inl fe))])) (va_Qi (fun (r : Int32) (u : GS) => r = nI ((pg se mo (pr, sb, br, fe, fl, x, pl, th, tu, ca)).2) ∧ u = (pg se mo (pr, sb, br, fe, fl, x, pl, th, tu, ca)).1) (fun (u : GS) t => va_P G vwCl [(qg, .inr (1, [.ref qb, .ref qt, .int u.2.2.2.2.2.1, .int (nI u.2.2.2.2.2.2.1), .int u.2.2.2.2.2.2.2.1, .int u.2.2.2.2.2.2.2.2.1, .int u.2.2.2.2.2.2.2.2.2])), (qt, .inl (cI, 3, .inl se)), (qb, .inr (0, [.ref qp, .ref qs, .ref qr, .ref qf, .int u.2.2.2.2.1])), (qp, .inl (cI, 12, .inl u.1)), (qs, .inl (cI, 12, .inl u.2.1)), (qr, .inl (cI, 4, .inl u.2.2.1)), (qf, .inl (cI, 4, .inl u.2.2.2.1))] t.heap ∧ va_D (va_A [(qg, .inr (1, [.ref qb, .ref qt, .int x, .int (nI pl), .int th, .int tu, .int ca])), (qt, .inl (cI, 3, .inl se)), (qb, .inr (0, [.ref qp, .ref qs, .ref qr, .ref qf, .int fl])), (qp, .inl (cI, 12, .inl pr)), (qs, .inl (cI, 12, .inl sb)), (qr, .inl (cI, 4, .inl br)), (qf, .inl (cI, 4, .inl fe))] sz) [(qg, .inr (1, [.ref qb, .ref qt, .int u.2.2.2.2.2.1, .int (nI u.2.2.2.2.2.2.1), .int u.2.2.2.2.2.2.2.1, .int u.2.2.2.2.2.2.2.2.1, .int u.2.2.2.2.2.2.2.2.2])), (qt, .inl (cI, 3, .inl se)), (qb, .inr (0, [.ref qp, .ref qs, .ref qr, .ref qf, .int u.2.2.2.2.1])), (qp, .inl (cI, 12, .inl u.1)), (qs, .inl (cI, 12, .inl u.2.1)), (qr, .inl (cI, 4, .inl u.2.2.1)), (qf, .inl (cI, 4, .inl u.2.2.2.1))]) (va_A [(qg, .inr (1, [.ref qb, .ref qt, .int x, .int (nI pl), .int th, .int tu, .int ca])), (qt, .inl (cI, 3, .inl se)), (qb, .inr (0, [.ref qp, .ref qs, .ref qr, .ref qf, .int fl])), (qp, .inl (cI, 12, .inl pr)), (qs, .inl (cI, 12, .inl sb)), (qr, .inl (cI, 4, .inl br)), (qf, .inl (cI, 4, .inl fe))] sz)) 0 0 (va_A [(qg, .inr (1, [.ref qb, .ref qt, .int x, .int (nI pl), .int th, .int tu, .int ca])), (qt, .inl (cI, 3, .inl se)), (qb, .inr (0, [.ref qp, .ref qs, .ref qr, .ref qf, .int fl])), (qp, .inl (cI, 12, .inl pr)), (qs, .inl (cI, 12, .inl sb)), (qr, .inl (cI, 4, .inl br)), (qf, .inl (cI, 4, .inl fe))] sz) := by
  refine met_bw rfl (Nat.le_of_ble_eq_true rfl) ?_
  intro p e s m below meth c ls hx hb hr hml hown hts hlocks hin hsz hP hK hD0 hX0 hl
  have hown : s.vm.findClass RX1 = some m.cls := hown
  have hl : lv_has ls 4 [(0, .ref qg), (1, .int (nI mo))] := hl
  subst hsz
  have hD := hD0.self (sz := s.heap.size)
  generalize hAe : va_A [(qg, .inr (1, [.ref qb, .ref qt, .int x, .int (nI pl), .int th, .int tu, .int ca])), (qt, .inl (cI, 3, .inl se)), (qb, .inr (0, [.ref qp, .ref qs, .ref qr, .ref qf, .int fl])), (qp, .inl (cI, 12, .inl pr)), (qs, .inl (cI, 12, .inl sb)), (qr, .inl (cI, 4, .inl br)), (qf, .inl (cI, 4, .inl fe))] s.heap.size = A at hD ⊢
  have hA : ∀ q : Nat, s.heap.size ≤ q → A q := fun q h => by rw [← hAe]; exact Or.inr h
  have hS : va_S A s.heap s.heap [] := va_S.rf
  generalize hQ : MQ below (va_Qi (fun (r : Int32) (u : GS) => r = nI ((pg se mo (pr, sb, br, fe, fl, x, pl, th, tu, ca)).2) ∧ u = (pg se mo (pr, sb, br, fe, fl, x, pl, th, tu, ca)).1) (fun (u : GS) t => va_P G vwCl [(qg, .inr (1, [.ref qb, .ref qt, .int u.2.2.2.2.2.1, .int (nI u.2.2.2.2.2.2.1), .int u.2.2.2.2.2.2.2.1, .int u.2.2.2.2.2.2.2.2.1, .int u.2.2.2.2.2.2.2.2.2])), (qt, .inl (cI, 3, .inl se)), (qb, .inr (0, [.ref qp, .ref qs, .ref qr, .ref qf, .int u.2.2.2.2.1])), (qp, .inl (cI, 12, .inl u.1)), (qs, .inl (cI, 12, .inl u.2.1)), (qr, .inl (cI, 4, .inl u.2.2.1)), (qf, .inl (cI, 4, .inl u.2.2.2.1))] t.heap ∧ va_D A [(qg, .inr (1, [.ref qb, .ref qt, .int u.2.2.2.2.2.1, .int (nI u.2.2.2.2.2.2.1), .int u.2.2.2.2.2.2.2.1, .int u.2.2.2.2.2.2.2.2.1, .int u.2.2.2.2.2.2.2.2.2])), (qt, .inl (cI, 3, .inl se)), (qb, .inr (0, [.ref qp, .ref qs, .ref qr, .ref qf, .int u.2.2.2.2.1])), (qp, .inl (cI, 12, .inl u.1)), (qs, .inl (cI, 12, .inl u.2.1)), (qr, .inl (cI, 4, .inl u.2.2.1)), (qf, .inl (cI, 4, .inl u.2.2.2.1))]) A) ([.ref qg, .int (nI mo)] : List Value).toArray s 0 0 A = Q
  generalize hag : ([.ref qg, .int (nI mo)] : List Value).toArray = ag at hts hQ ⊢
  refine lv_iconst (v := 0) hx hb dX1_playOn_0 (by decide) ?_
  refine lv_istore_n (lv' := [(2, .int 0), (0, .ref qg), (1, .int (nI mo))]) hx hb dX1_playOn_1 rfl hl (by decide) rfl (fun ls hl => ?_)
  have L1 : ∀ (n : Nat), ∀ (i : Nat), ∀ (vpr : IA), ∀ (vsb : IA), ∀ (vbr : IA), ∀ (vfe : IA), ∀ (vfl : Int32), ∀ (vx : Int32), ∀ (vpl : Nat), ∀ (vth : Int32), ∀ (vtu : Int32), ∀ (vca : Int32), ∀ (hk1 : ∀ k, k < 12 → okv (vpr k)), ∀ (hk2 : ¬ vx < 0), ∀ (hk3 : vpl < 4), ∀ (hi : i ≤ mo), ∀ (hf : pg se mo (pr, sb, br, fe, fl, x, pl, th, tu, ca) = ((pg se (mo - i) (vpr, vsb, vbr, vfe, vfl, vx, vpl, vth, vtu, vca)).1, (pg se (mo - i) (vpr, vsb, vbr, vfe, vfl, vx, vpl, vth, vtu, vca)).2 + i)), ∀ (hn : mo + 1 ≤ i + n), ∀ (H213 : Heap) (locs213 : List Loc), va_P G vwCl [(qg, .inr (1, [.ref qb, .ref qt, .int vx, .int (nI vpl), .int vth, .int vtu, .int vca])), (qt, .inl (cI, 3, .inl se)), (qb, .inr (0, [.ref qp, .ref qs, .ref qr, .ref qf, .int vfl])), (qp, .inl (cI, 12, .inl vpr)), (qs, .inl (cI, 12, .inl vsb)), (qr, .inl (cI, 4, .inl vbr)), (qf, .inl (cI, 4, .inl vfe))] H213 → va_D A [(qg, .inr (1, [.ref qb, .ref qt, .int vx, .int (nI vpl), .int vth, .int vtu, .int vca])), (qt, .inl (cI, 3, .inl se)), (qb, .inr (0, [.ref qp, .ref qs, .ref qr, .ref qf, .int vfl])), (qp, .inl (cI, 12, .inl vpr)), (qs, .inl (cI, 12, .inl vsb)), (qr, .inl (cI, 4, .inl vbr)), (qf, .inl (cI, 4, .inl vfe))] → va_S A s.heap H213 locs213 → ∀ (ls : Array Slot), lv_has ls 4 [(2, .int (nI i)), (0, .ref qg), (1, .int (nI mo))] → W p l e rm_X1_playOn s m ag below meth c H213 locs213 0 0 Q (F0 m 2 ls []) := by
    intro n
    induction n with
    | zero =>
      intro i vpr vsb vbr vfe vfl vx vpl vth vtu vca hk1 hk2 hk3 hi hf hn H213 locs213 hP hD hS ls hl
      omega
    | succ n ih1 =>
      intro i vpr vsb vbr vfe vfl vx vpl vth vtu vca hk1 hk2 hk3 hi hf hn H213 locs213 hP hD hS ls hl
      refine lv_iload_n hx hb dX1_playOn_2 rfl (lv_at hl 0 rfl) ?_
      refine lv_iload_n hx hb dX1_playOn_3 rfl (lv_at hl 2 rfl) ?_
      refine zi_ge (tgt := 48) hx hb i mo dX1_playOn_4 (by decide) rfl rfl (by omega) (by omega) (fun c_214 => ?_) (fun c_214 => ?_)
      · refine lv_iload_n hx hb dX1_playOn_48 rfl (lv_at hl 0 rfl) ?_
        subst hQ
        exact W.iret (v := nI i) hx hb hr (fun t ht hW => ⟨⟨nI i, (vpr, vsb, vbr, vfe, vfl, vx, vpl, vth, vtu, vca), rfl, ⟨(by rw [pg_end (g := (vpr, vsb, vbr, vfe, vfl, vx, vpl, vth, vtu, vca)) (by first | exact Or.inl c_214 | exact Or.inr c_214) hi hf]), (by rw [pg_end (g := (vpr, vsb, vbr, vfe, vfl, vx, vpl, vth, vtu, vca)) (by first | exact Or.inl c_214 | exact Or.inr c_214) hi hf])⟩, by rw [ht]; exact hP, hD⟩, hS.F ht⟩) hS.2.2 dX1_playOn_49
      · refine lv_aload_n hx hb dX1_playOn_7 rfl (lv_at hl 1 rfl) ?_
        have hPc : va_P G vwCl [(qg, .inr (1, [.ref qb, .ref qt, .int vx, .int (nI vpl), .int vth, .int vtu, .int vca])), (qt, .inl (cI, 3, .inl se)), (qb, .inr (0, [.ref qp, .ref qs, .ref qr, .ref qf, .int vfl])), (qp, .inl (cI, 12, .inl vpr)), (qs, .inl (cI, 12, .inl vsb)), (qr, .inl (cI, 4, .inl vbr)), (qf, .inl (cI, 4, .inl vfe))] H213 := hP
        have hDc := hD.tt
        refine vp_callSi (va_Run.run (va_runV (As := []) (rest := []) ⟨hx, hb, hml, hown, hts⟩ (c_X1_isOver l G cI cC cZ cG H213.size qg qt qb qp qs qr qf vpr vsb vbr vfe se vfl vx vpl vth vtu vca) (cf_RX1_115 hts ⟨Nat.le_of_ble_eq_true rfl, Nat.le_of_ble_eq_true rfl⟩) (pre_V hK hPc hDc (ci := 1) (q0 := 0) rfl rfl) rfl rfl hl.1 rfl (lv_room (Nat.le_of_ble_eq_true rfl)) dX1_playOn_8 ⟨Nat.le_of_ble_eq_true rfl, Nat.le_of_ble_eq_true rfl⟩)) (fun r215 hr215 => ?_)
        subst hr215
        refine zb_ne (tgt := 48) hx hb dX1_playOn_11 (by decide) (fun c_216 => ?_) (fun c_216 => ?_)
        · refine lv_iload_n hx hb dX1_playOn_48 rfl (lv_at hl 0 rfl) ?_
          subst hQ
          exact W.iret (v := nI i) hx hb hr (fun t ht hW => ⟨⟨nI i, (vpr, vsb, vbr, vfe, vfl, vx, vpl, vth, vtu, vca), rfl, ⟨(by rw [pg_end (g := (vpr, vsb, vbr, vfe, vfl, vx, vpl, vth, vtu, vca)) (by first | exact Or.inl c_216 | exact Or.inr c_216) hi hf]), (by rw [pg_end (g := (vpr, vsb, vbr, vfe, vfl, vx, vpl, vth, vtu, vca)) (by first | exact Or.inl c_216 | exact Or.inr c_216) hi hf])⟩, by rw [ht]; exact hP, hD⟩, hS.F ht⟩) hS.2.2 dX1_playOn_49
        · refine lv_aload_n hx hb dX1_playOn_14 rfl (lv_at hl 1 rfl) ?_
          have hPc : va_P G vwCl [(qg, .inr (1, [.ref qb, .ref qt, .int vx, .int (nI vpl), .int vth, .int vtu, .int vca])), (qt, .inl (cI, 3, .inl se)), (qb, .inr (0, [.ref qp, .ref qs, .ref qr, .ref qf, .int vfl])), (qp, .inl (cI, 12, .inl vpr)), (qs, .inl (cI, 12, .inl vsb)), (qr, .inl (cI, 4, .inl vbr)), (qf, .inl (cI, 4, .inl vfe))] H213 := hP
          have hDc := hD.tt
          have hFc := va_free (wc := [(qg, .inr (1, [.ref qb, .ref qt, .int vx, .int (nI vpl), .int vth, .int vtu, .int vca])), (qt, .inl (cI, 3, .inl se)), (qb, .inr (0, [.ref qp, .ref qs, .ref qr, .ref qf, .int vfl])), (qp, .inl (cI, 12, .inl vpr)), (qs, .inl (cI, 12, .inl vsb)), (qr, .inl (cI, 4, .inl vbr)), (qf, .inl (cI, 4, .inl vfe))]) hD hS hA [0, 1, 2, 3, 4, 5, 6] rfl
          refine va_callv (va_runV (As := []) (rest := []) ⟨hx, hb, hml, hown, hts⟩ (c_X1_throwByX l G cI cC cZ cG H213.size qg qt qb qp qs qr qf vpr vsb vbr vfe se vfl vx vpl vth vtu vca) (cf_RX1_125 hts ⟨Nat.le_of_ble_eq_true rfl, Nat.le_of_ble_eq_true rfl⟩) (pre_V hK hPc hDc (ci := 1) (q0 := 0) rfl rfl) rfl rfl hl.1 rfl (lv_room (Nat.le_of_ble_eq_true rfl)) dX1_playOn_15 ⟨Nat.le_of_ble_eq_true rfl, Nat.le_of_ble_eq_true rfl⟩) hS (fun q _ h => hFc q h) hFc (fun u217 t217 H217 locs217 ht217 hvm217 hw217 hB217 hz217 hk217 hS => ?_)
          obtain ⟨ca217, rfl⟩ : ∃ z, z = u217 := ⟨_, rfl⟩
          obtain ⟨hP1, hD1⟩ := hB217
          rw [ht217] at hP1
          try dsimp only at hw217
          obtain ⟨hP, hD⟩ := va_join (wr := []) (w1 := [(qg, .inr (1, [.ref qb, .ref qt, .int (nx vx), .int (nI vpl), .int (co (nx vx)), .int vtu, .int ca217])), (qt, .inl (cI, 3, .inl se)), (qb, .inr (0, [.ref qp, .ref qs, .ref qr, .ref qf, .int vfl])), (qp, .inl (cI, 12, .inl vpr)), (qs, .inl (cI, 12, .inl vsb)), (qr, .inl (cI, 4, .inl vbr)), (qf, .inl (cI, 4, .inl vfe))]) hP hD [0, 1, 2, 3, 4, 5, 6] [] rfl rfl (by decide) (by decide) hk217 hFc hP1 hD1
          have hP : va_P G vwCl [(qg, .inr (1, [.ref qb, .ref qt, .int (nx vx), .int (nI vpl), .int (co (nx vx)), .int vtu, .int ca217])), (qt, .inl (cI, 3, .inl se)), (qb, .inr (0, [.ref qp, .ref qs, .ref qr, .ref qf, .int vfl])), (qp, .inl (cI, 12, .inl vpr)), (qs, .inl (cI, 12, .inl vsb)), (qr, .inl (cI, 4, .inl vbr)), (qf, .inl (cI, 4, .inl vfe))] H217 := hP
          have hD : va_D A [(qg, .inr (1, [.ref qb, .ref qt, .int (nx vx), .int (nI vpl), .int (co (nx vx)), .int vtu, .int ca217])), (qt, .inl (cI, 3, .inl se)), (qb, .inr (0, [.ref qp, .ref qs, .ref qr, .ref qf, .int vfl])), (qp, .inl (cI, 12, .inl vpr)), (qs, .inl (cI, 12, .inl vsb)), (qr, .inl (cI, 4, .inl vbr)), (qf, .inl (cI, 4, .inl vfe))] := hD
          obtain ⟨cn, hc1, hc, ecn⟩ := co_ok (nx_nn hk2)
          rw [ecn] at hP hD
          refine lv_aload_n hx hb dX1_playOn_18 rfl (lv_at hl 1 rfl) ?_
          have hPc : va_P G vwCl [(qg, .inr (1, [.ref qb, .ref qt, .int (nx vx), .int (nI vpl), .int (nI cn), .int vtu, .int ca217])), (qt, .inl (cI, 3, .inl se)), (qb, .inr (0, [.ref qp, .ref qs, .ref qr, .ref qf, .int vfl])), (qp, .inl (cI, 12, .inl vpr)), (qs, .inl (cI, 12, .inl vsb)), (qr, .inl (cI, 4, .inl vbr)), (qf, .inl (cI, 4, .inl vfe))] H217 := hP
          have hDc := hD.tt
          refine vp_callSi (va_Run.run (va_runV (As := []) (rest := []) ⟨hx, hb, hml, hown, hts⟩ (c_X1_bestPiece l G cI cC cZ cG H217.size qg qt qb qp qs qr qf vpr vsb vbr vfe se vfl (nx vx) vpl cn vtu ca217 hk1 hc (by omega)) (cf_RX1_128 hts ⟨Nat.le_of_ble_eq_true rfl, Nat.le_of_ble_eq_true rfl⟩) (pre_V hK hPc hDc (ci := 1) (q0 := 0) rfl rfl) rfl rfl hl.1 rfl (lv_room (Nat.le_of_ble_eq_true rfl)) dX1_playOn_19 ⟨Nat.le_of_ble_eq_true rfl, Nat.le_of_ble_eq_true rfl⟩)) (fun r218 hr218 => ?_)
          subst hr218
          refine lv_istore_n (lv' := [(3, .int (bp vpr vbr se vpl cn)), (2, .int (nI i)), (0, .ref qg), (1, .int (nI mo))]) hx hb dX1_playOn_22 rfl hl (by decide) rfl (fun ls hl => ?_)
          refine lv_iload_n hx hb dX1_playOn_23 rfl (lv_at hl 0 rfl) ?_
          refine lv_bipush (v := (-6)) hx hb dX1_playOn_24 (by decide) ?_
          refine lv_icmp_ne (tgt := 36) hx hb dX1_playOn_26 (by decide) (fun c_219 => ?_) (fun c_219 => ?_)
          · obtain ⟨j, hj, ebp, -⟩ := bp_ok c_219
            rw [ebp] at hl
            refine lv_aload_n hx hb dX1_playOn_36 rfl (lv_at hl 2 rfl) ?_
            refine lv_iload_n hx hb dX1_playOn_37 rfl (lv_at hl 0 rfl) ?_
            have hPc : va_P G vwCl [(qg, .inr (1, [.ref qb, .ref qt, .int (nx vx), .int (nI vpl), .int (nI cn), .int vtu, .int ca217])), (qt, .inl (cI, 3, .inl se)), (qb, .inr (0, [.ref qp, .ref qs, .ref qr, .ref qf, .int vfl])), (qp, .inl (cI, 12, .inl vpr)), (qs, .inl (cI, 12, .inl vsb)), (qr, .inl (cI, 4, .inl vbr)), (qf, .inl (cI, 4, .inl vfe))] H217 := hP
            have hDc := hD.tt
            have hFc := va_free (wc := [(qg, .inr (1, [.ref qb, .ref qt, .int (nx vx), .int (nI vpl), .int (nI cn), .int vtu, .int ca217])), (qt, .inl (cI, 3, .inl se)), (qb, .inr (0, [.ref qp, .ref qs, .ref qr, .ref qf, .int vfl])), (qp, .inl (cI, 12, .inl vpr)), (qs, .inl (cI, 12, .inl vsb)), (qr, .inl (cI, 4, .inl vbr)), (qf, .inl (cI, 4, .inl vfe))]) hD hS hA [0, 1, 2, 3, 4, 5, 6] rfl
            refine va_calli (va_runV (As := [.int (nI (vpl * 3 + j))]) (rest := []) ⟨hx, hb, hml, hown, hts⟩ (c_X1_moveByThrow l G cI cC cZ cG H217.size qg qt qb qp qs qr qf vpr vsb vbr vfe se vfl (nx vx) vpl cn vtu ca217 (vpl * 3 + j) hk1 (by omega) hc (by omega)) (cf_RX1_131 hts ⟨Nat.le_of_ble_eq_true rfl, Nat.le_of_ble_eq_true rfl⟩) (pre_V hK hPc hDc (ci := 1) (q0 := 0) rfl rfl) rfl rfl hl.1 rfl (lv_room (Nat.le_of_ble_eq_true rfl)) dX1_playOn_38 ⟨Nat.le_of_ble_eq_true rfl, Nat.le_of_ble_eq_true rfl⟩) hS (fun q _ h => hFc q h) hFc (fun r220 u220 t220 H220 locs220 ht220 hvm220 hw220 hB220 hz220 hk220 hS => ?_)
            obtain ⟨pr220, sb220, br220, fe220, fl220, x220, pl220, th220, tu220, ca220⟩ := u220
            obtain ⟨hP1, hD1⟩ := hB220
            rw [ht220] at hP1
            try dsimp only at hw220
            obtain ⟨hr220, hw220⟩ := hw220
            subst hr220
            obtain ⟨hP, hD⟩ := va_join (wr := []) (w1 := [(qg, .inr (1, [.ref qb, .ref qt, .int x220, .int (nI pl220), .int th220, .int tu220, .int ca220])), (qt, .inl (cI, 3, .inl se)), (qb, .inr (0, [.ref qp, .ref qs, .ref qr, .ref qf, .int fl220])), (qp, .inl (cI, 12, .inl pr220)), (qs, .inl (cI, 12, .inl sb220)), (qr, .inl (cI, 4, .inl br220)), (qf, .inl (cI, 4, .inl fe220))]) hP hD [0, 1, 2, 3, 4, 5, 6] [] rfl rfl (by decide) (by decide) hk220 hFc hP1 hD1
            have hP : va_P G vwCl [(qg, .inr (1, [.ref qb, .ref qt, .int x220, .int (nI pl220), .int th220, .int tu220, .int ca220])), (qt, .inl (cI, 3, .inl se)), (qb, .inr (0, [.ref qp, .ref qs, .ref qr, .ref qf, .int fl220])), (qp, .inl (cI, 12, .inl pr220)), (qs, .inl (cI, 12, .inl sb220)), (qr, .inl (cI, 4, .inl br220)), (qf, .inl (cI, 4, .inl fe220))] H220 := hP
            have hD : va_D A [(qg, .inr (1, [.ref qb, .ref qt, .int x220, .int (nI pl220), .int th220, .int tu220, .int ca220])), (qt, .inl (cI, 3, .inl se)), (qb, .inr (0, [.ref qp, .ref qs, .ref qr, .ref qf, .int fl220])), (qp, .inl (cI, 12, .inl pr220)), (qs, .inl (cI, 12, .inl sb220)), (qr, .inl (cI, 4, .inl br220)), (qf, .inl (cI, 4, .inl fe220))] := hD
            refine lv_pop hx hb dX1_playOn_41 rfl ?_
            refine lv_iinc (v := nI (i + 1)) (lv' := [(2, .int (nI (i + 1))), (3, .int (nI (vpl * 3 + j))), (0, .ref qg), (1, .int (nI mo))]) hx hb dX1_playOn_42 hl (k := 1) rfl (nI_inc i) (by decide) rfl (fun ls hl => ?_)
            refine lv_goto (tgt := 2) hx hb dX1_playOn_45 (by decide) ?_
            have hone : ((pr220, sb220, br220, fe220, fl220, x220, pl220, th220, tu220, ca220) : GS) = one se (vpr, vsb, vbr, vfe, vfl, vx, vpl, vth, vtu, vca) := one_move hw217 ecn hc ebp (by omega) hw220
            have hok : okg (pr220, sb220, br220, fe220, fl220, x220, pl220, th220, tu220, ca220) := by rw [hone]; exact one_ok ⟨hk1, hk2, hk3⟩
            exact ih1 (i + 1) pr220 sb220 br220 fe220 fl220 x220 pl220 th220 tu220 ca220 hok.1 hok.2.1 hok.2.2 (by omega) (pg_step c_214 (Decidable.not_not.mp c_216) hone hf) (by omega) H220 locs220 hP hD hS _ (lv_sub hl [0, 2, 3] rfl)
          · refine lv_aload_n hx hb dX1_playOn_29 rfl (lv_at hl 2 rfl) ?_
            have hPc : va_P G vwCl [(qg, .inr (1, [.ref qb, .ref qt, .int (nx vx), .int (nI vpl), .int (nI cn), .int vtu, .int ca217])), (qt, .inl (cI, 3, .inl se)), (qb, .inr (0, [.ref qp, .ref qs, .ref qr, .ref qf, .int vfl])), (qp, .inl (cI, 12, .inl vpr)), (qs, .inl (cI, 12, .inl vsb)), (qr, .inl (cI, 4, .inl vbr)), (qf, .inl (cI, 4, .inl vfe))] H217 := hP
            have hDc := hD.tt
            have hFc := va_free (wc := [(qg, .inr (1, [.ref qb, .ref qt, .int (nx vx), .int (nI vpl), .int (nI cn), .int vtu, .int ca217])), (qt, .inl (cI, 3, .inl se)), (qb, .inr (0, [.ref qp, .ref qs, .ref qr, .ref qf, .int vfl])), (qp, .inl (cI, 12, .inl vpr)), (qs, .inl (cI, 12, .inl vsb)), (qr, .inl (cI, 4, .inl vbr)), (qf, .inl (cI, 4, .inl vfe))]) hD hS hA [0, 1, 2, 3, 4, 5, 6] rfl
            refine va_callv (va_runV (As := []) (rest := []) ⟨hx, hb, hml, hown, hts⟩ (c_X1_endThrow l G cI cC cZ cG H217.size qg qt qb qp qs qr qf vpr vsb vbr vfe se vfl (nx vx) vpl (nI cn) vtu ca217 (by omega)) (cf_RX1_112 hts ⟨Nat.le_of_ble_eq_true rfl, Nat.le_of_ble_eq_true rfl⟩) (pre_V hK hPc hDc (ci := 1) (q0 := 0) rfl rfl) rfl rfl hl.1 rfl (lv_room (Nat.le_of_ble_eq_true rfl)) dX1_playOn_30 ⟨Nat.le_of_ble_eq_true rfl, Nat.le_of_ble_eq_true rfl⟩) hS (fun q _ h => hFc q h) hFc (fun u221 t221 H221 locs221 ht221 hvm221 hw221 hB221 hz221 hk221 hS => ?_)
            obtain ⟨br221, pl221, tu221, ca221⟩ := u221
            obtain ⟨hP1, hD1⟩ := hB221
            rw [ht221] at hP1
            try dsimp only at hw221
            obtain ⟨hP, hD⟩ := va_join (wr := []) (w1 := [(qg, .inr (1, [.ref qb, .ref qt, .int (nx vx), .int (nI pl221), .int (-6), .int tu221, .int ca221])), (qt, .inl (cI, 3, .inl se)), (qb, .inr (0, [.ref qp, .ref qs, .ref qr, .ref qf, .int vfl])), (qp, .inl (cI, 12, .inl vpr)), (qs, .inl (cI, 12, .inl vsb)), (qr, .inl (cI, 4, .inl br221)), (qf, .inl (cI, 4, .inl vfe))]) hP hD [0, 1, 2, 3, 4, 5, 6] [] rfl rfl (by decide) (by decide) hk221 hFc hP1 hD1
            have hP : va_P G vwCl [(qg, .inr (1, [.ref qb, .ref qt, .int (nx vx), .int (nI pl221), .int (-6), .int tu221, .int ca221])), (qt, .inl (cI, 3, .inl se)), (qb, .inr (0, [.ref qp, .ref qs, .ref qr, .ref qf, .int vfl])), (qp, .inl (cI, 12, .inl vpr)), (qs, .inl (cI, 12, .inl vsb)), (qr, .inl (cI, 4, .inl br221)), (qf, .inl (cI, 4, .inl vfe))] H221 := hP
            have hD : va_D A [(qg, .inr (1, [.ref qb, .ref qt, .int (nx vx), .int (nI pl221), .int (-6), .int tu221, .int ca221])), (qt, .inl (cI, 3, .inl se)), (qb, .inr (0, [.ref qp, .ref qs, .ref qr, .ref qf, .int vfl])), (qp, .inl (cI, 12, .inl vpr)), (qs, .inl (cI, 12, .inl vsb)), (qr, .inl (cI, 4, .inl br221)), (qf, .inl (cI, 4, .inl vfe))] := hD
            refine lv_goto (tgt := 42) hx hb dX1_playOn_33 (by decide) ?_
            refine lv_iinc (v := nI (i + 1)) (lv' := [(2, .int (nI (i + 1))), (3, .int (bp vpr vbr se vpl cn)), (0, .ref qg), (1, .int (nI mo))]) hx hb dX1_playOn_42 hl (k := 1) rfl (nI_inc i) (by decide) rfl (fun ls hl => ?_)
            refine lv_goto (tgt := 2) hx hb dX1_playOn_45 (by decide) ?_
            have hone : ((vpr, vsb, br221, vfe, vfl, nx vx, pl221, (-6), tu221, ca221) : GS) = one se (vpr, vsb, vbr, vfe, vfl, vx, vpl, vth, vtu, vca) := one_pass hw217 ecn hc c_219 hw221
            have hok : okg (vpr, vsb, br221, vfe, vfl, nx vx, pl221, (-6), tu221, ca221) := by rw [hone]; exact one_ok ⟨hk1, hk2, hk3⟩
            exact ih1 (i + 1) vpr vsb br221 vfe vfl (nx vx) pl221 (-6) tu221 ca221 hok.1 hok.2.1 hok.2.2 (by omega) (pg_step c_214 (Decidable.not_not.mp c_216) hone hf) (by omega) H221 locs221 hP hD hS _ (lv_sub hl [0, 2, 3] rfl)
  exact L1 (mo + 1) 0 pr sb br fe fl x pl th tu ca hpr hx0 hpl (by omega) rfl (by omega) s.heap [] hP hD hS _ (lv_sub hl [0, 1, 2] rfl)

abbrev rm_X1_turnsUntilMended : Room := { frames := 1, cells := 0, slots := 0, locals := 30 }
theorem cf_RX1_137 {R : Room} {s : State} {args : Array Value} (ht : ∀ w ∈ wsL_law, w.before args s = true) (hN : ∀ w ∈ nestW, va_Nw w s) (hR : rm_X5_bridgeOn.frames + 1 ≤ R.frames ∧ 8 + (1 + 11) + rm_X5_bridgeOn.locals ≤ R.locals) : va_CN R s args RX1 137 yX5_bridgeOn "BridgedPachisi" cX5_bridgeOn 1 (some .int) (.code yX5_bridgeOn cX5_bridgeOn 1 (some .int) :: wsL_law) rm_X5_bridgeOn 0 0 1 ∧ (Cond.static yX5_bridgeOn).before args s = true ∧ True := ⟨cw_N 1 ht hN nw30 wd2 wd118 (by decide +kernel) rfl rfl hR, ht _ wd117, trivial⟩
set_option maxHeartbeats 1000000 in
set_option maxRecDepth 100000 in
theorem c_X1_turnsUntilMended (l : Launch) (G : va_G) (cI cC cZ cG : ClassId) (sz : Nat) (qg qt qb qp qs qr qf : Nat) (pr sb br fe se : IA) (fl x : Int32) (pl : Nat) (th tu ca : Int32) (f : Int32) : Met l yX1_turnsUntilMended (.code yX1_turnsUntilMended cX1_turnsUntilMended 3 (some .int) :: wsL_law) rm_X1_turnsUntilMended (va_Pc [.ref qg, .int f] (bw G cI cC cZ cG false sz [(qg, .inr (1, [.ref qb, .ref qt, .int x, .int (nI pl), .int th, .int tu, .int ca])), (qt, .inl (cI, 3, .inl se)), (qb, .inr (0, [.ref qp, .ref qs, .ref qr, .ref qf, .int fl])), (qp, .inl (cI, 12, .inl pr)), (qs, .inl (cI, 12, .inl sb)), (qr, .inl (cI, 4, .inl br)), (qf, .inl (cI, 4, .inl fe))])) (vp_Si (fun r => r = tum br fe se tu f)) 0 0 (fun _ => False) := by
  refine met_bw rfl (Nat.le_of_ble_eq_true rfl) ?_
  intro p e s m below meth c ls hx hb hr hml hown hts hlocks hin hsz hP hK hD0 hX0 hl
  have hown : s.vm.findClass RX1 = some m.cls := hown
  have hl : lv_has ls 3 [(0, .ref qg), (1, .int f)] := hl
  refine lv_iload_n hx hb dX1_turnsUntilMended_0 rfl (lv_at hl 1 rfl) ?_
  refine vp_callSi (va_Run.run (va_runSN (As := [.int f]) (rest := []) ⟨hx, hb, hml, hown, hts⟩ (c_X5_bridgeOn l f) (cf_RX1_137 hts hK.2 ⟨Nat.le_of_ble_eq_true rfl, Nat.le_of_ble_eq_true rfl⟩) pre_P rfl rfl hl.1 rfl (lv_room (Nat.le_of_ble_eq_true rfl)) dX1_turnsUntilMended_1 ⟨Nat.le_of_ble_eq_true rfl, Nat.le_of_ble_eq_true rfl⟩)) (fun r222 hr222 => ?_)
  subst hr222
  refine lv_istore_n (lv' := [(2, .int (bo f)), (0, .ref qg), (1, .int f)]) hx hb dX1_turnsUntilMended_4 rfl hl (by decide) rfl (fun ls hl => ?_)
  refine lv_iload_n hx hb dX1_turnsUntilMended_5 rfl (lv_at hl 0 rfl) ?_
  refine lv_bipush (v := (-6)) hx hb dX1_turnsUntilMended_6 (by decide) ?_
  refine lv_icmp_eq (tgt := 33) hx hb dX1_turnsUntilMended_8 (by decide) (fun c_223 => ?_) (fun c_223 => ?_)
  · refine lv_bipush (v := (-6)) hx hb dX1_turnsUntilMended_33 (by decide) ?_
    exact W.iret (v := (-6)) hx hb hr (fun t ht hW => ⟨(-6), rfl, by rw [tum, if_pos c_223], ht⟩) (fun _ h => absurd h List.not_mem_nil) dX1_turnsUntilMended_35
  · obtain ⟨b4, hb4, eb4⟩ := bo_ne _ c_223
    have ecl : (bo f).toNatClampNeg = b4 := by rw [eb4]; exact nI_clamp (by omega)
    rw [eb4] at hl
    refine lv_aload_n hx hb dX1_turnsUntilMended_11 rfl (lv_at hl 1 rfl) ?_
    refine va_get (D := G) (ci := 1) (v := .ref qb) (C := RX1) (T := TX1) (N := 7) hx hb hts inlX1 hown hK.1 hP 0 rfl rfl 0 (by decide) (hts _ wd34) (fun _ h9 => h9) rfl dX1_turnsUntilMended_12 ?_
    refine va_getN (D := G) (ci := 0) (v := .ref qr) (C := RX0) (T := TX0) (N := 5) hx hb hts inlX0 hown hK.1 hP 2 rfl rfl 2 (by decide) (va_Nw.use rfl (hK.2 _ nw5)) (fun _ h9 => h9) rfl dX1_turnsUntilMended_15 ?_
    refine lv_iload_n hx hb dX1_turnsUntilMended_18 rfl (lv_at hl 0 rfl) ?_
    refine za_ld hx hb hK.1 hP 5 0 rfl rfl b4 rfl (by omega) (by decide) dX1_turnsUntilMended_19 ?_
    refine lv_iconst (v := 3) hx hb dX1_turnsUntilMended_20 (by decide) ?_
    refine lv_icmp_ne (tgt := 33) hx hb dX1_turnsUntilMended_21 (by decide) (fun c_224 => ?_) (fun c_224 => ?_)
    · refine lv_bipush (v := (-6)) hx hb dX1_turnsUntilMended_33 (by decide) ?_
      exact W.iret (v := (-6)) hx hb hr (fun t ht hW => ⟨(-6), rfl, by rw [tum, if_neg c_223, ecl, if_pos c_224], ht⟩) (fun _ h => absurd h List.not_mem_nil) dX1_turnsUntilMended_35
    · refine lv_aload_n hx hb dX1_turnsUntilMended_24 rfl (lv_at hl 1 rfl) ?_
      refine va_get (D := G) (ci := 1) (v := .ref qt) (C := RX1) (T := TX1) (N := 7) hx hb hts inlX1 hown hK.1 hP 0 rfl rfl 1 (by decide) (hts _ wd35) (fun _ h9 => h9) rfl dX1_turnsUntilMended_25 ?_
      refine lv_iconst (v := 1) hx hb dX1_turnsUntilMended_28 (by decide) ?_
      refine za_ld hx hb hK.1 hP 1 0 rfl rfl 1 rfl (by decide) (by decide) dX1_turnsUntilMended_29 ?_
      refine lv_if_ne (tgt := 36) hx hb dX1_turnsUntilMended_30 (by decide) (fun c_225 => ?_) (fun c_225 => ?_)
      · refine lv_iconst (v := 1) hx hb dX1_turnsUntilMended_36 (by decide) ?_
        refine lv_aload_n hx hb dX1_turnsUntilMended_37 rfl (lv_at hl 1 rfl) ?_
        refine va_get (D := G) (ci := 1) (v := .ref qt) (C := RX1) (T := TX1) (N := 7) hx hb hts inlX1 hown hK.1 hP 0 rfl rfl 1 (by decide) (hts _ wd35) (fun _ h9 => h9) rfl dX1_turnsUntilMended_38 ?_
        refine lv_iconst (v := 1) hx hb dX1_turnsUntilMended_41 (by decide) ?_
        refine za_ld hx hb hK.1 hP 1 0 rfl rfl 1 rfl (by decide) (by decide) dX1_turnsUntilMended_42 ?_
        refine lv_aload_n hx hb dX1_turnsUntilMended_43 rfl (lv_at hl 1 rfl) ?_
        refine va_get (D := G) (ci := 1) (v := .int tu) (C := RX1) (T := TX1) (N := 7) hx hb hts inlX1 hown hK.1 hP 0 rfl rfl 5 (by decide) (hts _ wd39) (fun _ h9 => h9) rfl dX1_turnsUntilMended_44 ?_
        refine lv_aload_n hx hb dX1_turnsUntilMended_47 rfl (lv_at hl 1 rfl) ?_
        refine va_get (D := G) (ci := 1) (v := .ref qb) (C := RX1) (T := TX1) (N := 7) hx hb hts inlX1 hown hK.1 hP 0 rfl rfl 0 (by decide) (hts _ wd34) (fun _ h9 => h9) rfl dX1_turnsUntilMended_48 ?_
        refine va_getN (D := G) (ci := 0) (v := .ref qf) (C := RX0) (T := TX0) (N := 5) hx hb hts inlX0 hown hK.1 hP 2 rfl rfl 3 (by decide) (va_Nw.use rfl (hK.2 _ nw6)) (fun _ h9 => h9) rfl dX1_turnsUntilMended_51 ?_
        refine lv_iload_n hx hb dX1_turnsUntilMended_54 rfl (lv_at hl 0 rfl) ?_
        refine za_ld hx hb hK.1 hP 6 0 rfl rfl b4 rfl (by omega) (by decide) dX1_turnsUntilMended_55 ?_
        refine lv_isub hx hb dX1_turnsUntilMended_56 ?_
        refine lv_isub hx hb dX1_turnsUntilMended_57 ?_
        refine va_mmax hx hb (by rw [hml]; exact hl.1.symm) hown (hts _ wd122) (hts _ wd123) (hts _ wd124) (hts _ wd125) (Nat.le_of_ble_eq_true rfl) (Nat.le_of_ble_eq_true rfl) (Nat.le_of_ble_eq_true rfl) (Nat.le_of_ble_eq_true rfl) dX1_turnsUntilMended_58 ?_
        exact W.iret (v := if (1 : Int32) < (se 1) - (tu - (fe b4)) then (se 1) - (tu - (fe b4)) else 1) hx hb hr (fun t ht hW => ⟨if (1 : Int32) < (se 1) - (tu - (fe b4)) then (se 1) - (tu - (fe b4)) else 1, rfl, by rw [tum, if_neg c_223, ecl, if_neg (fun h => h c_224), if_neg c_225], ht⟩) (fun _ h => absurd h List.not_mem_nil) dX1_turnsUntilMended_61
      · refine lv_bipush (v := (-6)) hx hb dX1_turnsUntilMended_33 (by decide) ?_
        exact W.iret (v := (-6)) hx hb hr (fun t ht hW => ⟨(-6), rfl, by rw [tum, if_neg c_223, ecl, if_neg (fun h => h c_224), if_pos c_225], ht⟩) (fun _ h => absurd h List.not_mem_nil) dX1_turnsUntilMended_35

abbrev rm_X1_copyFrom : Room := { frames := 2, cells := 0, slots := 0, locals := 51 }
theorem cf_RX1_47 {R : Room} {s : State} {args : Array Value} (ht : ∀ w ∈ wsL_law, w.before args s = true) (hN : ∀ w ∈ nestW, va_Nw w s) (hR : rm_X0_copyFrom.frames + 1 ≤ R.frames ∧ 8 + (2 + 11) + rm_X0_copyFrom.locals ≤ R.locals) : va_CN R s args RX1 47 yX0_copyFrom "BridgedPachisi" cX0_copyFrom 2 none (.code yX0_copyFrom cX0_copyFrom 2 none :: wsL_law) rm_X0_copyFrom 0 0 1 ∧ (Cond.instanceMethod yX0_copyFrom).before args s = true ∧ (Cond.selects RX0 yX0_copyFrom yX0_copyFrom).before args s = true := ⟨cw_N 1 ht hN nw47 wd33 wd268 (by decide +kernel) rfl rfl hR, ht _ wd266, ht _ wd267⟩
set_option maxHeartbeats 1000000 in
set_option maxRecDepth 100000 in
theorem c_X1_copyFrom (l : Launch) (G : va_G) (cI cC cZ cG : ClassId) (sz : Nat) (qg qt qb qp qs qr qf : Nat) (pr sb br fe se : IA) (fl x : Int32) (pl : Nat) (th tu ca : Int32) (rg rt rb rp rs rr rf0 : Nat) (op os oR oe ose : IA) (ol ox : Int32) (opl : Nat) (oth otu oca : Int32) : Met l yX1_copyFrom (.code yX1_copyFrom cX1_copyFrom 2 none :: wsL_law) rm_X1_copyFrom (va_Pc [.ref qg, .ref rg] (bw G cI cC cZ cG false sz [(qg, .inr (1, [.ref qb, .ref qt, .int x, .int (nI pl), .int th, .int tu, .int ca])), (qt, .inl (cI, 3, .inl se)), (qb, .inr (0, [.ref qp, .ref qs, .ref qr, .ref qf, .int fl])), (qp, .inl (cI, 12, .inl pr)), (qs, .inl (cI, 12, .inl sb)), (qr, .inl (cI, 4, .inl br)), (qf, .inl (cI, 4, .inl fe)), (rg, .inr (1, [.ref rb, .ref rt, .int ox, .int (nI opl), .int oth, .int otu, .int oca])), (rt, .inl (cI, 3, .inl ose)), (rb, .inr (0, [.ref rp, .ref rs, .ref rr, .ref rf0, .int ol])), (rp, .inl (cI, 12, .inl op)), (rs, .inl (cI, 12, .inl os)), (rr, .inl (cI, 4, .inl oR)), (rf0, .inl (cI, 4, .inl oe))])) (va_Qv (fun (u : Unit) => True) (fun (u : Unit) t => va_P G vwCl [(qg, .inr (1, [.ref qb, .ref qt, .int ox, .int (nI opl), .int oth, .int otu, .int oca])), (qt, .inl (cI, 3, .inl (va_cpy ose se 0 0 3))), (qb, .inr (0, [.ref qp, .ref qs, .ref qr, .ref qf, .int ol])), (qp, .inl (cI, 12, .inl (va_cpy op pr 0 0 12))), (qs, .inl (cI, 12, .inl (va_cpy os sb 0 0 12))), (qr, .inl (cI, 4, .inl (va_cpy oR br 0 0 4))), (qf, .inl (cI, 4, .inl (va_cpy oe fe 0 0 4))), (rg, .inr (1, [.ref rb, .ref rt, .int ox, .int (nI opl), .int oth, .int otu, .int oca])), (rt, .inl (cI, 3, .inl ose)), (rb, .inr (0, [.ref rp, .ref rs, .ref rr, .ref rf0, .int ol])), (rp, .inl (cI, 12, .inl op)), (rs, .inl (cI, 12, .inl os)), (rr, .inl (cI, 4, .inl oR)), (rf0, .inl (cI, 4, .inl oe))] t.heap ∧ va_D (va_A [(qg, .inr (1, [.ref qb, .ref qt, .int x, .int (nI pl), .int th, .int tu, .int ca])), (qt, .inl (cI, 3, .inl se)), (qb, .inr (0, [.ref qp, .ref qs, .ref qr, .ref qf, .int fl])), (qp, .inl (cI, 12, .inl pr)), (qs, .inl (cI, 12, .inl sb)), (qr, .inl (cI, 4, .inl br)), (qf, .inl (cI, 4, .inl fe)), (rg, .inr (1, [.ref rb, .ref rt, .int ox, .int (nI opl), .int oth, .int otu, .int oca])), (rt, .inl (cI, 3, .inl ose)), (rb, .inr (0, [.ref rp, .ref rs, .ref rr, .ref rf0, .int ol])), (rp, .inl (cI, 12, .inl op)), (rs, .inl (cI, 12, .inl os)), (rr, .inl (cI, 4, .inl oR)), (rf0, .inl (cI, 4, .inl oe))] sz) [(qg, .inr (1, [.ref qb, .ref qt, .int ox, .int (nI opl), .int oth, .int otu, .int oca])), (qt, .inl (cI, 3, .inl (va_cpy ose se 0 0 3))), (qb, .inr (0, [.ref qp, .ref qs, .ref qr, .ref qf, .int ol])), (qp, .inl (cI, 12, .inl (va_cpy op pr 0 0 12))), (qs, .inl (cI, 12, .inl (va_cpy os sb 0 0 12))), (qr, .inl (cI, 4, .inl (va_cpy oR br 0 0 4))), (qf, .inl (cI, 4, .inl (va_cpy oe fe 0 0 4))), (rg, .inr (1, [.ref rb, .ref rt, .int ox, .int (nI opl), .int oth, .int otu, .int oca])), (rt, .inl (cI, 3, .inl ose)), (rb, .inr (0, [.ref rp, .ref rs, .ref rr, .ref rf0, .int ol])), (rp, .inl (cI, 12, .inl op)), (rs, .inl (cI, 12, .inl os)), (rr, .inl (cI, 4, .inl oR)), (rf0, .inl (cI, 4, .inl oe))]) (va_A [(qg, .inr (1, [.ref qb, .ref qt, .int x, .int (nI pl), .int th, .int tu, .int ca])), (qt, .inl (cI, 3, .inl se)), (qb, .inr (0, [.ref qp, .ref qs, .ref qr, .ref qf, .int fl])), (qp, .inl (cI, 12, .inl pr)), (qs, .inl (cI, 12, .inl sb)), (qr, .inl (cI, 4, .inl br)), (qf, .inl (cI, 4, .inl fe)), (rg, .inr (1, [.ref rb, .ref rt, .int ox, .int (nI opl), .int oth, .int otu, .int oca])), (rt, .inl (cI, 3, .inl ose)), (rb, .inr (0, [.ref rp, .ref rs, .ref rr, .ref rf0, .int ol])), (rp, .inl (cI, 12, .inl op)), (rs, .inl (cI, 12, .inl os)), (rr, .inl (cI, 4, .inl oR)), (rf0, .inl (cI, 4, .inl oe))] sz)) 0 0 (va_A [(qg, .inr (1, [.ref qb, .ref qt, .int x, .int (nI pl), .int th, .int tu, .int ca])), (qt, .inl (cI, 3, .inl se)), (qb, .inr (0, [.ref qp, .ref qs, .ref qr, .ref qf, .int fl])), (qp, .inl (cI, 12, .inl pr)), (qs, .inl (cI, 12, .inl sb)), (qr, .inl (cI, 4, .inl br)), (qf, .inl (cI, 4, .inl fe)), (rg, .inr (1, [.ref rb, .ref rt, .int ox, .int (nI opl), .int oth, .int otu, .int oca])), (rt, .inl (cI, 3, .inl ose)), (rb, .inr (0, [.ref rp, .ref rs, .ref rr, .ref rf0, .int ol])), (rp, .inl (cI, 12, .inl op)), (rs, .inl (cI, 12, .inl os)), (rr, .inl (cI, 4, .inl oR)), (rf0, .inl (cI, 4, .inl oe))] sz) := by
  refine met_bw rfl (Nat.le_of_ble_eq_true rfl) ?_
  intro p e s m below meth c ls hx hb hr hml hown hts hlocks hin hsz hP hK hD0 hX0 hl
  have hown : s.vm.findClass RX1 = some m.cls := hown
  have hl : lv_has ls 2 [(0, .ref qg), (1, .ref rg)] := hl
  subst hsz
  have hD := hD0.self (sz := s.heap.size)
  generalize hAe : va_A [(qg, .inr (1, [.ref qb, .ref qt, .int x, .int (nI pl), .int th, .int tu, .int ca])), (qt, .inl (cI, 3, .inl se)), (qb, .inr (0, [.ref qp, .ref qs, .ref qr, .ref qf, .int fl])), (qp, .inl (cI, 12, .inl pr)), (qs, .inl (cI, 12, .inl sb)), (qr, .inl (cI, 4, .inl br)), (qf, .inl (cI, 4, .inl fe)), (rg, .inr (1, [.ref rb, .ref rt, .int ox, .int (nI opl), .int oth, .int otu, .int oca])), (rt, .inl (cI, 3, .inl ose)), (rb, .inr (0, [.ref rp, .ref rs, .ref rr, .ref rf0, .int ol])), (rp, .inl (cI, 12, .inl op)), (rs, .inl (cI, 12, .inl os)), (rr, .inl (cI, 4, .inl oR)), (rf0, .inl (cI, 4, .inl oe))] s.heap.size = A at hD ⊢
  have hA : ∀ q : Nat, s.heap.size ≤ q → A q := fun q h => by rw [← hAe]; exact Or.inr h
  have hS : va_S A s.heap s.heap [] := va_S.rf
  refine lv_aload_n hx hb dX1_copyFrom_0 rfl (lv_at hl 0 rfl) ?_
  refine va_get (D := G) (ci := 1) (v := .ref qb) (C := RX1) (T := TX1) (N := 7) hx hb hts inlX1 hown hK.1 hP 0 rfl rfl 0 (by decide) (hts _ wd34) (fun _ h9 => h9) rfl dX1_copyFrom_1 ?_
  refine lv_aload_n hx hb dX1_copyFrom_4 rfl (lv_at hl 1 rfl) ?_
  refine va_get (D := G) (ci := 1) (v := .ref rb) (C := RX1) (T := TX1) (N := 7) hx hb hts inlX1 hown hK.1 hP 7 rfl rfl 0 (by decide) (hts _ wd34) (fun _ h9 => h9) rfl dX1_copyFrom_5 ?_
  have hPc := hP.sub (ws' := [(qb, .inr (0, [.ref qp, .ref qs, .ref qr, .ref qf, .int fl])), (qp, .inl (cI, 12, .inl pr)), (qs, .inl (cI, 12, .inl sb)), (qr, .inl (cI, 4, .inl br)), (qf, .inl (cI, 4, .inl fe)), (rb, .inr (0, [.ref rp, .ref rs, .ref rr, .ref rf0, .int ol])), (rp, .inl (cI, 12, .inl op)), (rs, .inl (cI, 12, .inl os)), (rr, .inl (cI, 4, .inl oR)), (rf0, .inl (cI, 4, .inl oe))]) [2, 3, 4, 5, 6, 9, 10, 11, 12, 13] rfl
  have hDc := (hD.sub (ws' := [(qb, .inr (0, [.ref qp, .ref qs, .ref qr, .ref qf, .int fl])), (qp, .inl (cI, 12, .inl pr)), (qs, .inl (cI, 12, .inl sb)), (qr, .inl (cI, 4, .inl br)), (qf, .inl (cI, 4, .inl fe)), (rb, .inr (0, [.ref rp, .ref rs, .ref rr, .ref rf0, .int ol])), (rp, .inl (cI, 12, .inl op)), (rs, .inl (cI, 12, .inl os)), (rr, .inl (cI, 4, .inl oR)), (rf0, .inl (cI, 4, .inl oe))]) [2, 3, 4, 5, 6, 9, 10, 11, 12, 13] (by decide) rfl).tt
  have hFc := va_free (wc := [(qb, .inr (0, [.ref qp, .ref qs, .ref qr, .ref qf, .int fl])), (qp, .inl (cI, 12, .inl pr)), (qs, .inl (cI, 12, .inl sb)), (qr, .inl (cI, 4, .inl br)), (qf, .inl (cI, 4, .inl fe)), (rb, .inr (0, [.ref rp, .ref rs, .ref rr, .ref rf0, .int ol])), (rp, .inl (cI, 12, .inl op)), (rs, .inl (cI, 12, .inl os)), (rr, .inl (cI, 4, .inl oR)), (rf0, .inl (cI, 4, .inl oe))]) hD hS hA [2, 3, 4, 5, 6, 9, 10, 11, 12, 13] rfl
  refine va_callv (va_runVN (As := [.ref rb]) (rest := []) ⟨hx, hb, hml, hown, hts⟩ (c_X0_copyFrom l G cI cC cZ cG s.heap.size qb qp qs qr qf pr sb br fe fl rb rp rs rr rf0 op os oR oe ol) (cf_RX1_47 hts hK.2 ⟨Nat.le_of_ble_eq_true rfl, Nat.le_of_ble_eq_true rfl⟩) (pre_V hK hPc hDc (ci := 0) (q0 := 0) rfl rfl) rfl rfl hl.1 rfl (lv_room (Nat.le_of_ble_eq_true rfl)) dX1_copyFrom_8 ⟨Nat.le_of_ble_eq_true rfl, Nat.le_of_ble_eq_true rfl⟩) hS (fun q _ h => hFc q h) hFc (fun u226 t226 H226 locs226 ht226 hvm226 hw226 hB226 hz226 hk226 hS => ?_)
  obtain ⟨z226, rfl⟩ : ∃ z, z = u226 := ⟨_, rfl⟩
  obtain ⟨hP1, hD1⟩ := hB226
  rw [ht226] at hP1
  try dsimp only at hw226
  obtain ⟨hP, hD⟩ := va_join (wr := [(qg, .inr (1, [.ref qb, .ref qt, .int x, .int (nI pl), .int th, .int tu, .int ca])), (qt, .inl (cI, 3, .inl se)), (rg, .inr (1, [.ref rb, .ref rt, .int ox, .int (nI opl), .int oth, .int otu, .int oca])), (rt, .inl (cI, 3, .inl ose))]) (w1 := [(qb, .inr (0, [.ref qp, .ref qs, .ref qr, .ref qf, .int ol])), (qp, .inl (cI, 12, .inl (va_cpy op pr 0 0 12))), (qs, .inl (cI, 12, .inl (va_cpy os sb 0 0 12))), (qr, .inl (cI, 4, .inl (va_cpy oR br 0 0 4))), (qf, .inl (cI, 4, .inl (va_cpy oe fe 0 0 4))), (rb, .inr (0, [.ref rp, .ref rs, .ref rr, .ref rf0, .int ol])), (rp, .inl (cI, 12, .inl op)), (rs, .inl (cI, 12, .inl os)), (rr, .inl (cI, 4, .inl oR)), (rf0, .inl (cI, 4, .inl oe))]) hP hD [2, 3, 4, 5, 6, 9, 10, 11, 12, 13] [0, 1, 7, 8] rfl rfl (by decide) (by decide) hk226 hFc hP1 hD1
  have hP : va_P G vwCl [(qg, .inr (1, [.ref qb, .ref qt, .int x, .int (nI pl), .int th, .int tu, .int ca])), (qt, .inl (cI, 3, .inl se)), (rg, .inr (1, [.ref rb, .ref rt, .int ox, .int (nI opl), .int oth, .int otu, .int oca])), (rt, .inl (cI, 3, .inl ose)), (qb, .inr (0, [.ref qp, .ref qs, .ref qr, .ref qf, .int ol])), (qp, .inl (cI, 12, .inl (va_cpy op pr 0 0 12))), (qs, .inl (cI, 12, .inl (va_cpy os sb 0 0 12))), (qr, .inl (cI, 4, .inl (va_cpy oR br 0 0 4))), (qf, .inl (cI, 4, .inl (va_cpy oe fe 0 0 4))), (rb, .inr (0, [.ref rp, .ref rs, .ref rr, .ref rf0, .int ol])), (rp, .inl (cI, 12, .inl op)), (rs, .inl (cI, 12, .inl os)), (rr, .inl (cI, 4, .inl oR)), (rf0, .inl (cI, 4, .inl oe))] H226 := hP
  have hD : va_D A [(qg, .inr (1, [.ref qb, .ref qt, .int x, .int (nI pl), .int th, .int tu, .int ca])), (qt, .inl (cI, 3, .inl se)), (rg, .inr (1, [.ref rb, .ref rt, .int ox, .int (nI opl), .int oth, .int otu, .int oca])), (rt, .inl (cI, 3, .inl ose)), (qb, .inr (0, [.ref qp, .ref qs, .ref qr, .ref qf, .int ol])), (qp, .inl (cI, 12, .inl (va_cpy op pr 0 0 12))), (qs, .inl (cI, 12, .inl (va_cpy os sb 0 0 12))), (qr, .inl (cI, 4, .inl (va_cpy oR br 0 0 4))), (qf, .inl (cI, 4, .inl (va_cpy oe fe 0 0 4))), (rb, .inr (0, [.ref rp, .ref rs, .ref rr, .ref rf0, .int ol])), (rp, .inl (cI, 12, .inl op)), (rs, .inl (cI, 12, .inl os)), (rr, .inl (cI, 4, .inl oR)), (rf0, .inl (cI, 4, .inl oe))] := hD
  refine lv_aload_n hx hb dX1_copyFrom_11 rfl (lv_at hl 1 rfl) ?_
  refine va_get (D := G) (ci := 1) (v := .ref rt) (C := RX1) (T := TX1) (N := 7) hx hb hts inlX1 hown hK.1 hP 2 rfl rfl 1 (by decide) (hts _ wd35) (fun _ h9 => h9) rfl dX1_copyFrom_12 ?_
  refine lv_iconst (v := 0) hx hb dX1_copyFrom_15 (by decide) ?_
  refine lv_aload_n hx hb dX1_copyFrom_16 rfl (lv_at hl 0 rfl) ?_
  refine va_get (D := G) (ci := 1) (v := .ref qt) (C := RX1) (T := TX1) (N := 7) hx hb hts inlX1 hown hK.1 hP 0 rfl rfl 1 (by decide) (hts _ wd35) (fun _ h9 => h9) rfl dX1_copyFrom_17 ?_
  refine lv_iconst (v := 0) hx hb dX1_copyFrom_20 (by decide) ?_
  refine lv_iconst (v := 3) hx hb dX1_copyFrom_21 (by decide) ?_
  refine va_copyi (ty := .int) hx hb (by rw [hml]; exact hl.1.symm) hown (hts _ wd41) (hts _ wd42) (hts _ wd43) (hts _ wd44) hK.1 hP hD hS 3 1 0 0 rfl rfl rfl rfl rfl (by decide) (by decide) (by decide) (by decide) (by decide) (fun _ _ => rfl) (Nat.le_of_ble_eq_true rfl) (Nat.le_of_ble_eq_true rfl) dX1_copyFrom_22 (fun H227 locs227 hP hD hS => ?_)
  have hP : va_P G vwCl [(qg, .inr (1, [.ref qb, .ref qt, .int x, .int (nI pl), .int th, .int tu, .int ca])), (qt, .inl (cI, 3, .inl (va_cpy ose se 0 0 3))), (rg, .inr (1, [.ref rb, .ref rt, .int ox, .int (nI opl), .int oth, .int otu, .int oca])), (rt, .inl (cI, 3, .inl ose)), (qb, .inr (0, [.ref qp, .ref qs, .ref qr, .ref qf, .int ol])), (qp, .inl (cI, 12, .inl (va_cpy op pr 0 0 12))), (qs, .inl (cI, 12, .inl (va_cpy os sb 0 0 12))), (qr, .inl (cI, 4, .inl (va_cpy oR br 0 0 4))), (qf, .inl (cI, 4, .inl (va_cpy oe fe 0 0 4))), (rb, .inr (0, [.ref rp, .ref rs, .ref rr, .ref rf0, .int ol])), (rp, .inl (cI, 12, .inl op)), (rs, .inl (cI, 12, .inl os)), (rr, .inl (cI, 4, .inl oR)), (rf0, .inl (cI, 4, .inl oe))] H227 := hP
  have hD : va_D A [(qg, .inr (1, [.ref qb, .ref qt, .int x, .int (nI pl), .int th, .int tu, .int ca])), (qt, .inl (cI, 3, .inl (va_cpy ose se 0 0 3))), (rg, .inr (1, [.ref rb, .ref rt, .int ox, .int (nI opl), .int oth, .int otu, .int oca])), (rt, .inl (cI, 3, .inl ose)), (qb, .inr (0, [.ref qp, .ref qs, .ref qr, .ref qf, .int ol])), (qp, .inl (cI, 12, .inl (va_cpy op pr 0 0 12))), (qs, .inl (cI, 12, .inl (va_cpy os sb 0 0 12))), (qr, .inl (cI, 4, .inl (va_cpy oR br 0 0 4))), (qf, .inl (cI, 4, .inl (va_cpy oe fe 0 0 4))), (rb, .inr (0, [.ref rp, .ref rs, .ref rr, .ref rf0, .int ol])), (rp, .inl (cI, 12, .inl op)), (rs, .inl (cI, 12, .inl os)), (rr, .inl (cI, 4, .inl oR)), (rf0, .inl (cI, 4, .inl oe))] := hD
  refine lv_aload_n hx hb dX1_copyFrom_25 rfl (lv_at hl 0 rfl) ?_
  refine lv_aload_n hx hb dX1_copyFrom_26 rfl (lv_at hl 1 rfl) ?_
  refine va_get (D := G) (ci := 1) (v := .int ox) (C := RX1) (T := TX1) (N := 7) hx hb hts inlX1 hown hK.1 hP 2 rfl rfl 2 (by decide) (hts _ wd36) (fun _ h9 => h9) rfl dX1_copyFrom_27 ?_
  refine va_put (D := G) (ci := 1) (v := .int ox) (ty := .int) (C := RX1) (T := TX1) (N := 7) hx hb hts inlX1 tyX1 tyX1_ok nmX1 hown hK.1 hP hD hS 0 rfl rfl 2 (by decide) (hts _ wd36) (fun _ h9 => h9) rfl (by decide +kernel) rfl rfl (Nat.le_of_ble_eq_true rfl) dX1_copyFrom_30 (fun H228 locs228 hP hD hS => ?_)
  have hP : va_P G vwCl [(qg, .inr (1, [.ref qb, .ref qt, .int ox, .int (nI pl), .int th, .int tu, .int ca])), (qt, .inl (cI, 3, .inl (va_cpy ose se 0 0 3))), (rg, .inr (1, [.ref rb, .ref rt, .int ox, .int (nI opl), .int oth, .int otu, .int oca])), (rt, .inl (cI, 3, .inl ose)), (qb, .inr (0, [.ref qp, .ref qs, .ref qr, .ref qf, .int ol])), (qp, .inl (cI, 12, .inl (va_cpy op pr 0 0 12))), (qs, .inl (cI, 12, .inl (va_cpy os sb 0 0 12))), (qr, .inl (cI, 4, .inl (va_cpy oR br 0 0 4))), (qf, .inl (cI, 4, .inl (va_cpy oe fe 0 0 4))), (rb, .inr (0, [.ref rp, .ref rs, .ref rr, .ref rf0, .int ol])), (rp, .inl (cI, 12, .inl op)), (rs, .inl (cI, 12, .inl os)), (rr, .inl (cI, 4, .inl oR)), (rf0, .inl (cI, 4, .inl oe))] H228 := hP
  have hD : va_D A [(qg, .inr (1, [.ref qb, .ref qt, .int ox, .int (nI pl), .int th, .int tu, .int ca])), (qt, .inl (cI, 3, .inl (va_cpy ose se 0 0 3))), (rg, .inr (1, [.ref rb, .ref rt, .int ox, .int (nI opl), .int oth, .int otu, .int oca])), (rt, .inl (cI, 3, .inl ose)), (qb, .inr (0, [.ref qp, .ref qs, .ref qr, .ref qf, .int ol])), (qp, .inl (cI, 12, .inl (va_cpy op pr 0 0 12))), (qs, .inl (cI, 12, .inl (va_cpy os sb 0 0 12))), (qr, .inl (cI, 4, .inl (va_cpy oR br 0 0 4))), (qf, .inl (cI, 4, .inl (va_cpy oe fe 0 0 4))), (rb, .inr (0, [.ref rp, .ref rs, .ref rr, .ref rf0, .int ol])), (rp, .inl (cI, 12, .inl op)), (rs, .inl (cI, 12, .inl os)), (rr, .inl (cI, 4, .inl oR)), (rf0, .inl (cI, 4, .inl oe))] := hD
  refine lv_aload_n hx hb dX1_copyFrom_33 rfl (lv_at hl 0 rfl) ?_
  refine lv_aload_n hx hb dX1_copyFrom_34 rfl (lv_at hl 1 rfl) ?_
  refine va_get (D := G) (ci := 1) (v := .int (nI opl)) (C := RX1) (T := TX1) (N := 7) hx hb hts inlX1 hown hK.1 hP 2 rfl rfl 3 (by decide) (hts _ wd37) (fun _ h9 => h9) rfl dX1_copyFrom_35 ?_
  refine va_put (D := G) (ci := 1) (v := .int (nI opl)) (ty := .int) (C := RX1) (T := TX1) (N := 7) hx hb hts inlX1 tyX1 tyX1_ok nmX1 hown hK.1 hP hD hS 0 rfl rfl 3 (by decide) (hts _ wd37) (fun _ h9 => h9) rfl (by decide +kernel) rfl rfl (Nat.le_of_ble_eq_true rfl) dX1_copyFrom_38 (fun H229 locs229 hP hD hS => ?_)
  have hP : va_P G vwCl [(qg, .inr (1, [.ref qb, .ref qt, .int ox, .int (nI opl), .int th, .int tu, .int ca])), (qt, .inl (cI, 3, .inl (va_cpy ose se 0 0 3))), (rg, .inr (1, [.ref rb, .ref rt, .int ox, .int (nI opl), .int oth, .int otu, .int oca])), (rt, .inl (cI, 3, .inl ose)), (qb, .inr (0, [.ref qp, .ref qs, .ref qr, .ref qf, .int ol])), (qp, .inl (cI, 12, .inl (va_cpy op pr 0 0 12))), (qs, .inl (cI, 12, .inl (va_cpy os sb 0 0 12))), (qr, .inl (cI, 4, .inl (va_cpy oR br 0 0 4))), (qf, .inl (cI, 4, .inl (va_cpy oe fe 0 0 4))), (rb, .inr (0, [.ref rp, .ref rs, .ref rr, .ref rf0, .int ol])), (rp, .inl (cI, 12, .inl op)), (rs, .inl (cI, 12, .inl os)), (rr, .inl (cI, 4, .inl oR)), (rf0, .inl (cI, 4, .inl oe))] H229 := hP
  have hD : va_D A [(qg, .inr (1, [.ref qb, .ref qt, .int ox, .int (nI opl), .int th, .int tu, .int ca])), (qt, .inl (cI, 3, .inl (va_cpy ose se 0 0 3))), (rg, .inr (1, [.ref rb, .ref rt, .int ox, .int (nI opl), .int oth, .int otu, .int oca])), (rt, .inl (cI, 3, .inl ose)), (qb, .inr (0, [.ref qp, .ref qs, .ref qr, .ref qf, .int ol])), (qp, .inl (cI, 12, .inl (va_cpy op pr 0 0 12))), (qs, .inl (cI, 12, .inl (va_cpy os sb 0 0 12))), (qr, .inl (cI, 4, .inl (va_cpy oR br 0 0 4))), (qf, .inl (cI, 4, .inl (va_cpy oe fe 0 0 4))), (rb, .inr (0, [.ref rp, .ref rs, .ref rr, .ref rf0, .int ol])), (rp, .inl (cI, 12, .inl op)), (rs, .inl (cI, 12, .inl os)), (rr, .inl (cI, 4, .inl oR)), (rf0, .inl (cI, 4, .inl oe))] := hD
  refine lv_aload_n hx hb dX1_copyFrom_41 rfl (lv_at hl 0 rfl) ?_
  refine lv_aload_n hx hb dX1_copyFrom_42 rfl (lv_at hl 1 rfl) ?_
  refine va_get (D := G) (ci := 1) (v := .int oth) (C := RX1) (T := TX1) (N := 7) hx hb hts inlX1 hown hK.1 hP 2 rfl rfl 4 (by decide) (hts _ wd38) (fun _ h9 => h9) rfl dX1_copyFrom_43 ?_
  refine va_put (D := G) (ci := 1) (v := .int oth) (ty := .int) (C := RX1) (T := TX1) (N := 7) hx hb hts inlX1 tyX1 tyX1_ok nmX1 hown hK.1 hP hD hS 0 rfl rfl 4 (by decide) (hts _ wd38) (fun _ h9 => h9) rfl (by decide +kernel) rfl rfl (Nat.le_of_ble_eq_true rfl) dX1_copyFrom_46 (fun H230 locs230 hP hD hS => ?_)
  have hP : va_P G vwCl [(qg, .inr (1, [.ref qb, .ref qt, .int ox, .int (nI opl), .int oth, .int tu, .int ca])), (qt, .inl (cI, 3, .inl (va_cpy ose se 0 0 3))), (rg, .inr (1, [.ref rb, .ref rt, .int ox, .int (nI opl), .int oth, .int otu, .int oca])), (rt, .inl (cI, 3, .inl ose)), (qb, .inr (0, [.ref qp, .ref qs, .ref qr, .ref qf, .int ol])), (qp, .inl (cI, 12, .inl (va_cpy op pr 0 0 12))), (qs, .inl (cI, 12, .inl (va_cpy os sb 0 0 12))), (qr, .inl (cI, 4, .inl (va_cpy oR br 0 0 4))), (qf, .inl (cI, 4, .inl (va_cpy oe fe 0 0 4))), (rb, .inr (0, [.ref rp, .ref rs, .ref rr, .ref rf0, .int ol])), (rp, .inl (cI, 12, .inl op)), (rs, .inl (cI, 12, .inl os)), (rr, .inl (cI, 4, .inl oR)), (rf0, .inl (cI, 4, .inl oe))] H230 := hP
  have hD : va_D A [(qg, .inr (1, [.ref qb, .ref qt, .int ox, .int (nI opl), .int oth, .int tu, .int ca])), (qt, .inl (cI, 3, .inl (va_cpy ose se 0 0 3))), (rg, .inr (1, [.ref rb, .ref rt, .int ox, .int (nI opl), .int oth, .int otu, .int oca])), (rt, .inl (cI, 3, .inl ose)), (qb, .inr (0, [.ref qp, .ref qs, .ref qr, .ref qf, .int ol])), (qp, .inl (cI, 12, .inl (va_cpy op pr 0 0 12))), (qs, .inl (cI, 12, .inl (va_cpy os sb 0 0 12))), (qr, .inl (cI, 4, .inl (va_cpy oR br 0 0 4))), (qf, .inl (cI, 4, .inl (va_cpy oe fe 0 0 4))), (rb, .inr (0, [.ref rp, .ref rs, .ref rr, .ref rf0, .int ol])), (rp, .inl (cI, 12, .inl op)), (rs, .inl (cI, 12, .inl os)), (rr, .inl (cI, 4, .inl oR)), (rf0, .inl (cI, 4, .inl oe))] := hD
  refine lv_aload_n hx hb dX1_copyFrom_49 rfl (lv_at hl 0 rfl) ?_
  refine lv_aload_n hx hb dX1_copyFrom_50 rfl (lv_at hl 1 rfl) ?_
  refine va_get (D := G) (ci := 1) (v := .int otu) (C := RX1) (T := TX1) (N := 7) hx hb hts inlX1 hown hK.1 hP 2 rfl rfl 5 (by decide) (hts _ wd39) (fun _ h9 => h9) rfl dX1_copyFrom_51 ?_
  refine va_put (D := G) (ci := 1) (v := .int otu) (ty := .int) (C := RX1) (T := TX1) (N := 7) hx hb hts inlX1 tyX1 tyX1_ok nmX1 hown hK.1 hP hD hS 0 rfl rfl 5 (by decide) (hts _ wd39) (fun _ h9 => h9) rfl (by decide +kernel) rfl rfl (Nat.le_of_ble_eq_true rfl) dX1_copyFrom_54 (fun H231 locs231 hP hD hS => ?_)
  have hP : va_P G vwCl [(qg, .inr (1, [.ref qb, .ref qt, .int ox, .int (nI opl), .int oth, .int otu, .int ca])), (qt, .inl (cI, 3, .inl (va_cpy ose se 0 0 3))), (rg, .inr (1, [.ref rb, .ref rt, .int ox, .int (nI opl), .int oth, .int otu, .int oca])), (rt, .inl (cI, 3, .inl ose)), (qb, .inr (0, [.ref qp, .ref qs, .ref qr, .ref qf, .int ol])), (qp, .inl (cI, 12, .inl (va_cpy op pr 0 0 12))), (qs, .inl (cI, 12, .inl (va_cpy os sb 0 0 12))), (qr, .inl (cI, 4, .inl (va_cpy oR br 0 0 4))), (qf, .inl (cI, 4, .inl (va_cpy oe fe 0 0 4))), (rb, .inr (0, [.ref rp, .ref rs, .ref rr, .ref rf0, .int ol])), (rp, .inl (cI, 12, .inl op)), (rs, .inl (cI, 12, .inl os)), (rr, .inl (cI, 4, .inl oR)), (rf0, .inl (cI, 4, .inl oe))] H231 := hP
  have hD : va_D A [(qg, .inr (1, [.ref qb, .ref qt, .int ox, .int (nI opl), .int oth, .int otu, .int ca])), (qt, .inl (cI, 3, .inl (va_cpy ose se 0 0 3))), (rg, .inr (1, [.ref rb, .ref rt, .int ox, .int (nI opl), .int oth, .int otu, .int oca])), (rt, .inl (cI, 3, .inl ose)), (qb, .inr (0, [.ref qp, .ref qs, .ref qr, .ref qf, .int ol])), (qp, .inl (cI, 12, .inl (va_cpy op pr 0 0 12))), (qs, .inl (cI, 12, .inl (va_cpy os sb 0 0 12))), (qr, .inl (cI, 4, .inl (va_cpy oR br 0 0 4))), (qf, .inl (cI, 4, .inl (va_cpy oe fe 0 0 4))), (rb, .inr (0, [.ref rp, .ref rs, .ref rr, .ref rf0, .int ol])), (rp, .inl (cI, 12, .inl op)), (rs, .inl (cI, 12, .inl os)), (rr, .inl (cI, 4, .inl oR)), (rf0, .inl (cI, 4, .inl oe))] := hD
  refine lv_aload_n hx hb dX1_copyFrom_57 rfl (lv_at hl 0 rfl) ?_
  refine lv_aload_n hx hb dX1_copyFrom_58 rfl (lv_at hl 1 rfl) ?_
  refine va_get (D := G) (ci := 1) (v := .int oca) (C := RX1) (T := TX1) (N := 7) hx hb hts inlX1 hown hK.1 hP 2 rfl rfl 6 (by decide) (hts _ wd40) (fun _ h9 => h9) rfl dX1_copyFrom_59 ?_
  refine va_put (D := G) (ci := 1) (v := .int oca) (ty := .int) (C := RX1) (T := TX1) (N := 7) hx hb hts inlX1 tyX1 tyX1_ok nmX1 hown hK.1 hP hD hS 0 rfl rfl 6 (by decide) (hts _ wd40) (fun _ h9 => h9) rfl (by decide +kernel) rfl rfl (Nat.le_of_ble_eq_true rfl) dX1_copyFrom_62 (fun H232 locs232 hP hD hS => ?_)
  have hP : va_P G vwCl [(qg, .inr (1, [.ref qb, .ref qt, .int ox, .int (nI opl), .int oth, .int otu, .int oca])), (qt, .inl (cI, 3, .inl (va_cpy ose se 0 0 3))), (rg, .inr (1, [.ref rb, .ref rt, .int ox, .int (nI opl), .int oth, .int otu, .int oca])), (rt, .inl (cI, 3, .inl ose)), (qb, .inr (0, [.ref qp, .ref qs, .ref qr, .ref qf, .int ol])), (qp, .inl (cI, 12, .inl (va_cpy op pr 0 0 12))), (qs, .inl (cI, 12, .inl (va_cpy os sb 0 0 12))), (qr, .inl (cI, 4, .inl (va_cpy oR br 0 0 4))), (qf, .inl (cI, 4, .inl (va_cpy oe fe 0 0 4))), (rb, .inr (0, [.ref rp, .ref rs, .ref rr, .ref rf0, .int ol])), (rp, .inl (cI, 12, .inl op)), (rs, .inl (cI, 12, .inl os)), (rr, .inl (cI, 4, .inl oR)), (rf0, .inl (cI, 4, .inl oe))] H232 := hP
  have hD : va_D A [(qg, .inr (1, [.ref qb, .ref qt, .int ox, .int (nI opl), .int oth, .int otu, .int oca])), (qt, .inl (cI, 3, .inl (va_cpy ose se 0 0 3))), (rg, .inr (1, [.ref rb, .ref rt, .int ox, .int (nI opl), .int oth, .int otu, .int oca])), (rt, .inl (cI, 3, .inl ose)), (qb, .inr (0, [.ref qp, .ref qs, .ref qr, .ref qf, .int ol])), (qp, .inl (cI, 12, .inl (va_cpy op pr 0 0 12))), (qs, .inl (cI, 12, .inl (va_cpy os sb 0 0 12))), (qr, .inl (cI, 4, .inl (va_cpy oR br 0 0 4))), (qf, .inl (cI, 4, .inl (va_cpy oe fe 0 0 4))), (rb, .inr (0, [.ref rp, .ref rs, .ref rr, .ref rf0, .int ol])), (rp, .inl (cI, 12, .inl op)), (rs, .inl (cI, 12, .inl os)), (rr, .inl (cI, 4, .inl oR)), (rf0, .inl (cI, 4, .inl oe))] := hD
  have hP := hP.sub (ws' := [(qg, .inr (1, [.ref qb, .ref qt, .int ox, .int (nI opl), .int oth, .int otu, .int oca])), (qt, .inl (cI, 3, .inl (va_cpy ose se 0 0 3))), (qb, .inr (0, [.ref qp, .ref qs, .ref qr, .ref qf, .int ol])), (qp, .inl (cI, 12, .inl (va_cpy op pr 0 0 12))), (qs, .inl (cI, 12, .inl (va_cpy os sb 0 0 12))), (qr, .inl (cI, 4, .inl (va_cpy oR br 0 0 4))), (qf, .inl (cI, 4, .inl (va_cpy oe fe 0 0 4))), (rg, .inr (1, [.ref rb, .ref rt, .int ox, .int (nI opl), .int oth, .int otu, .int oca])), (rt, .inl (cI, 3, .inl ose)), (rb, .inr (0, [.ref rp, .ref rs, .ref rr, .ref rf0, .int ol])), (rp, .inl (cI, 12, .inl op)), (rs, .inl (cI, 12, .inl os)), (rr, .inl (cI, 4, .inl oR)), (rf0, .inl (cI, 4, .inl oe))]) [0, 1, 4, 5, 6, 7, 8, 2, 3, 9, 10, 11, 12, 13] rfl
  have hD := hD.sub (ws' := [(qg, .inr (1, [.ref qb, .ref qt, .int ox, .int (nI opl), .int oth, .int otu, .int oca])), (qt, .inl (cI, 3, .inl (va_cpy ose se 0 0 3))), (qb, .inr (0, [.ref qp, .ref qs, .ref qr, .ref qf, .int ol])), (qp, .inl (cI, 12, .inl (va_cpy op pr 0 0 12))), (qs, .inl (cI, 12, .inl (va_cpy os sb 0 0 12))), (qr, .inl (cI, 4, .inl (va_cpy oR br 0 0 4))), (qf, .inl (cI, 4, .inl (va_cpy oe fe 0 0 4))), (rg, .inr (1, [.ref rb, .ref rt, .int ox, .int (nI opl), .int oth, .int otu, .int oca])), (rt, .inl (cI, 3, .inl ose)), (rb, .inr (0, [.ref rp, .ref rs, .ref rr, .ref rf0, .int ol])), (rp, .inl (cI, 12, .inl op)), (rs, .inl (cI, 12, .inl os)), (rr, .inl (cI, 4, .inl oR)), (rf0, .inl (cI, 4, .inl oe))]) [0, 1, 4, 5, 6, 7, 8, 2, 3, 9, 10, 11, 12, 13] (by decide) rfl
  exact W.vret hx hb hr (fun t ht hW => ⟨⟨(), rfl, trivial, by rw [ht]; exact hP, hD⟩, hS.F ht⟩) hS.2.2 dX1_copyFrom_65
