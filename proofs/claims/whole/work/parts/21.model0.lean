abbrev rm_X6_in : Room := { frames := 0, cells := 0, slots := 0, locals := 0 }
set_option maxHeartbeats 1000000 in
set_option maxRecDepth 100000 in
theorem c_X6_in (l : Launch) (v lo hi : Int32) : Met l yX6_in (.code yX6_in cX6_in 3 (some .boolean) :: wsL_law) rm_X6_in (va_Pc [.int v, .int lo, .int hi] (fun _ => True)) (vp_Si (fun r => r = bz (inQ v lo hi = true))) 0 0 (fun _ => False) := by
  refine met_p rfl (Nat.le_of_ble_eq_true rfl) ?_
  intro p e s m below meth c ls hx hb hr hml hown hts hlocks hl
  have hown : s.vm.findClass RX6 = some m.cls := hown
  have hl : lv_has ls 3 [(0, .int v), (1, .int lo), (2, .int hi)] := hl
  refine lv_iload_n hx hb dX6_in_0 rfl (lv_at hl 0 rfl) ?_
  refine lv_iload_n hx hb dX6_in_1 rfl (lv_at hl 1 rfl) ?_
  refine lv_icmp_lt (tgt := 14) hx hb dX6_in_2 (by decide) (fun c_243 => ?_) (fun c_243 => ?_)
  · refine lv_iconst (v := 0) hx hb dX6_in_14 (by decide) ?_
    exact W.zret (v := 0) hx hb hr rfl (fun t ht hW => ⟨0, rfl, bz_f (by simp [inQ, c_243]), ht⟩) (fun _ h => absurd h List.not_mem_nil) dX6_in_15
  · refine lv_iload_n hx hb dX6_in_5 rfl (lv_at hl 0 rfl) ?_
    refine lv_iload_n hx hb dX6_in_6 rfl (lv_at hl 2 rfl) ?_
    refine lv_icmp_gt (tgt := 14) hx hb dX6_in_7 (by decide) (fun c_244 => ?_) (fun c_244 => ?_)
    · refine lv_iconst (v := 0) hx hb dX6_in_14 (by decide) ?_
      exact W.zret (v := 0) hx hb hr rfl (fun t ht hW => ⟨0, rfl, bz_f (by simp [inQ, c_243, c_244]), ht⟩) (fun _ h => absurd h List.not_mem_nil) dX6_in_15
    · refine lv_iconst (v := 1) hx hb dX6_in_10 (by decide) ?_
      refine lv_goto (tgt := 15) hx hb dX6_in_11 (by decide) ?_
      exact W.zret (v := 1) hx hb hr rfl (fun t ht hW => ⟨1, rfl, bz_t (by simp [inQ, c_243, c_244]), ht⟩) (fun _ h => absurd h List.not_mem_nil) dX6_in_15

abbrev rm_X6_isPiece : Room := { frames := 1, cells := 0, slots := 0, locals := 22 }
theorem cf_RX6_32 {R : Room} {s : State} {args : Array Value} (ht : ∀ w ∈ wsL_law, w.before args s = true) (hR : rm_X6_in.frames + 1 ≤ R.frames ∧ 8 + (3 + 11) + rm_X6_in.locals ≤ R.locals) : CallB R s args RX6 32 yX6_in cX6_in 3 (some .boolean) (.code yX6_in cX6_in 3 (some .boolean) :: wsL_law) rm_X6_in 0 0 3 ∧ (Cond.static yX6_in).before args s = true := ⟨cw_B 3 ht wd110 wd5 wd112 (by decide +kernel) rfl rfl hR, ht _ wd111⟩
set_option maxHeartbeats 1000000 in
set_option maxRecDepth 100000 in
theorem c_X6_isPiece (l : Launch) (k : Int32) : Met l yX6_isPiece (.code yX6_isPiece cX6_isPiece 1 (some .boolean) :: wsL_law) rm_X6_isPiece (va_Pc [.int k] (fun _ => True)) (vp_Si (fun r => r = bz (inQ k 0 11 = true))) 0 0 (fun _ => False) := by
  refine met_p rfl (Nat.le_of_ble_eq_true rfl) ?_
  intro p e s m below meth c ls hx hb hr hml hown hts hlocks hl
  have hown : s.vm.findClass RX6 = some m.cls := hown
  have hl : lv_has ls 1 [(0, .int k)] := hl
  refine lv_iload_n hx hb dX6_isPiece_0 rfl (lv_at hl 0 rfl) ?_
  refine lv_iconst (v := 0) hx hb dX6_isPiece_1 (by decide) ?_
  refine lv_bipush (v := 11) hx hb dX6_isPiece_2 (by decide) ?_
  refine vp_callSi (va_Run.run (va_runS (As := [.int k, .int 0, .int 11]) (rest := []) ⟨hx, hb, hml, hown, hts⟩ (c_X6_in l k 0 11) (cf_RX6_32 hts ⟨Nat.le_of_ble_eq_true rfl, Nat.le_of_ble_eq_true rfl⟩) pre_P rfl rfl hl.1 rfl (lv_room (Nat.le_of_ble_eq_true rfl)) dX6_isPiece_4 ⟨Nat.le_of_ble_eq_true rfl, Nat.le_of_ble_eq_true rfl⟩)) (fun r245 hr245 => ?_)
  subst hr245
  exact W.zret (v := bz (inQ k 0 11 = true)) hx hb hr bz_nar (fun t ht hW => ⟨bz (inQ k 0 11 = true), rfl, rfl, ht⟩) (fun _ h => absurd h List.not_mem_nil) dX6_isPiece_7

abbrev rm_X6_fieldAt : Room := { frames := 1, cells := 0, slots := 0, locals := 22 }
set_option maxHeartbeats 1000000 in
set_option maxRecDepth 100000 in
theorem c_X6_fieldAt (l : Launch) (pn : Nat) (v : Int32) (hp : pn < 4) : Met l yX6_fieldAt (.code yX6_fieldAt cX6_fieldAt 2 (some .int) :: wsL_law) rm_X6_fieldAt (va_Pc [.int (nI pn), .int v] (fun _ => True)) (vp_Si (fun r => r = rf pn v)) 0 0 (fun _ => False) := by
  refine met_p rfl (Nat.le_of_ble_eq_true rfl) ?_
  intro p e s m below meth c ls hx hb hr hml hown hts hlocks hl
  have hown : s.vm.findClass RX6 = some m.cls := hown
  have hl : lv_has ls 2 [(0, .int (nI pn)), (1, .int v)] := hl
  refine lv_iload_n hx hb dX6_fieldAt_0 rfl (lv_at hl 1 rfl) ?_
  refine lv_iconst (v := 0) hx hb dX6_fieldAt_1 (by decide) ?_
  refine lv_bipush (v := 31) hx hb dX6_fieldAt_2 (by decide) ?_
  refine vp_callSi (va_Run.run (va_runS (As := [.int v, .int 0, .int 31]) (rest := []) ⟨hx, hb, hml, hown, hts⟩ (c_X6_in l v 0 31) (cf_RX6_32 hts ⟨Nat.le_of_ble_eq_true rfl, Nat.le_of_ble_eq_true rfl⟩) pre_P rfl rfl hl.1 rfl (lv_room (Nat.le_of_ble_eq_true rfl)) dX6_fieldAt_4 ⟨Nat.le_of_ble_eq_true rfl, Nat.le_of_ble_eq_true rfl⟩)) (fun r246 hr246 => ?_)
  subst hr246
  refine zb_eq (tgt := 22) hx hb dX6_fieldAt_7 (by decide) (fun c_247 => ?_) (fun c_247 => ?_)
  · refine lv_bipush (v := (-6)) hx hb dX6_fieldAt_22 (by decide) ?_
    exact W.iret (v := (-6)) hx hb hr (fun t ht hW => ⟨(-6), rfl, (rf_out c_247), ht⟩) (fun _ h => absurd h List.not_mem_nil) dX6_fieldAt_24
  · refine lv_bipush (v := 8) hx hb dX6_fieldAt_10 (by decide) ?_
    refine lv_iload_n hx hb dX6_fieldAt_12 rfl (lv_at hl 0 rfl) ?_
    refine zi_mul hx hb 8 pn dX6_fieldAt_13 rfl rfl ?_
    refine lv_iload_n hx hb dX6_fieldAt_14 rfl (lv_at hl 1 rfl) ?_
    refine lv_iadd hx hb dX6_fieldAt_15 ?_
    refine lv_bipush (v := 32) hx hb dX6_fieldAt_16 (by decide) ?_
    refine zi_jr hx hb dX6_fieldAt_18 (by decide) ?_
    refine lv_goto (tgt := 24) hx hb dX6_fieldAt_19 (by decide) ?_
    exact W.iret (v := jr ((nI (8 * pn)) + v) 32) hx hb hr (fun t ht hW => ⟨jr ((nI (8 * pn)) + v) 32, rfl, (rf_in c_247), ht⟩) (fun _ h => absurd h List.not_mem_nil) dX6_fieldAt_24

abbrev rm_X6_isSafe : Room := { frames := 0, cells := 0, slots := 0, locals := 0 }
set_option maxHeartbeats 1000000 in
set_option maxRecDepth 100000 in
theorem c_X6_isSafe (l : Launch) (f : Int32) : Met l yX6_isSafe (.code yX6_isSafe cX6_isSafe 1 (some .boolean) :: wsL_law) rm_X6_isSafe (va_Pc [.int f] (fun _ => True)) (vp_Si (fun r => r = bz (jr f 8 = 0))) 0 0 (fun _ => False) := by
  refine met_p rfl (Nat.le_of_ble_eq_true rfl) ?_
  intro p e s m below meth c ls hx hb hr hml hown hts hlocks hl
  have hown : s.vm.findClass RX6 = some m.cls := hown
  have hl : lv_has ls 1 [(0, .int f)] := hl
  refine lv_iload_n hx hb dX6_isSafe_0 rfl (lv_at hl 0 rfl) ?_
  refine lv_bipush (v := 8) hx hb dX6_isSafe_1 (by decide) ?_
  refine zi_jr hx hb dX6_isSafe_3 (by decide) ?_
  refine lv_if_ne (tgt := 11) hx hb dX6_isSafe_4 (by decide) (fun c_248 => ?_) (fun c_248 => ?_)
  · refine lv_iconst (v := 0) hx hb dX6_isSafe_11 (by decide) ?_
    exact W.zret (v := 0) hx hb hr rfl (fun t ht hW => ⟨0, rfl, bz_f (by simp [ne_eq, c_248]), ht⟩) (fun _ h => absurd h List.not_mem_nil) dX6_isSafe_12
  · refine lv_iconst (v := 1) hx hb dX6_isSafe_7 (by decide) ?_
    refine lv_goto (tgt := 12) hx hb dX6_isSafe_8 (by decide) ?_
    exact W.zret (v := 1) hx hb hr rfl (fun t ht hW => ⟨1, rfl, bz_t (by simp [ne_eq, c_248]), ht⟩) (fun _ h => absurd h List.not_mem_nil) dX6_isSafe_12

abbrev rm_X6_isBridge : Room := { frames := 0, cells := 0, slots := 0, locals := 0 }
set_option maxHeartbeats 1000000 in
set_option maxRecDepth 100000 in
theorem c_X6_isBridge (l : Launch) (f : Int32) : Met l yX6_isBridge (.code yX6_isBridge cX6_isBridge 1 (some .boolean) :: wsL_law) rm_X6_isBridge (va_Pc [.int f] (fun _ => True)) (vp_Si (fun r => r = bz (jr f 8 = 4))) 0 0 (fun _ => False) := by
  refine met_p rfl (Nat.le_of_ble_eq_true rfl) ?_
  intro p e s m below meth c ls hx hb hr hml hown hts hlocks hl
  have hown : s.vm.findClass RX6 = some m.cls := hown
  have hl : lv_has ls 1 [(0, .int f)] := hl
  refine lv_iload_n hx hb dX6_isBridge_0 rfl (lv_at hl 0 rfl) ?_
  refine lv_bipush (v := 8) hx hb dX6_isBridge_1 (by decide) ?_
  refine zi_jr hx hb dX6_isBridge_3 (by decide) ?_
  refine lv_iconst (v := 4) hx hb dX6_isBridge_4 (by decide) ?_
  refine lv_icmp_ne (tgt := 12) hx hb dX6_isBridge_5 (by decide) (fun c_249 => ?_) (fun c_249 => ?_)
  · refine lv_iconst (v := 0) hx hb dX6_isBridge_12 (by decide) ?_
    exact W.zret (v := 0) hx hb hr rfl (fun t ht hW => ⟨0, rfl, bz_f (by simp [ne_eq, c_249]), ht⟩) (fun _ h => absurd h List.not_mem_nil) dX6_isBridge_13
  · refine lv_iconst (v := 1) hx hb dX6_isBridge_8 (by decide) ?_
    refine lv_goto (tgt := 13) hx hb dX6_isBridge_9 (by decide) ?_
    exact W.zret (v := 1) hx hb hr rfl (fun t ht hW => ⟨1, rfl, bz_t (by simp [ne_eq, c_249]), ht⟩) (fun _ h => absurd h List.not_mem_nil) dX6_isBridge_13

abbrev rm_X6_least : Room := { frames := 0, cells := 0, slots := 0, locals := 0 }
set_option maxHeartbeats 1000000 in
set_option maxRecDepth 100000 in
theorem c_X6_least (l : Launch) (k : Int32) : Met l yX6_least (.code yX6_least cX6_least 1 (some .int) :: wsL_law) rm_X6_least (va_Pc [.int k] (fun _ => True)) (vp_Si (fun r => r = if k = 0 then 1 else 0)) 0 0 (fun _ => False) := by
  refine met_p rfl (Nat.le_of_ble_eq_true rfl) ?_
  intro p e s m below meth c ls hx hb hr hml hown hts hlocks hl
  have hown : s.vm.findClass RX6 = some m.cls := hown
  have hl : lv_has ls 1 [(0, .int k)] := hl
  refine lv_iload_n hx hb dX6_least_0 rfl (lv_at hl 0 rfl) ?_
  refine lv_if_ne (tgt := 8) hx hb dX6_least_1 (by decide) (fun c_250 => ?_) (fun c_250 => ?_)
  · refine lv_iconst (v := 0) hx hb dX6_least_8 (by decide) ?_
    exact W.iret (v := 0) hx hb hr (fun t ht hW => ⟨0, rfl, by simp [c_250], ht⟩) (fun _ h => absurd h List.not_mem_nil) dX6_least_9
  · refine lv_iconst (v := 1) hx hb dX6_least_4 (by decide) ?_
    refine lv_goto (tgt := 9) hx hb dX6_least_5 (by decide) ?_
    exact W.iret (v := 1) hx hb hr (fun t ht hW => ⟨1, rfl, by simp [c_250], ht⟩) (fun _ h => absurd h List.not_mem_nil) dX6_least_9

abbrev rm_X6_most : Room := { frames := 0, cells := 0, slots := 0, locals := 0 }
set_option maxHeartbeats 1000000 in
set_option maxRecDepth 100000 in
theorem c_X6_most (l : Launch) (k : Int32) : Met l yX6_most (.code yX6_most cX6_most 1 (some .int) :: wsL_law) rm_X6_most (va_Pc [.int k] (fun _ => True)) (vp_Si (fun r => r = if k = 0 then 6 else if k = 1 then 40 else 3)) 0 0 (fun _ => False) := by
  refine met_p rfl (Nat.le_of_ble_eq_true rfl) ?_
  intro p e s m below meth c ls hx hb hr hml hown hts hlocks hl
  have hown : s.vm.findClass RX6 = some m.cls := hown
  have hl : lv_has ls 1 [(0, .int k)] := hl
  refine lv_iload_n hx hb dX6_most_0 rfl (lv_at hl 0 rfl) ?_
  refine lv_if_ne (tgt := 9) hx hb dX6_most_1 (by decide) (fun c_251 => ?_) (fun c_251 => ?_)
  · refine lv_iload_n hx hb dX6_most_9 rfl (lv_at hl 0 rfl) ?_
    refine lv_iconst (v := 1) hx hb dX6_most_10 (by decide) ?_
    refine lv_icmp_ne (tgt := 19) hx hb dX6_most_11 (by decide) (fun c_252 => ?_) (fun c_252 => ?_)
    · refine lv_iconst (v := 3) hx hb dX6_most_19 (by decide) ?_
      exact W.iret (v := 3) hx hb hr (fun t ht hW => ⟨3, rfl, by simp [c_251, c_252], ht⟩) (fun _ h => absurd h List.not_mem_nil) dX6_most_20
    · refine lv_bipush (v := 40) hx hb dX6_most_14 (by decide) ?_
      refine lv_goto (tgt := 20) hx hb dX6_most_16 (by decide) ?_
      exact W.iret (v := 40) hx hb hr (fun t ht hW => ⟨40, rfl, by simp [c_251, c_252], ht⟩) (fun _ h => absurd h List.not_mem_nil) dX6_most_20
  · refine lv_bipush (v := 6) hx hb dX6_most_4 (by decide) ?_
    refine lv_goto (tgt := 20) hx hb dX6_most_6 (by decide) ?_
    exact W.iret (v := 6) hx hb hr (fun t ht hW => ⟨6, rfl, by simp [c_251], ht⟩) (fun _ h => absurd h List.not_mem_nil) dX6_most_20

abbrev rm_X6_fieldOf : Room := { frames := 2, cells := 0, slots := 0, locals := 43 }
theorem cf_RX6_36 {R : Room} {s : State} {args : Array Value} (ht : ∀ w ∈ wsL_law, w.before args s = true) (hR : rm_X6_fieldAt.frames + 1 ≤ R.frames ∧ 8 + (2 + 11) + rm_X6_fieldAt.locals ≤ R.locals) : CallB R s args RX6 36 yX6_fieldAt cX6_fieldAt 2 (some .int) (.code yX6_fieldAt cX6_fieldAt 2 (some .int) :: wsL_law) rm_X6_fieldAt 0 0 2 ∧ (Cond.static yX6_fieldAt).before args s = true := ⟨cw_B 2 ht wd272 wd5 wd274 (by decide +kernel) rfl rfl hR, ht _ wd273⟩
set_option maxHeartbeats 1000000 in
set_option maxRecDepth 100000 in
theorem c_X6_fieldOf (l : Launch) (G : va_G) (cI cC cZ cG : ClassId) (sz : Nat) (qm qz qa qe qs qv qp qn : Nat) (z as be sl sv pd nd : IA) (sts len : Nat) (go : Int32) (k : Nat) (hk : k < 12) : Met l yX6_fieldOf (.code yX6_fieldOf cX6_fieldOf 2 (some .int) :: wsL_law) rm_X6_fieldOf (va_Pc [.ref qm, .int (nI k)] (bw G cI cC cZ cG false sz [(qm, .inr (6, [.ref qz, .ref qa, .ref qe, .int (nI sts), .ref qs, .ref qv, .ref qp, .int (nI len), .int go, .ref qn])), (qz, .inl (cI, 46, .inl z)), (qa, .inl (cI, 46, .inl as)), (qe, .inl (cI, 276, .inl be)), (qs, .inl (cI, 92, .inl sl)), (qv, .inl (cZ, 2, .inl sv)), (qp, .inl (cI, 60, .inl pd)), (qn, .inl (cI, 36, .inl nd))])) (vp_Si (fun r => r = rf (k / 3) (z k))) 0 0 (fun _ => False) := by
  refine met_bw rfl (Nat.le_of_ble_eq_true rfl) ?_
  intro p e s m below meth c ls hx hb hr hml hown hts hlocks hin hsz hP hK hD0 hX0 hl
  have hown : s.vm.findClass RX6 = some m.cls := hown
  have hl : lv_has ls 2 [(0, .ref qm), (1, .int (nI k))] := hl
  refine lv_iload_n hx hb dX6_fieldOf_0 rfl (lv_at hl 1 rfl) ?_
  refine lv_iconst (v := 3) hx hb dX6_fieldOf_1 (by decide) ?_
  refine zi_div hx hb k 3 dX6_fieldOf_2 rfl rfl (by omega) (by decide) (by decide) ?_
  refine lv_aload_n hx hb dX6_fieldOf_3 rfl (lv_at hl 0 rfl) ?_
  refine va_get (D := G) (ci := 6) (v := .ref qz) (C := RX6) (T := TX6) (N := 10) hx hb hts inlX6 hown hK.1 hP 0 rfl rfl 0 (by decide) (hts _ wd78) (fun _ h9 => h9) rfl dX6_fieldOf_4 ?_
  refine lv_iload_n hx hb dX6_fieldOf_7 rfl (lv_at hl 1 rfl) ?_
  refine za_ld hx hb hK.1 hP 1 0 rfl rfl k rfl (by omega) (by decide) dX6_fieldOf_8 ?_
  refine vp_callSi (va_Run.run (va_runS (As := [.int (nI (k / 3)), .int (z k)]) (rest := []) ⟨hx, hb, hml, hown, hts⟩ (c_X6_fieldAt l (k / 3) (z k) (by omega)) (cf_RX6_36 hts ⟨Nat.le_of_ble_eq_true rfl, Nat.le_of_ble_eq_true rfl⟩) pre_P rfl rfl hl.1 rfl (lv_room (Nat.le_of_ble_eq_true rfl)) dX6_fieldOf_9 ⟨Nat.le_of_ble_eq_true rfl, Nat.le_of_ble_eq_true rfl⟩)) (fun r253 hr253 => ?_)
  subst hr253
  exact W.iret (v := rf (k / 3) (z k)) hx hb hr (fun t ht hW => ⟨rf (k / 3) (z k), rfl, rfl, ht⟩) (fun _ h => absurd h List.not_mem_nil) dX6_fieldOf_12

abbrev rm_X6_isFallen : Room := { frames := 1, cells := 0, slots := 0, locals := 20 }
theorem cf_RX6_40 {R : Room} {s : State} {args : Array Value} (ht : ∀ w ∈ wsL_law, w.before args s = true) (hR : rm_X6_isBridge.frames + 1 ≤ R.frames ∧ 8 + (1 + 11) + rm_X6_isBridge.locals ≤ R.locals) : CallB R s args RX6 40 yX6_isBridge cX6_isBridge 1 (some .boolean) (.code yX6_isBridge cX6_isBridge 1 (some .boolean) :: wsL_law) rm_X6_isBridge 0 0 1 ∧ (Cond.static yX6_isBridge).before args s = true := ⟨cw_B 1 ht wd279 wd5 wd281 (by decide +kernel) rfl rfl hR, ht _ wd280⟩
set_option maxHeartbeats 1000000 in
set_option maxRecDepth 100000 in
theorem c_X6_isFallen (l : Launch) (G : va_G) (cI cC cZ cG : ClassId) (sz : Nat) (qm qz qa qe qs qv qp qn : Nat) (z as be sl sv pd nd : IA) (sts len : Nat) (go : Int32) (f : Int32) (hf : okf f) : Met l yX6_isFallen (.code yX6_isFallen cX6_isFallen 2 (some .boolean) :: wsL_law) rm_X6_isFallen (va_Pc [.ref qm, .int f] (bw G cI cC cZ cG false sz [(qm, .inr (6, [.ref qz, .ref qa, .ref qe, .int (nI sts), .ref qs, .ref qv, .ref qp, .int (nI len), .int go, .ref qn])), (qz, .inl (cI, 46, .inl z)), (qa, .inl (cI, 46, .inl as)), (qe, .inl (cI, 276, .inl be)), (qs, .inl (cI, 92, .inl sl)), (qv, .inl (cZ, 2, .inl sv)), (qp, .inl (cI, 60, .inl pd)), (qn, .inl (cI, 36, .inl nd))])) (vp_Si (fun r => r = bz (mfa z f = true))) 0 0 (fun _ => False) := by
  refine met_bw rfl (Nat.le_of_ble_eq_true rfl) ?_
  intro p e s m below meth c ls hx hb hr hml hown hts hlocks hin hsz hP hK hD0 hX0 hl
  have hown : s.vm.findClass RX6 = some m.cls := hown
  have hl : lv_has ls 2 [(0, .ref qm), (1, .int f)] := hl
  rcases hf with rfl | ⟨a, ha, rfl⟩
  · refine lv_iload_n hx hb dX6_isFallen_0 rfl (lv_at hl 1 rfl) ?_
    refine lv_if_lt (tgt := 31) hx hb dX6_isFallen_1 (by decide) (fun c_254 => ?_) (fun c_254 => ?_)
    · refine lv_iconst (v := 0) hx hb dX6_isFallen_31 (by decide) ?_
      exact W.zret (v := 0) hx hb hr rfl (fun t ht hW => ⟨0, rfl, bz_f (by simp [mfa]), ht⟩) (fun _ h => absurd h List.not_mem_nil) dX6_isFallen_32
    · exact absurd c_254 (by decide)
  · refine lv_iload_n hx hb dX6_isFallen_0 rfl (lv_at hl 1 rfl) ?_
    refine z0_lt (tgt := 31) hx hb a dX6_isFallen_1 (by decide) rfl (by omega) ?_
    refine lv_iload_n hx hb dX6_isFallen_4 rfl (lv_at hl 1 rfl) ?_
    refine vp_callSi (va_Run.run (va_runS (As := [.int (nI a)]) (rest := []) ⟨hx, hb, hml, hown, hts⟩ (c_X6_isBridge l (nI a)) (cf_RX6_40 hts ⟨Nat.le_of_ble_eq_true rfl, Nat.le_of_ble_eq_true rfl⟩) pre_P rfl rfl hl.1 rfl (lv_room (Nat.le_of_ble_eq_true rfl)) dX6_isFallen_5 ⟨Nat.le_of_ble_eq_true rfl, Nat.le_of_ble_eq_true rfl⟩)) (fun r256 hr256 => ?_)
    subst hr256
    refine zb_eq (tgt := 31) hx hb dX6_isFallen_8 (by decide) (fun c_257 => ?_) (fun c_257 => ?_)
    · refine lv_iconst (v := 0) hx hb dX6_isFallen_31 (by decide) ?_
      exact W.zret (v := 0) hx hb hr rfl (fun t ht hW => ⟨0, rfl, bz_f (by simp [mfa, c_257]), ht⟩) (fun _ h => absurd h List.not_mem_nil) dX6_isFallen_32
    · refine lv_aload_n hx hb dX6_isFallen_11 rfl (lv_at hl 0 rfl) ?_
      refine va_get (D := G) (ci := 6) (v := .ref qz) (C := RX6) (T := TX6) (N := 10) hx hb hts inlX6 hown hK.1 hP 0 rfl rfl 0 (by decide) (hts _ wd78) (fun _ h9 => h9) rfl dX6_isFallen_12 ?_
      refine lv_bipush (v := 24) hx hb dX6_isFallen_15 (by decide) ?_
      refine lv_iload_n hx hb dX6_isFallen_17 rfl (lv_at hl 1 rfl) ?_
      refine lv_bipush (v := 8) hx hb dX6_isFallen_18 (by decide) ?_
      refine zi_div hx hb a 8 dX6_isFallen_20 rfl rfl (by omega) (by decide) (by decide) ?_
      refine zi_add hx hb 24 (a / 8) dX6_isFallen_21 rfl rfl ?_
      refine za_ld hx hb hK.1 hP 1 0 rfl rfl (24 + (a / 8)) rfl (by omega) (by decide) dX6_isFallen_22 ?_
      refine lv_iconst (v := 1) hx hb dX6_isFallen_23 (by decide) ?_
      refine lv_icmp_ne (tgt := 31) hx hb dX6_isFallen_24 (by decide) (fun c_258 => ?_) (fun c_258 => ?_)
      · refine lv_iconst (v := 0) hx hb dX6_isFallen_31 (by decide) ?_
        exact W.zret (v := 0) hx hb hr rfl (fun t ht hW => ⟨0, rfl, bz_f (by rw [mfa, nI_clamp (by omega)]; simp [c_257, c_258]), ht⟩) (fun _ h => absurd h List.not_mem_nil) dX6_isFallen_32
      · refine lv_iconst (v := 1) hx hb dX6_isFallen_27 (by decide) ?_
        refine lv_goto (tgt := 32) hx hb dX6_isFallen_28 (by decide) ?_
        exact W.zret (v := 1) hx hb hr rfl (fun t ht hW => ⟨1, rfl, bz_t (by rw [mfa, nI_clamp (by omega)]; simp [c_257, c_258, nI_pos (show a < 2 ^ 31 by omega)]), ht⟩) (fun _ h => absurd h List.not_mem_nil) dX6_isFallen_32

abbrev rm_X6_piecesOn : Room := { frames := 3, cells := 0, slots := 0, locals := 64 }
theorem cf_RX6_44 {R : Room} {s : State} {args : Array Value} (ht : ∀ w ∈ wsL_law, w.before args s = true) (hR : rm_X6_fieldOf.frames + 1 ≤ R.frames ∧ 8 + (2 + 11) + rm_X6_fieldOf.locals ≤ R.locals) : CallW R s args RX6 RX6 44 yX6_fieldOf cX6_fieldOf 2 (some .int) (.code yX6_fieldOf cX6_fieldOf 2 (some .int) :: wsL_law) rm_X6_fieldOf 0 0 1 := ⟨cw_B 1 ht wd290 wd5 wd293 (by decide +kernel) rfl rfl hR, ht _ wd291, ht _ wd292⟩
set_option maxHeartbeats 1000000 in
set_option maxRecDepth 100000 in
theorem c_X6_piecesOn (l : Launch) (G : va_G) (cI cC cZ cG : ClassId) (sz : Nat) (qm qz qa qe qs qv qp qn : Nat) (z as be sl sv pd nd : IA) (sts len : Nat) (go : Int32) (pn : Nat) (f0 : Int32) (hp : pn < 4) : Met l yX6_piecesOn (.code yX6_piecesOn cX6_piecesOn 5 (some .int) :: wsL_law) rm_X6_piecesOn (va_Pc [.ref qm, .int (nI pn), .int f0] (bw G cI cC cZ cG false sz [(qm, .inr (6, [.ref qz, .ref qa, .ref qe, .int (nI sts), .ref qs, .ref qv, .ref qp, .int (nI len), .int go, .ref qn])), (qz, .inl (cI, 46, .inl z)), (qa, .inl (cI, 46, .inl as)), (qe, .inl (cI, 276, .inl be)), (qs, .inl (cI, 92, .inl sl)), (qv, .inl (cZ, 2, .inl sv)), (qp, .inl (cI, 60, .inl pd)), (qn, .inl (cI, 36, .inl nd))])) (vp_Si (fun r => r = nI (mpc z pn f0))) 0 0 (fun _ => False) := by
  refine met_bw rfl (Nat.le_of_ble_eq_true rfl) ?_
  intro p e s m below meth c ls hx hb hr hml hown hts hlocks hin hsz hP hK hD0 hX0 hl
  have hown : s.vm.findClass RX6 = some m.cls := hown
  have hl : lv_has ls 5 [(0, .ref qm), (1, .int (nI pn)), (2, .int f0)] := hl
  generalize hQ : MQ below (vp_Si (fun r => r = nI (mpc z pn f0))) ([.ref qm, .int (nI pn), .int f0] : List Value).toArray s 0 0 (fun _ => False) = Q
  generalize hag : ([.ref qm, .int (nI pn), .int f0] : List Value).toArray = ag at hts hQ ⊢
  refine lv_iconst (v := 0) hx hb dX6_piecesOn_0 (by decide) ?_
  refine lv_istore_n (lv' := [(3, .int 0), (0, .ref qm), (1, .int (nI pn)), (2, .int f0)]) hx hb dX6_piecesOn_1 rfl hl (by decide) rfl (fun ls hl => ?_)
  refine lv_iconst (v := 0) hx hb dX6_piecesOn_2 (by decide) ?_
  refine lv_istore (lv' := [(4, .int 0), (3, .int 0), (0, .ref qm), (1, .int (nI pn)), (2, .int f0)]) hx hb dX6_piecesOn_3 hl (by decide) rfl (fun ls hl => ?_)
  have L1 : ∀ (n : Nat), ∀ (i : Nat), ∀ (f : Nat), ∀ (hi : i ≤ 3), ∀ (hf2 : f = cnt (mpP z pn f0) i), ∀ (hn : 4 ≤ i + n), ∀ (ls : Array Slot), lv_has ls 5 [(4, .int (nI i)), (3, .int (nI f)), (0, .ref qm), (1, .int (nI pn)), (2, .int f0)] → W p l e rm_X6_piecesOn s m ag below meth c s.heap [] 0 0 Q (F0 m 5 ls []) := by
    intro n
    induction n with
    | zero =>
      intro i f hi hf2 hn ls hl
      omega
    | succ n ih1 =>
      intro i f hi hf2 hn ls hl
      refine lv_iload hx hb dX6_piecesOn_5 (lv_at hl 0 rfl) ?_
      refine lv_iconst (v := 3) hx hb dX6_piecesOn_7 (by decide) ?_
      refine zi_ge (tgt := 43) hx hb i 3 dX6_piecesOn_8 (by decide) rfl rfl (by omega) (by decide) (fun c_260 => ?_) (fun c_260 => ?_)
      · refine lv_iload_n hx hb dX6_piecesOn_43 rfl (lv_at hl 1 rfl) ?_
        subst hQ
        exact W.iret (v := nI f) hx hb hr (fun t ht hW => ⟨nI f, rfl, by rw [hf2, show i = 3 by omega]; rfl, ht⟩) (fun _ h => absurd h List.not_mem_nil) dX6_piecesOn_44
      · refine lv_iload_n hx hb dX6_piecesOn_11 rfl (lv_at hl 1 rfl) ?_
        refine lv_iload_n hx hb dX6_piecesOn_12 rfl (lv_at hl 4 rfl) ?_
        refine lv_if_lt (tgt := 34) hx hb dX6_piecesOn_13 (by decide) (fun c_261 => ?_) (fun c_261 => ?_)
        · refine lv_iconst (v := 0) hx hb dX6_piecesOn_34 (by decide) ?_
          refine zi_add hx hb f 0 dX6_piecesOn_35 rfl rfl ?_
          refine lv_istore_n (lv' := [(3, .int (nI (f + 0))), (4, .int (nI i)), (0, .ref qm), (1, .int (nI pn)), (2, .int f0)]) hx hb dX6_piecesOn_36 rfl hl (by decide) rfl (fun ls hl => ?_)
          refine lv_iinc (v := nI (i + 1)) (lv' := [(4, .int (nI (i + 1))), (3, .int (nI (f + 0))), (0, .ref qm), (1, .int (nI pn)), (2, .int f0)]) hx hb dX6_piecesOn_37 hl (k := 1) rfl (nI_inc i) (by decide) rfl (fun ls hl => ?_)
          refine lv_goto (tgt := 5) hx hb dX6_piecesOn_40 (by decide) ?_
          exact ih1 (i + 1) (f + 0) (by omega) (by rw [Nat.add_zero, cnt_f (by simp [mpP, c_260, c_261]), hf2]) (by omega) _ (lv_sub hl [0, 1, 2, 3, 4] rfl)
        · refine lv_aload_n hx hb dX6_piecesOn_16 rfl (lv_at hl 2 rfl) ?_
          refine lv_iconst (v := 3) hx hb dX6_piecesOn_17 (by decide) ?_
          refine lv_iload_n hx hb dX6_piecesOn_18 rfl (lv_at hl 3 rfl) ?_
          refine zi_mul hx hb 3 pn dX6_piecesOn_19 rfl rfl ?_
          refine lv_iload hx hb dX6_piecesOn_20 (lv_at hl 0 rfl) ?_
          refine zi_add hx hb (3 * pn) i dX6_piecesOn_22 rfl rfl ?_
          have hPc : va_P G vwCl [(qm, .inr (6, [.ref qz, .ref qa, .ref qe, .int (nI sts), .ref qs, .ref qv, .ref qp, .int (nI len), .int go, .ref qn])), (qz, .inl (cI, 46, .inl z)), (qa, .inl (cI, 46, .inl as)), (qe, .inl (cI, 276, .inl be)), (qs, .inl (cI, 92, .inl sl)), (qv, .inl (cZ, 2, .inl sv)), (qp, .inl (cI, 60, .inl pd)), (qn, .inl (cI, 36, .inl nd))] s.heap := hP
          have hDc := hD0
          refine vp_callSi (va_Run.run (va_runV (As := [.int (nI ((3 * pn) + i))]) (rest := [.int (nI f)]) ⟨hx, hb, hml, hown, hts⟩ (c_X6_fieldOf l G cI cC cZ cG s.heap.size qm qz qa qe qs qv qp qn z as be sl sv pd nd sts len go ((3 * pn) + i) (by omega)) (cf_RX6_44 hts ⟨Nat.le_of_ble_eq_true rfl, Nat.le_of_ble_eq_true rfl⟩) (pre_V hK hPc hDc (ci := 6) (q0 := 0) rfl rfl) rfl rfl hl.1 rfl (lv_room (Nat.le_of_ble_eq_true rfl)) dX6_piecesOn_23 ⟨Nat.le_of_ble_eq_true rfl, Nat.le_of_ble_eq_true rfl⟩)) (fun r262 hr262 => ?_)
          subst hr262
          refine lv_iload_n hx hb dX6_piecesOn_26 rfl (lv_at hl 4 rfl) ?_
          refine lv_icmp_ne (tgt := 34) hx hb dX6_piecesOn_27 (by decide) (fun c_263 => ?_) (fun c_263 => ?_)
          · refine lv_iconst (v := 0) hx hb dX6_piecesOn_34 (by decide) ?_
            refine zi_add hx hb f 0 dX6_piecesOn_35 rfl rfl ?_
            refine lv_istore_n (lv' := [(3, .int (nI (f + 0))), (4, .int (nI i)), (0, .ref qm), (1, .int (nI pn)), (2, .int f0)]) hx hb dX6_piecesOn_36 rfl hl (by decide) rfl (fun ls hl => ?_)
            refine lv_iinc (v := nI (i + 1)) (lv' := [(4, .int (nI (i + 1))), (3, .int (nI (f + 0))), (0, .ref qm), (1, .int (nI pn)), (2, .int f0)]) hx hb dX6_piecesOn_37 hl (k := 1) rfl (nI_inc i) (by decide) rfl (fun ls hl => ?_)
            refine lv_goto (tgt := 5) hx hb dX6_piecesOn_40 (by decide) ?_
            exact ih1 (i + 1) (f + 0) (by omega) (by rw [Nat.add_zero, cnt_f (by simp [mpP, c_260, c_261, c_263]), hf2]) (by omega) _ (lv_sub hl [0, 1, 2, 3, 4] rfl)
          · refine lv_iconst (v := 1) hx hb dX6_piecesOn_30 (by decide) ?_
            refine lv_goto (tgt := 35) hx hb dX6_piecesOn_31 (by decide) ?_
            refine zi_add hx hb f 1 dX6_piecesOn_35 rfl rfl ?_
            refine lv_istore_n (lv' := [(3, .int (nI (f + 1))), (4, .int (nI i)), (0, .ref qm), (1, .int (nI pn)), (2, .int f0)]) hx hb dX6_piecesOn_36 rfl hl (by decide) rfl (fun ls hl => ?_)
            refine lv_iinc (v := nI (i + 1)) (lv' := [(4, .int (nI (i + 1))), (3, .int (nI (f + 1))), (0, .ref qm), (1, .int (nI pn)), (2, .int f0)]) hx hb dX6_piecesOn_37 hl (k := 1) rfl (nI_inc i) (by decide) rfl (fun ls hl => ?_)
            refine lv_goto (tgt := 5) hx hb dX6_piecesOn_40 (by decide) ?_
            exact ih1 (i + 1) (f + 1) (by omega) (by rw [cnt_t (by simp [mpP, c_260, c_261, c_263]), hf2]) (by omega) _ (lv_sub hl [0, 1, 2, 3, 4] rfl)
  exact L1 4 0 0 (by decide) rfl (by decide) _ (lv_sub hl [0, 1, 2, 3, 4] rfl)

abbrev rm_X6_allOn : Room := { frames := 4, cells := 0, slots := 0, locals := 88 }
theorem cf_RX6_48 {R : Room} {s : State} {args : Array Value} (ht : ∀ w ∈ wsL_law, w.before args s = true) (hR : rm_X6_piecesOn.frames + 1 ≤ R.frames ∧ 8 + (5 + 11) + rm_X6_piecesOn.locals ≤ R.locals) : CallW R s args RX6 RX6 48 yX6_piecesOn cX6_piecesOn 5 (some .int) (.code yX6_piecesOn cX6_piecesOn 5 (some .int) :: wsL_law) rm_X6_piecesOn 0 0 2 := ⟨cw_B 2 ht wd286 wd5 wd289 (by decide +kernel) rfl rfl hR, ht _ wd287, ht _ wd288⟩
set_option maxHeartbeats 1000000 in
set_option maxRecDepth 100000 in
theorem c_X6_allOn (l : Launch) (G : va_G) (cI cC cZ cG : ClassId) (sz : Nat) (qm qz qa qe qs qv qp qn : Nat) (z as be sl sv pd nd : IA) (sts len : Nat) (go : Int32) (f0 : Int32) : Met l yX6_allOn (.code yX6_allOn cX6_allOn 4 (some .int) :: wsL_law) rm_X6_allOn (va_Pc [.ref qm, .int f0] (bw G cI cC cZ cG false sz [(qm, .inr (6, [.ref qz, .ref qa, .ref qe, .int (nI sts), .ref qs, .ref qv, .ref qp, .int (nI len), .int go, .ref qn])), (qz, .inl (cI, 46, .inl z)), (qa, .inl (cI, 46, .inl as)), (qe, .inl (cI, 276, .inl be)), (qs, .inl (cI, 92, .inl sl)), (qv, .inl (cZ, 2, .inl sv)), (qp, .inl (cI, 60, .inl pd)), (qn, .inl (cI, 36, .inl nd))])) (vp_Si (fun r => r = nI (ao z f0 4))) 0 0 (fun _ => False) := by
  refine met_bw rfl (Nat.le_of_ble_eq_true rfl) ?_
  intro p e s m below meth c ls hx hb hr hml hown hts hlocks hin hsz hP hK hD0 hX0 hl
  have hown : s.vm.findClass RX6 = some m.cls := hown
  have hl : lv_has ls 4 [(0, .ref qm), (1, .int f0)] := hl
  generalize hQ : MQ below (vp_Si (fun r => r = nI (ao z f0 4))) ([.ref qm, .int f0] : List Value).toArray s 0 0 (fun _ => False) = Q
  generalize hag : ([.ref qm, .int f0] : List Value).toArray = ag at hts hQ ⊢
  refine lv_iconst (v := 0) hx hb dX6_allOn_0 (by decide) ?_
  refine lv_istore_n (lv' := [(2, .int 0), (0, .ref qm), (1, .int f0)]) hx hb dX6_allOn_1 rfl hl (by decide) rfl (fun ls hl => ?_)
  refine lv_iconst (v := 0) hx hb dX6_allOn_2 (by decide) ?_
  refine lv_istore_n (lv' := [(3, .int 0), (2, .int 0), (0, .ref qm), (1, .int f0)]) hx hb dX6_allOn_3 rfl hl (by decide) rfl (fun ls hl => ?_)
  have L1 : ∀ (n : Nat), ∀ (i : Nat), ∀ (f : Nat), ∀ (hi : i ≤ 4), ∀ (hf2 : f = ao z f0 i), ∀ (hn : 5 ≤ i + n), ∀ (ls : Array Slot), lv_has ls 4 [(3, .int (nI i)), (2, .int (nI f)), (0, .ref qm), (1, .int f0)] → W p l e rm_X6_allOn s m ag below meth c s.heap [] 0 0 Q (F0 m 4 ls []) := by
    intro n
    induction n with
    | zero =>
      intro i f hi hf2 hn ls hl
      omega
    | succ n ih1 =>
      intro i f hi hf2 hn ls hl
      refine lv_iload_n hx hb dX6_allOn_4 rfl (lv_at hl 0 rfl) ?_
      refine lv_iconst (v := 4) hx hb dX6_allOn_5 (by decide) ?_
      refine zi_ge (tgt := 24) hx hb i 4 dX6_allOn_6 (by decide) rfl rfl (by omega) (by decide) (fun c_265 => ?_) (fun c_265 => ?_)
      · refine lv_iload_n hx hb dX6_allOn_24 rfl (lv_at hl 1 rfl) ?_
        subst hQ
        exact W.iret (v := nI f) hx hb hr (fun t ht hW => ⟨nI f, rfl, by rw [hf2, show i = 4 by omega], ht⟩) (fun _ h => absurd h List.not_mem_nil) dX6_allOn_25
      · refine lv_iload_n hx hb dX6_allOn_9 rfl (lv_at hl 1 rfl) ?_
        refine lv_aload_n hx hb dX6_allOn_10 rfl (lv_at hl 2 rfl) ?_
        refine lv_iload_n hx hb dX6_allOn_11 rfl (lv_at hl 0 rfl) ?_
        refine lv_iload_n hx hb dX6_allOn_12 rfl (lv_at hl 3 rfl) ?_
        have hPc : va_P G vwCl [(qm, .inr (6, [.ref qz, .ref qa, .ref qe, .int (nI sts), .ref qs, .ref qv, .ref qp, .int (nI len), .int go, .ref qn])), (qz, .inl (cI, 46, .inl z)), (qa, .inl (cI, 46, .inl as)), (qe, .inl (cI, 276, .inl be)), (qs, .inl (cI, 92, .inl sl)), (qv, .inl (cZ, 2, .inl sv)), (qp, .inl (cI, 60, .inl pd)), (qn, .inl (cI, 36, .inl nd))] s.heap := hP
        have hDc := hD0
        refine vp_callSi (va_Run.run (va_runV (As := [.int (nI i), .int f0]) (rest := [.int (nI f)]) ⟨hx, hb, hml, hown, hts⟩ (c_X6_piecesOn l G cI cC cZ cG s.heap.size qm qz qa qe qs qv qp qn z as be sl sv pd nd sts len go i f0 (by omega)) (cf_RX6_48 hts ⟨Nat.le_of_ble_eq_true rfl, Nat.le_of_ble_eq_true rfl⟩) (pre_V hK hPc hDc (ci := 6) (q0 := 0) rfl rfl) rfl rfl hl.1 rfl (lv_room (Nat.le_of_ble_eq_true rfl)) dX6_allOn_13 ⟨Nat.le_of_ble_eq_true rfl, Nat.le_of_ble_eq_true rfl⟩)) (fun r266 hr266 => ?_)
        subst hr266
        have hf267 := (@mpc_le z i f0)
        refine zi_add hx hb f (mpc z i f0) dX6_allOn_16 rfl rfl ?_
        refine lv_istore_n (lv' := [(2, .int (nI (f + (mpc z i f0)))), (3, .int (nI i)), (0, .ref qm), (1, .int f0)]) hx hb dX6_allOn_17 rfl hl (by decide) rfl (fun ls hl => ?_)
        refine lv_iinc (v := nI (i + 1)) (lv' := [(3, .int (nI (i + 1))), (2, .int (nI (f + (mpc z i f0)))), (0, .ref qm), (1, .int f0)]) hx hb dX6_allOn_18 hl (k := 1) rfl (nI_inc i) (by decide) rfl (fun ls hl => ?_)
        refine lv_goto (tgt := 4) hx hb dX6_allOn_21 (by decide) ?_
        exact ih1 (i + 1) (f + (mpc z i f0)) (by omega) (by rw [ao, hf2]) (by omega) _ (lv_sub hl [0, 1, 2, 3] rfl)
  exact L1 5 0 0 (by decide) rfl (by decide) _ (lv_sub hl [0, 1, 2, 3] rfl)

abbrev rm_X6_isPairOn : Room := { frames := 4, cells := 0, slots := 0, locals := 88 }
set_option maxHeartbeats 1000000 in
set_option maxRecDepth 100000 in
theorem c_X6_isPairOn (l : Launch) (G : va_G) (cI cC cZ cG : ClassId) (sz : Nat) (qm qz qa qe qs qv qp qn : Nat) (z as be sl sv pd nd : IA) (sts len : Nat) (go : Int32) (f0 : Int32) : Met l yX6_isPairOn (.code yX6_isPairOn cX6_isPairOn 4 (some .boolean) :: wsL_law) rm_X6_isPairOn (va_Pc [.ref qm, .int f0] (bw G cI cC cZ cG false sz [(qm, .inr (6, [.ref qz, .ref qa, .ref qe, .int (nI sts), .ref qs, .ref qv, .ref qp, .int (nI len), .int go, .ref qn])), (qz, .inl (cI, 46, .inl z)), (qa, .inl (cI, 46, .inl as)), (qe, .inl (cI, 276, .inl be)), (qs, .inl (cI, 92, .inl sl)), (qv, .inl (cZ, 2, .inl sv)), (qp, .inl (cI, 60, .inl pd)), (qn, .inl (cI, 36, .inl nd))])) (vp_Si (fun r => r = bz (prO z f0 4 = true))) 0 0 (fun _ => False) := by
  refine met_bw rfl (Nat.le_of_ble_eq_true rfl) ?_
  intro p e s m below meth c ls hx hb hr hml hown hts hlocks hin hsz hP hK hD0 hX0 hl
  have hown : s.vm.findClass RX6 = some m.cls := hown
  have hl : lv_has ls 4 [(0, .ref qm), (1, .int f0)] := hl
  generalize hQ : MQ below (vp_Si (fun r => r = bz (prO z f0 4 = true))) ([.ref qm, .int f0] : List Value).toArray s 0 0 (fun _ => False) = Q
  generalize hag : ([.ref qm, .int f0] : List Value).toArray = ag at hts hQ ⊢
  refine lv_iconst (v := 0) hx hb dX6_isPairOn_0 (by decide) ?_
  refine lv_istore_n (lv' := [(2, .int 0), (0, .ref qm), (1, .int f0)]) hx hb dX6_isPairOn_1 rfl hl (by decide) rfl (fun ls hl => ?_)
  refine lv_iconst (v := 0) hx hb dX6_isPairOn_2 (by decide) ?_
  refine lv_istore_n (lv' := [(3, .int 0), (2, .int 0), (0, .ref qm), (1, .int f0)]) hx hb dX6_isPairOn_3 rfl hl (by decide) rfl (fun ls hl => ?_)
  have L1 : ∀ (n : Nat), ∀ (i : Nat), ∀ (b : Bool), ∀ (hi : i ≤ 4), ∀ (hf2 : b = prO z f0 i), ∀ (hn : 5 ≤ i + n), ∀ (ls : Array Slot), lv_has ls 4 [(3, .int (nI i)), (2, .int (bz (b = true))), (0, .ref qm), (1, .int f0)] → W p l e rm_X6_isPairOn s m ag below meth c s.heap [] 0 0 Q (F0 m 4 ls []) := by
    intro n
    induction n with
    | zero =>
      intro i b hi hf2 hn ls hl
      omega
    | succ n ih1 =>
      intro i b hi hf2 hn ls hl
      refine lv_iload_n hx hb dX6_isPairOn_4 rfl (lv_at hl 0 rfl) ?_
      refine lv_iconst (v := 4) hx hb dX6_isPairOn_5 (by decide) ?_
      refine zi_ge (tgt := 35) hx hb i 4 dX6_isPairOn_6 (by decide) rfl rfl (by omega) (by decide) (fun c_269 => ?_) (fun c_269 => ?_)
      · refine lv_iload_n hx hb dX6_isPairOn_35 rfl (lv_at hl 1 rfl) ?_
        subst hQ
        exact W.zret (v := bz (b = true)) hx hb hr bz_nar (fun t ht hW => ⟨bz (b = true), rfl, by rw [hf2, show i = 4 by omega], ht⟩) (fun _ h => absurd h List.not_mem_nil) dX6_isPairOn_36
      · refine lv_iload_n hx hb dX6_isPairOn_9 rfl (lv_at hl 1 rfl) ?_
        refine zb_ne (tgt := 23) hx hb dX6_isPairOn_10 (by decide) (fun c_270 => ?_) (fun c_270 => ?_)
        · refine lv_iconst (v := 1) hx hb dX6_isPairOn_23 (by decide) ?_
          refine lv_goto (tgt := 28) hx hb dX6_isPairOn_24 (by decide) ?_
          refine lv_istore_n (lv' := [(2, .int 1), (3, .int (nI i)), (0, .ref qm), (1, .int f0)]) hx hb dX6_isPairOn_28 rfl hl (by decide) rfl (fun ls hl => ?_)
          refine lv_iinc (v := nI (i + 1)) (lv' := [(3, .int (nI (i + 1))), (2, .int 1), (0, .ref qm), (1, .int f0)]) hx hb dX6_isPairOn_29 hl (k := 1) rfl (nI_inc i) (by decide) rfl (fun ls hl => ?_)
          refine lv_goto (tgt := 4) hx hb dX6_isPairOn_32 (by decide) ?_
          exact ih1 (i + 1) true (by omega) (by rw [prO, ← hf2]; simp [c_269, c_270]) (by omega) _ (lv_sub hl [0, 1, 2, 3] rfl)
        · refine lv_aload_n hx hb dX6_isPairOn_13 rfl (lv_at hl 2 rfl) ?_
          refine lv_iload_n hx hb dX6_isPairOn_14 rfl (lv_at hl 0 rfl) ?_
          refine lv_iload_n hx hb dX6_isPairOn_15 rfl (lv_at hl 3 rfl) ?_
          have hPc : va_P G vwCl [(qm, .inr (6, [.ref qz, .ref qa, .ref qe, .int (nI sts), .ref qs, .ref qv, .ref qp, .int (nI len), .int go, .ref qn])), (qz, .inl (cI, 46, .inl z)), (qa, .inl (cI, 46, .inl as)), (qe, .inl (cI, 276, .inl be)), (qs, .inl (cI, 92, .inl sl)), (qv, .inl (cZ, 2, .inl sv)), (qp, .inl (cI, 60, .inl pd)), (qn, .inl (cI, 36, .inl nd))] s.heap := hP
          have hDc := hD0
          refine vp_callSi (va_Run.run (va_runV (As := [.int (nI i), .int f0]) (rest := []) ⟨hx, hb, hml, hown, hts⟩ (c_X6_piecesOn l G cI cC cZ cG s.heap.size qm qz qa qe qs qv qp qn z as be sl sv pd nd sts len go i f0 (by omega)) (cf_RX6_48 hts ⟨Nat.le_of_ble_eq_true rfl, Nat.le_of_ble_eq_true rfl⟩) (pre_V hK hPc hDc (ci := 6) (q0 := 0) rfl rfl) rfl rfl hl.1 rfl (lv_room (Nat.le_of_ble_eq_true rfl)) dX6_isPairOn_16 ⟨Nat.le_of_ble_eq_true rfl, Nat.le_of_ble_eq_true rfl⟩)) (fun r271 hr271 => ?_)
          subst hr271
          have hf272 := (@mpc_le z i f0)
          refine lv_iconst (v := 1) hx hb dX6_isPairOn_19 (by decide) ?_
          refine zi_le (tgt := 27) hx hb (mpc z i f0) 1 dX6_isPairOn_20 (by decide) rfl rfl (by omega) (by decide) (fun c_273 => ?_) (fun c_273 => ?_)
          · refine lv_iconst (v := 0) hx hb dX6_isPairOn_27 (by decide) ?_
            refine lv_istore_n (lv' := [(2, .int 0), (3, .int (nI i)), (0, .ref qm), (1, .int f0)]) hx hb dX6_isPairOn_28 rfl hl (by decide) rfl (fun ls hl => ?_)
            refine lv_iinc (v := nI (i + 1)) (lv' := [(3, .int (nI (i + 1))), (2, .int 0), (0, .ref qm), (1, .int f0)]) hx hb dX6_isPairOn_29 hl (k := 1) rfl (nI_inc i) (by decide) rfl (fun ls hl => ?_)
            refine lv_goto (tgt := 4) hx hb dX6_isPairOn_32 (by decide) ?_
            exact ih1 (i + 1) false (by omega) (by rw [prO, ← hf2]; simp [c_269, c_270, c_273]) (by omega) _ (lv_sub hl [0, 1, 2, 3] rfl)
          · refine lv_iconst (v := 1) hx hb dX6_isPairOn_23 (by decide) ?_
            refine lv_goto (tgt := 28) hx hb dX6_isPairOn_24 (by decide) ?_
            refine lv_istore_n (lv' := [(2, .int 1), (3, .int (nI i)), (0, .ref qm), (1, .int f0)]) hx hb dX6_isPairOn_28 rfl hl (by decide) rfl (fun ls hl => ?_)
            refine lv_iinc (v := nI (i + 1)) (lv' := [(3, .int (nI (i + 1))), (2, .int 1), (0, .ref qm), (1, .int f0)]) hx hb dX6_isPairOn_29 hl (k := 1) rfl (nI_inc i) (by decide) rfl (fun ls hl => ?_)
            refine lv_goto (tgt := 4) hx hb dX6_isPairOn_32 (by decide) ?_
            exact ih1 (i + 1) true (by omega) (by rw [prO, ← hf2]; simp [c_269, c_270, c_273]) (by omega) _ (lv_sub hl [0, 1, 2, 3] rfl)
  exact L1 5 0 false (by decide) rfl (by decide) _ (lv_sub hl [0, 1, 2, 3] rfl)

abbrev rm_X6_isBlocked : Room := { frames := 4, cells := 0, slots := 0, locals := 88 }
set_option maxHeartbeats 1000000 in
set_option maxRecDepth 100000 in
theorem c_X6_isBlocked (l : Launch) (G : va_G) (cI cC cZ cG : ClassId) (sz : Nat) (qm qz qa qe qs qv qp qn : Nat) (z as be sl sv pd nd : IA) (sts len : Nat) (go : Int32) (pn : Nat) (f0 : Int32) (hp : pn < 4) : Met l yX6_isBlocked (.code yX6_isBlocked cX6_isBlocked 5 (some .boolean) :: wsL_law) rm_X6_isBlocked (va_Pc [.ref qm, .int (nI pn), .int f0] (bw G cI cC cZ cG false sz [(qm, .inr (6, [.ref qz, .ref qa, .ref qe, .int (nI sts), .ref qs, .ref qv, .ref qp, .int (nI len), .int go, .ref qn])), (qz, .inl (cI, 46, .inl z)), (qa, .inl (cI, 46, .inl as)), (qe, .inl (cI, 276, .inl be)), (qs, .inl (cI, 92, .inl sl)), (qv, .inl (cZ, 2, .inl sv)), (qp, .inl (cI, 60, .inl pd)), (qn, .inl (cI, 36, .inl nd))])) (vp_Si (fun r => r = bz (blO z pn f0 4 = true))) 0 0 (fun _ => False) := by
  refine met_bw rfl (Nat.le_of_ble_eq_true rfl) ?_
  intro p e s m below meth c ls hx hb hr hml hown hts hlocks hin hsz hP hK hD0 hX0 hl
  have hown : s.vm.findClass RX6 = some m.cls := hown
  have hl : lv_has ls 5 [(0, .ref qm), (1, .int (nI pn)), (2, .int f0)] := hl
  generalize hQ : MQ below (vp_Si (fun r => r = bz (blO z pn f0 4 = true))) ([.ref qm, .int (nI pn), .int f0] : List Value).toArray s 0 0 (fun _ => False) = Q
  generalize hag : ([.ref qm, .int (nI pn), .int f0] : List Value).toArray = ag at hts hQ ⊢
  refine lv_iconst (v := 0) hx hb dX6_isBlocked_0 (by decide) ?_
  refine lv_istore_n (lv' := [(3, .int 0), (0, .ref qm), (1, .int (nI pn)), (2, .int f0)]) hx hb dX6_isBlocked_1 rfl hl (by decide) rfl (fun ls hl => ?_)
  refine lv_iconst (v := 0) hx hb dX6_isBlocked_2 (by decide) ?_
  refine lv_istore (lv' := [(4, .int 0), (3, .int 0), (0, .ref qm), (1, .int (nI pn)), (2, .int f0)]) hx hb dX6_isBlocked_3 hl (by decide) rfl (fun ls hl => ?_)
  have L1 : ∀ (n : Nat), ∀ (i : Nat), ∀ (b : Bool), ∀ (hi : i ≤ 4), ∀ (hf2 : b = blO z pn f0 i), ∀ (hn : 5 ≤ i + n), ∀ (ls : Array Slot), lv_has ls 5 [(4, .int (nI i)), (3, .int (bz (b = true))), (0, .ref qm), (1, .int (nI pn)), (2, .int f0)] → W p l e rm_X6_isBlocked s m ag below meth c s.heap [] 0 0 Q (F0 m 5 ls []) := by
    intro n
    induction n with
    | zero =>
      intro i b hi hf2 hn ls hl
      omega
    | succ n ih1 =>
      intro i b hi hf2 hn ls hl
      refine lv_iload hx hb dX6_isBlocked_5 (lv_at hl 0 rfl) ?_
      refine lv_iconst (v := 4) hx hb dX6_isBlocked_7 (by decide) ?_
      refine zi_ge (tgt := 44) hx hb i 4 dX6_isBlocked_8 (by decide) rfl rfl (by omega) (by decide) (fun c_275 => ?_) (fun c_275 => ?_)
      · refine lv_iload_n hx hb dX6_isBlocked_44 rfl (lv_at hl 1 rfl) ?_
        subst hQ
        exact W.zret (v := bz (b = true)) hx hb hr bz_nar (fun t ht hW => ⟨bz (b = true), rfl, by rw [hf2, show i = 4 by omega], ht⟩) (fun _ h => absurd h List.not_mem_nil) dX6_isBlocked_45
      · refine lv_iload_n hx hb dX6_isBlocked_11 rfl (lv_at hl 1 rfl) ?_
        refine zb_ne (tgt := 32) hx hb dX6_isBlocked_12 (by decide) (fun c_276 => ?_) (fun c_276 => ?_)
        · refine lv_iconst (v := 1) hx hb dX6_isBlocked_32 (by decide) ?_
          refine lv_goto (tgt := 37) hx hb dX6_isBlocked_33 (by decide) ?_
          refine lv_istore_n (lv' := [(3, .int 1), (4, .int (nI i)), (0, .ref qm), (1, .int (nI pn)), (2, .int f0)]) hx hb dX6_isBlocked_37 rfl hl (by decide) rfl (fun ls hl => ?_)
          refine lv_iinc (v := nI (i + 1)) (lv' := [(4, .int (nI (i + 1))), (3, .int 1), (0, .ref qm), (1, .int (nI pn)), (2, .int f0)]) hx hb dX6_isBlocked_38 hl (k := 1) rfl (nI_inc i) (by decide) rfl (fun ls hl => ?_)
          refine lv_goto (tgt := 5) hx hb dX6_isBlocked_41 (by decide) ?_
          exact ih1 (i + 1) true (by omega) (by rw [blO, ← hf2]; simp [c_275, c_276]) (by omega) _ (lv_sub hl [0, 1, 2, 3, 4] rfl)
        · refine lv_iload hx hb dX6_isBlocked_15 (lv_at hl 0 rfl) ?_
          refine lv_iload_n hx hb dX6_isBlocked_17 rfl (lv_at hl 3 rfl) ?_
          refine zi_eq (tgt := 36) hx hb i pn dX6_isBlocked_18 (by decide) rfl rfl (by omega) (by omega) (fun c_277 => ?_) (fun c_277 => ?_)
          · refine lv_iconst (v := 0) hx hb dX6_isBlocked_36 (by decide) ?_
            refine lv_istore_n (lv' := [(3, .int 0), (4, .int (nI i)), (0, .ref qm), (1, .int (nI pn)), (2, .int f0)]) hx hb dX6_isBlocked_37 rfl hl (by decide) rfl (fun ls hl => ?_)
            refine lv_iinc (v := nI (i + 1)) (lv' := [(4, .int (nI (i + 1))), (3, .int 0), (0, .ref qm), (1, .int (nI pn)), (2, .int f0)]) hx hb dX6_isBlocked_38 hl (k := 1) rfl (nI_inc i) (by decide) rfl (fun ls hl => ?_)
            refine lv_goto (tgt := 5) hx hb dX6_isBlocked_41 (by decide) ?_
            exact ih1 (i + 1) false (by omega) (by rw [blO, ← hf2]; simp [c_275, c_276, c_277]) (by omega) _ (lv_sub hl [0, 1, 2, 3, 4] rfl)
          · refine lv_aload_n hx hb dX6_isBlocked_21 rfl (lv_at hl 2 rfl) ?_
            refine lv_iload hx hb dX6_isBlocked_22 (lv_at hl 0 rfl) ?_
            refine lv_iload_n hx hb dX6_isBlocked_24 rfl (lv_at hl 4 rfl) ?_
            have hPc : va_P G vwCl [(qm, .inr (6, [.ref qz, .ref qa, .ref qe, .int (nI sts), .ref qs, .ref qv, .ref qp, .int (nI len), .int go, .ref qn])), (qz, .inl (cI, 46, .inl z)), (qa, .inl (cI, 46, .inl as)), (qe, .inl (cI, 276, .inl be)), (qs, .inl (cI, 92, .inl sl)), (qv, .inl (cZ, 2, .inl sv)), (qp, .inl (cI, 60, .inl pd)), (qn, .inl (cI, 36, .inl nd))] s.heap := hP
            have hDc := hD0
            refine vp_callSi (va_Run.run (va_runV (As := [.int (nI i), .int f0]) (rest := []) ⟨hx, hb, hml, hown, hts⟩ (c_X6_piecesOn l G cI cC cZ cG s.heap.size qm qz qa qe qs qv qp qn z as be sl sv pd nd sts len go i f0 (by omega)) (cf_RX6_48 hts ⟨Nat.le_of_ble_eq_true rfl, Nat.le_of_ble_eq_true rfl⟩) (pre_V hK hPc hDc (ci := 6) (q0 := 0) rfl rfl) rfl rfl hl.1 rfl (lv_room (Nat.le_of_ble_eq_true rfl)) dX6_isBlocked_25 ⟨Nat.le_of_ble_eq_true rfl, Nat.le_of_ble_eq_true rfl⟩)) (fun r278 hr278 => ?_)
            subst hr278
            have hf279 := (@mpc_le z i f0)
            refine lv_iconst (v := 1) hx hb dX6_isBlocked_28 (by decide) ?_
            refine zi_le (tgt := 36) hx hb (mpc z i f0) 1 dX6_isBlocked_29 (by decide) rfl rfl (by omega) (by decide) (fun c_280 => ?_) (fun c_280 => ?_)
            · refine lv_iconst (v := 0) hx hb dX6_isBlocked_36 (by decide) ?_
              refine lv_istore_n (lv' := [(3, .int 0), (4, .int (nI i)), (0, .ref qm), (1, .int (nI pn)), (2, .int f0)]) hx hb dX6_isBlocked_37 rfl hl (by decide) rfl (fun ls hl => ?_)
              refine lv_iinc (v := nI (i + 1)) (lv' := [(4, .int (nI (i + 1))), (3, .int 0), (0, .ref qm), (1, .int (nI pn)), (2, .int f0)]) hx hb dX6_isBlocked_38 hl (k := 1) rfl (nI_inc i) (by decide) rfl (fun ls hl => ?_)
              refine lv_goto (tgt := 5) hx hb dX6_isBlocked_41 (by decide) ?_
              exact ih1 (i + 1) false (by omega) (by rw [blO, ← hf2]; simp [c_275, c_276, c_277, c_280]) (by omega) _ (lv_sub hl [0, 1, 2, 3, 4] rfl)
            · refine lv_iconst (v := 1) hx hb dX6_isBlocked_32 (by decide) ?_
              refine lv_goto (tgt := 37) hx hb dX6_isBlocked_33 (by decide) ?_
              refine lv_istore_n (lv' := [(3, .int 1), (4, .int (nI i)), (0, .ref qm), (1, .int (nI pn)), (2, .int f0)]) hx hb dX6_isBlocked_37 rfl hl (by decide) rfl (fun ls hl => ?_)
              refine lv_iinc (v := nI (i + 1)) (lv' := [(4, .int (nI (i + 1))), (3, .int 1), (0, .ref qm), (1, .int (nI pn)), (2, .int f0)]) hx hb dX6_isBlocked_38 hl (k := 1) rfl (nI_inc i) (by decide) rfl (fun ls hl => ?_)
              refine lv_goto (tgt := 5) hx hb dX6_isBlocked_41 (by decide) ?_
              exact ih1 (i + 1) true (by omega) (by rw [blO, ← hf2]; simp [c_275, c_276, c_277, c_280]) (by omega) _ (lv_sub hl [0, 1, 2, 3, 4] rfl)
  exact L1 5 0 false (by decide) rfl (by decide) _ (lv_sub hl [0, 1, 2, 3, 4] rfl)

abbrev rm_X6_atHome : Room := { frames := 0, cells := 0, slots := 0, locals := 0 }
set_option maxHeartbeats 1000000 in
set_option maxRecDepth 100000 in
theorem c_X6_atHome (l : Launch) (G : va_G) (cI cC cZ cG : ClassId) (sz : Nat) (qm qz qa qe qs qv qp qn : Nat) (z as be sl sv pd nd : IA) (sts len : Nat) (go : Int32) (pn : Nat) (hp : pn < 4) : Met l yX6_atHome (.code yX6_atHome cX6_atHome 4 (some .int) :: wsL_law) rm_X6_atHome (va_Pc [.ref qm, .int (nI pn)] (bw G cI cC cZ cG false sz [(qm, .inr (6, [.ref qz, .ref qa, .ref qe, .int (nI sts), .ref qs, .ref qv, .ref qp, .int (nI len), .int go, .ref qn])), (qz, .inl (cI, 46, .inl z)), (qa, .inl (cI, 46, .inl as)), (qe, .inl (cI, 276, .inl be)), (qs, .inl (cI, 92, .inl sl)), (qv, .inl (cZ, 2, .inl sv)), (qp, .inl (cI, 60, .inl pd)), (qn, .inl (cI, 36, .inl nd))])) (vp_Si (fun r => r = nI (mho z pn))) 0 0 (fun _ => False) := by
  refine met_bw rfl (Nat.le_of_ble_eq_true rfl) ?_
  intro p e s m below meth c ls hx hb hr hml hown hts hlocks hin hsz hP hK hD0 hX0 hl
  have hown : s.vm.findClass RX6 = some m.cls := hown
  have hl : lv_has ls 4 [(0, .ref qm), (1, .int (nI pn))] := hl
  generalize hQ : MQ below (vp_Si (fun r => r = nI (mho z pn))) ([.ref qm, .int (nI pn)] : List Value).toArray s 0 0 (fun _ => False) = Q
  generalize hag : ([.ref qm, .int (nI pn)] : List Value).toArray = ag at hts hQ ⊢
  refine lv_iconst (v := 0) hx hb dX6_atHome_0 (by decide) ?_
  refine lv_istore_n (lv' := [(2, .int 0), (0, .ref qm), (1, .int (nI pn))]) hx hb dX6_atHome_1 rfl hl (by decide) rfl (fun ls hl => ?_)
  refine lv_iconst (v := 0) hx hb dX6_atHome_2 (by decide) ?_
  refine lv_istore_n (lv' := [(3, .int 0), (2, .int 0), (0, .ref qm), (1, .int (nI pn))]) hx hb dX6_atHome_3 rfl hl (by decide) rfl (fun ls hl => ?_)
  have L1 : ∀ (n : Nat), ∀ (i : Nat), ∀ (f : Nat), ∀ (hi : i ≤ 3), ∀ (hf2 : f = cnt (mhP z pn) i), ∀ (hn : 4 ≤ i + n), ∀ (ls : Array Slot), lv_has ls 4 [(3, .int (nI i)), (2, .int (nI f)), (0, .ref qm), (1, .int (nI pn))] → W p l e rm_X6_atHome s m ag below meth c s.heap [] 0 0 Q (F0 m 4 ls []) := by
    intro n
    induction n with
    | zero =>
      intro i f hi hf2 hn ls hl
      omega
    | succ n ih1 =>
      intro i f hi hf2 hn ls hl
      refine lv_iload_n hx hb dX6_atHome_4 rfl (lv_at hl 0 rfl) ?_
      refine lv_iconst (v := 3) hx hb dX6_atHome_5 (by decide) ?_
      refine zi_ge (tgt := 38) hx hb i 3 dX6_atHome_6 (by decide) rfl rfl (by omega) (by decide) (fun c_282 => ?_) (fun c_282 => ?_)
      · refine lv_iload_n hx hb dX6_atHome_38 rfl (lv_at hl 1 rfl) ?_
        subst hQ
        exact W.iret (v := nI f) hx hb hr (fun t ht hW => ⟨nI f, rfl, by rw [hf2, show i = 3 by omega]; rfl, ht⟩) (fun _ h => absurd h List.not_mem_nil) dX6_atHome_39
      · refine lv_iload_n hx hb dX6_atHome_9 rfl (lv_at hl 1 rfl) ?_
        refine lv_aload_n hx hb dX6_atHome_10 rfl (lv_at hl 2 rfl) ?_
        refine va_get (D := G) (ci := 6) (v := .ref qz) (C := RX6) (T := TX6) (N := 10) hx hb hts inlX6 hown hK.1 hP 0 rfl rfl 0 (by decide) (hts _ wd78) (fun _ h9 => h9) rfl dX6_atHome_11 ?_
        refine lv_iconst (v := 3) hx hb dX6_atHome_14 (by decide) ?_
        refine lv_iload_n hx hb dX6_atHome_15 rfl (lv_at hl 3 rfl) ?_
        refine zi_mul hx hb 3 pn dX6_atHome_16 rfl rfl ?_
        refine lv_iload_n hx hb dX6_atHome_17 rfl (lv_at hl 0 rfl) ?_
        refine zi_add hx hb (3 * pn) i dX6_atHome_18 rfl rfl ?_
        refine za_ld hx hb hK.1 hP 1 0 rfl rfl ((3 * pn) + i) rfl (by omega) (by decide) dX6_atHome_19 ?_
        refine lv_bipush (v := 35) hx hb dX6_atHome_20 (by decide) ?_
        refine lv_icmp_ne (tgt := 29) hx hb dX6_atHome_22 (by decide) (fun c_283 => ?_) (fun c_283 => ?_)
        · refine lv_iconst (v := 0) hx hb dX6_atHome_29 (by decide) ?_
          refine zi_add hx hb f 0 dX6_atHome_30 rfl rfl ?_
          refine lv_istore_n (lv' := [(2, .int (nI (f + 0))), (3, .int (nI i)), (0, .ref qm), (1, .int (nI pn))]) hx hb dX6_atHome_31 rfl hl (by decide) rfl (fun ls hl => ?_)
          refine lv_iinc (v := nI (i + 1)) (lv' := [(3, .int (nI (i + 1))), (2, .int (nI (f + 0))), (0, .ref qm), (1, .int (nI pn))]) hx hb dX6_atHome_32 hl (k := 1) rfl (nI_inc i) (by decide) rfl (fun ls hl => ?_)
          refine lv_goto (tgt := 4) hx hb dX6_atHome_35 (by decide) ?_
          exact ih1 (i + 1) (f + 0) (by omega) (by rw [Nat.add_zero, cnt_f (by simp [mhP, c_282, c_283]), hf2]) (by omega) _ (lv_sub hl [0, 1, 2, 3] rfl)
        · refine lv_iconst (v := 1) hx hb dX6_atHome_25 (by decide) ?_
          refine lv_goto (tgt := 30) hx hb dX6_atHome_26 (by decide) ?_
          refine zi_add hx hb f 1 dX6_atHome_30 rfl rfl ?_
          refine lv_istore_n (lv' := [(2, .int (nI (f + 1))), (3, .int (nI i)), (0, .ref qm), (1, .int (nI pn))]) hx hb dX6_atHome_31 rfl hl (by decide) rfl (fun ls hl => ?_)
          refine lv_iinc (v := nI (i + 1)) (lv' := [(3, .int (nI (i + 1))), (2, .int (nI (f + 1))), (0, .ref qm), (1, .int (nI pn))]) hx hb dX6_atHome_32 hl (k := 1) rfl (nI_inc i) (by decide) rfl (fun ls hl => ?_)
          refine lv_goto (tgt := 4) hx hb dX6_atHome_35 (by decide) ?_
          exact ih1 (i + 1) (f + 1) (by omega) (by rw [cnt_t (by simp [mhP, c_282, c_283]), hf2]) (by omega) _ (lv_sub hl [0, 1, 2, 3] rfl)
  exact L1 4 0 0 (by decide) rfl (by decide) _ (lv_sub hl [0, 1, 2, 3] rfl)

abbrev rm_X6_winner : Room := { frames := 1, cells := 0, slots := 0, locals := 23 }
theorem cf_RX6_51 {R : Room} {s : State} {args : Array Value} (ht : ∀ w ∈ wsL_law, w.before args s = true) (hR : rm_X6_atHome.frames + 1 ≤ R.frames ∧ 8 + (4 + 11) + rm_X6_atHome.locals ≤ R.locals) : CallW R s args RX6 RX6 51 yX6_atHome cX6_atHome 4 (some .int) (.code yX6_atHome cX6_atHome 4 (some .int) :: wsL_law) rm_X6_atHome 0 0 1 := ⟨cw_B 1 ht wd176 wd5 wd179 (by decide +kernel) rfl rfl hR, ht _ wd177, ht _ wd178⟩
set_option maxHeartbeats 1000000 in
set_option maxRecDepth 100000 in
theorem c_X6_winner (l : Launch) (G : va_G) (cI cC cZ cG : ClassId) (sz : Nat) (qm qz qa qe qs qv qp qn : Nat) (z as be sl sv pd nd : IA) (sts len : Nat) (go : Int32) : Met l yX6_winner (.code yX6_winner cX6_winner 3 (some .int) :: wsL_law) rm_X6_winner (va_Pc [.ref qm] (bw G cI cC cZ cG false sz [(qm, .inr (6, [.ref qz, .ref qa, .ref qe, .int (nI sts), .ref qs, .ref qv, .ref qp, .int (nI len), .int go, .ref qn])), (qz, .inl (cI, 46, .inl z)), (qa, .inl (cI, 46, .inl as)), (qe, .inl (cI, 276, .inl be)), (qs, .inl (cI, 92, .inl sl)), (qv, .inl (cZ, 2, .inl sv)), (qp, .inl (cI, 60, .inl pd)), (qn, .inl (cI, 36, .inl nd))])) (vp_Si (fun r => r = mwi z)) 0 0 (fun _ => False) := by
  refine met_bw rfl (Nat.le_of_ble_eq_true rfl) ?_
  intro p e s m below meth c ls hx hb hr hml hown hts hlocks hin hsz hP hK hD0 hX0 hl
  have hown : s.vm.findClass RX6 = some m.cls := hown
  have hl : lv_has ls 3 [(0, .ref qm)] := hl
  generalize hQ : MQ below (vp_Si (fun r => r = mwi z)) ([.ref qm] : List Value).toArray s 0 0 (fun _ => False) = Q
  generalize hag : ([.ref qm] : List Value).toArray = ag at hts hQ ⊢
  refine lv_bipush (v := (-6)) hx hb dX6_winner_0 (by decide) ?_
  refine lv_istore_n (lv' := [(1, .int (-6)), (0, .ref qm)]) hx hb dX6_winner_2 rfl hl (by decide) rfl (fun ls hl => ?_)
  refine lv_iconst (v := 3) hx hb dX6_winner_3 (by decide) ?_
  refine lv_istore_n (lv' := [(2, .int 3), (1, .int (-6)), (0, .ref qm)]) hx hb dX6_winner_4 rfl hl (by decide) rfl (fun ls hl => ?_)
  have L1 : ∀ (n : Nat), ∀ (A : Nat), ∀ (f : Int32), ∀ (hA : A ≤ 4), ∀ (hf2 : f = low (mwP z) A (4 - A)), ∀ (hn : A + 1 ≤ n), ∀ (ls : Array Slot), lv_has ls 3 [(2, .int (nI A + Int32.ofInt (-1))), (1, .int f), (0, .ref qm)] → W p l e rm_X6_winner s m ag below meth c s.heap [] 0 0 Q (F0 m 5 ls []) := by
    intro n
    induction n with
    | zero =>
      intro A f hA hf2 hn ls hl
      omega
    | succ n ih1 =>
      intro A f hA hf2 hn ls hl
      rcases A with _ | b
      · have hl : lv_has ls 3 [(2, .int (-1)), (1, .int f), (0, .ref qm)] := hl
        refine lv_iload_n hx hb dX6_winner_5 rfl (lv_at hl 0 rfl) ?_
        refine lv_if_lt (tgt := 30) hx hb dX6_winner_6 (by decide) (fun c_285 => ?_) (fun c_285 => ?_)
        · refine lv_iload_n hx hb dX6_winner_30 rfl (lv_at hl 1 rfl) ?_
          subst hQ
          exact W.iret (v := f) hx hb hr (fun t ht hW => ⟨f, rfl, by rw [hf2]; rfl, ht⟩) (fun _ h => absurd h List.not_mem_nil) dX6_winner_31
        · exact absurd c_285 (by decide)
      · rw [nI_dec] at hl
        refine lv_iload_n hx hb dX6_winner_5 rfl (lv_at hl 0 rfl) ?_
        refine z0_lt (tgt := 30) hx hb b dX6_winner_6 (by decide) rfl (by omega) ?_
        refine lv_aload_n hx hb dX6_winner_9 rfl (lv_at hl 2 rfl) ?_
        refine lv_iload_n hx hb dX6_winner_10 rfl (lv_at hl 0 rfl) ?_
        have hPc : va_P G vwCl [(qm, .inr (6, [.ref qz, .ref qa, .ref qe, .int (nI sts), .ref qs, .ref qv, .ref qp, .int (nI len), .int go, .ref qn])), (qz, .inl (cI, 46, .inl z)), (qa, .inl (cI, 46, .inl as)), (qe, .inl (cI, 276, .inl be)), (qs, .inl (cI, 92, .inl sl)), (qv, .inl (cZ, 2, .inl sv)), (qp, .inl (cI, 60, .inl pd)), (qn, .inl (cI, 36, .inl nd))] s.heap := hP
        have hDc := hD0
        refine vp_callSi (va_Run.run (va_runV (As := [.int (nI b)]) (rest := []) ⟨hx, hb, hml, hown, hts⟩ (c_X6_atHome l G cI cC cZ cG s.heap.size qm qz qa qe qs qv qp qn z as be sl sv pd nd sts len go b (by omega)) (cf_RX6_51 hts ⟨Nat.le_of_ble_eq_true rfl, Nat.le_of_ble_eq_true rfl⟩) (pre_V hK hPc hDc (ci := 6) (q0 := 0) rfl rfl) rfl rfl hl.1 rfl (lv_room (Nat.le_of_ble_eq_true rfl)) dX6_winner_11 ⟨Nat.le_of_ble_eq_true rfl, Nat.le_of_ble_eq_true rfl⟩)) (fun r287 hr287 => ?_)
        subst hr287
        have hf288 := (show mho z b ≤ 3 from cnt_le (mhP z b) 3)
        refine lv_iconst (v := 3) hx hb dX6_winner_14 (by decide) ?_
        refine zi_ne (tgt := 22) hx hb (mho z b) 3 dX6_winner_15 (by decide) rfl rfl (by omega) (by decide) (fun c_289 => ?_) (fun c_289 => ?_)
        · refine lv_iload_n hx hb dX6_winner_22 rfl (lv_at hl 1 rfl) ?_
          refine lv_istore_n (lv' := [(1, .int f), (2, .int (nI b)), (0, .ref qm)]) hx hb dX6_winner_23 rfl hl (by decide) rfl (fun ls hl => ?_)
          refine lv_iinc (v := (nI b) + Int32.ofInt (-1)) (lv' := [(2, .int ((nI b) + Int32.ofInt (-1))), (1, .int f), (0, .ref qm)]) hx hb dX6_winner_24 hl (k := 1) rfl rfl (by decide) rfl (fun ls hl => ?_)
          refine lv_goto (tgt := 5) hx hb dX6_winner_27 (by decide) ?_
          exact ih1 b f (by omega) (by rw [show 4 - b = (4 - (b + 1)) + 1 by omega, low, ← hf2]; simp [mwP, c_289]) (by omega) _ (lv_sub hl [0, 1, 2] rfl)
        · refine lv_iload_n hx hb dX6_winner_18 rfl (lv_at hl 0 rfl) ?_
          refine lv_goto (tgt := 23) hx hb dX6_winner_19 (by decide) ?_
          refine lv_istore_n (lv' := [(1, .int (nI b)), (2, .int (nI b)), (0, .ref qm)]) hx hb dX6_winner_23 rfl hl (by decide) rfl (fun ls hl => ?_)
          refine lv_iinc (v := (nI b) + Int32.ofInt (-1)) (lv' := [(2, .int ((nI b) + Int32.ofInt (-1))), (1, .int (nI b)), (0, .ref qm)]) hx hb dX6_winner_24 hl (k := 1) rfl rfl (by decide) rfl (fun ls hl => ?_)
          refine lv_goto (tgt := 5) hx hb dX6_winner_27 (by decide) ?_
          exact ih1 b (nI b) (by omega) (by rw [show 4 - b = (4 - (b + 1)) + 1 by omega, low, ← hf2]; simp [mwP, c_289]) (by omega) _ (lv_sub hl [0, 1, 2] rfl)
  exact L1 5 4 (-6) (by decide) rfl (by decide) _ (lv_sub hl [0, 1, 2] rfl)

abbrev rm_X6_isOver : Room := { frames := 2, cells := 0, slots := 0, locals := 45 }
theorem cf_RX6_54 {R : Room} {s : State} {args : Array Value} (ht : ∀ w ∈ wsL_law, w.before args s = true) (hR : rm_X6_winner.frames + 1 ≤ R.frames ∧ 8 + (3 + 11) + rm_X6_winner.locals ≤ R.locals) : CallW R s args RX6 RX6 54 yX6_winner cX6_winner 3 (some .int) (.code yX6_winner cX6_winner 3 (some .int) :: wsL_law) rm_X6_winner 0 0 0 := ⟨cw_B 0 ht wd172 wd5 wd175 (by decide +kernel) rfl rfl hR, ht _ wd173, ht _ wd174⟩
set_option maxHeartbeats 1000000 in
set_option maxRecDepth 100000 in
theorem c_X6_isOver (l : Launch) (G : va_G) (cI cC cZ cG : ClassId) (sz : Nat) (qm qz qa qe qs qv qp qn : Nat) (z as be sl sv pd nd : IA) (sts len : Nat) (go : Int32) : Met l yX6_isOver (.code yX6_isOver cX6_isOver 1 (some .boolean) :: wsL_law) rm_X6_isOver (va_Pc [.ref qm] (bw G cI cC cZ cG false sz [(qm, .inr (6, [.ref qz, .ref qa, .ref qe, .int (nI sts), .ref qs, .ref qv, .ref qp, .int (nI len), .int go, .ref qn])), (qz, .inl (cI, 46, .inl z)), (qa, .inl (cI, 46, .inl as)), (qe, .inl (cI, 276, .inl be)), (qs, .inl (cI, 92, .inl sl)), (qv, .inl (cZ, 2, .inl sv)), (qp, .inl (cI, 60, .inl pd)), (qn, .inl (cI, 36, .inl nd))])) (vp_Si (fun r => r = bz (¬ mwi z < 0))) 0 0 (fun _ => False) := by
  refine met_bw rfl (Nat.le_of_ble_eq_true rfl) ?_
  intro p e s m below meth c ls hx hb hr hml hown hts hlocks hin hsz hP hK hD0 hX0 hl
  have hown : s.vm.findClass RX6 = some m.cls := hown
  have hl : lv_has ls 1 [(0, .ref qm)] := hl
  refine lv_aload_n hx hb dX6_isOver_0 rfl (lv_at hl 0 rfl) ?_
  have hPc : va_P G vwCl [(qm, .inr (6, [.ref qz, .ref qa, .ref qe, .int (nI sts), .ref qs, .ref qv, .ref qp, .int (nI len), .int go, .ref qn])), (qz, .inl (cI, 46, .inl z)), (qa, .inl (cI, 46, .inl as)), (qe, .inl (cI, 276, .inl be)), (qs, .inl (cI, 92, .inl sl)), (qv, .inl (cZ, 2, .inl sv)), (qp, .inl (cI, 60, .inl pd)), (qn, .inl (cI, 36, .inl nd))] s.heap := hP
  have hDc := hD0
  refine vp_callSi (va_Run.run (va_runV (As := []) (rest := []) ⟨hx, hb, hml, hown, hts⟩ (c_X6_winner l G cI cC cZ cG s.heap.size qm qz qa qe qs qv qp qn z as be sl sv pd nd sts len go) (cf_RX6_54 hts ⟨Nat.le_of_ble_eq_true rfl, Nat.le_of_ble_eq_true rfl⟩) (pre_V hK hPc hDc (ci := 6) (q0 := 0) rfl rfl) rfl rfl hl.1 rfl (lv_room (Nat.le_of_ble_eq_true rfl)) dX6_isOver_1 ⟨Nat.le_of_ble_eq_true rfl, Nat.le_of_ble_eq_true rfl⟩)) (fun r290 hr290 => ?_)
  subst hr290
  refine lv_if_lt (tgt := 11) hx hb dX6_isOver_4 (by decide) (fun c_291 => ?_) (fun c_291 => ?_)
  · refine lv_iconst (v := 0) hx hb dX6_isOver_11 (by decide) ?_
    exact W.zret (v := 0) hx hb hr rfl (fun t ht hW => ⟨0, rfl, bz_f (fun h => h c_291), ht⟩) (fun _ h => absurd h List.not_mem_nil) dX6_isOver_12
  · refine lv_iconst (v := 1) hx hb dX6_isOver_7 (by decide) ?_
    refine lv_goto (tgt := 12) hx hb dX6_isOver_8 (by decide) ?_
    exact W.zret (v := 1) hx hb hr rfl (fun t ht hW => ⟨1, rfl, bz_t c_291, ht⟩) (fun _ h => absurd h List.not_mem_nil) dX6_isOver_12

abbrev rm_X6_lowestOn : Room := { frames := 3, cells := 0, slots := 0, locals := 64 }
set_option maxHeartbeats 1000000 in
set_option maxRecDepth 100000 in
theorem c_X6_lowestOn (l : Launch) (G : va_G) (cI cC cZ cG : ClassId) (sz : Nat) (qm qz qa qe qs qv qp qn : Nat) (z as be sl sv pd nd : IA) (sts len : Nat) (go : Int32) (f0 : Int32) : Met l yX6_lowestOn (.code yX6_lowestOn cX6_lowestOn 4 (some .int) :: wsL_law) rm_X6_lowestOn (va_Pc [.ref qm, .int f0] (bw G cI cC cZ cG false sz [(qm, .inr (6, [.ref qz, .ref qa, .ref qe, .int (nI sts), .ref qs, .ref qv, .ref qp, .int (nI len), .int go, .ref qn])), (qz, .inl (cI, 46, .inl z)), (qa, .inl (cI, 46, .inl as)), (qe, .inl (cI, 276, .inl be)), (qs, .inl (cI, 92, .inl sl)), (qv, .inl (cZ, 2, .inl sv)), (qp, .inl (cI, 60, .inl pd)), (qn, .inl (cI, 36, .inl nd))])) (vp_Si (fun r => r = low (pcP z f0) 0 12)) 0 0 (fun _ => False) := by
  refine met_bw rfl (Nat.le_of_ble_eq_true rfl) ?_
  intro p e s m below meth c ls hx hb hr hml hown hts hlocks hin hsz hP hK hD0 hX0 hl
  have hown : s.vm.findClass RX6 = some m.cls := hown
  have hl : lv_has ls 4 [(0, .ref qm), (1, .int f0)] := hl
  generalize hQ : MQ below (vp_Si (fun r => r = low (pcP z f0) 0 12)) ([.ref qm, .int f0] : List Value).toArray s 0 0 (fun _ => False) = Q
  generalize hag : ([.ref qm, .int f0] : List Value).toArray = ag at hts hQ ⊢
  refine lv_bipush (v := (-6)) hx hb dX6_lowestOn_0 (by decide) ?_
  refine lv_istore_n (lv' := [(2, .int (-6)), (0, .ref qm), (1, .int f0)]) hx hb dX6_lowestOn_2 rfl hl (by decide) rfl (fun ls hl => ?_)
  refine lv_bipush (v := 11) hx hb dX6_lowestOn_3 (by decide) ?_
  refine lv_istore_n (lv' := [(3, .int 11), (2, .int (-6)), (0, .ref qm), (1, .int f0)]) hx hb dX6_lowestOn_5 rfl hl (by decide) rfl (fun ls hl => ?_)
  have L1 : ∀ (n : Nat), ∀ (A : Nat), ∀ (f : Int32), ∀ (hA : A ≤ 12), ∀ (hf2 : f = low (pcP z f0) A (12 - A)), ∀ (hn : A + 1 ≤ n), ∀ (ls : Array Slot), lv_has ls 4 [(3, .int (nI A + Int32.ofInt (-1))), (2, .int f), (0, .ref qm), (1, .int f0)] → W p l e rm_X6_lowestOn s m ag below meth c s.heap [] 0 0 Q (F0 m 6 ls []) := by
    intro n
    induction n with
    | zero =>
      intro A f hA hf2 hn ls hl
      omega
    | succ n ih1 =>
      intro A f hA hf2 hn ls hl
      rcases A with _ | b
      · have hl : lv_has ls 4 [(3, .int (-1)), (2, .int f), (0, .ref qm), (1, .int f0)] := hl
        refine lv_iload_n hx hb dX6_lowestOn_6 rfl (lv_at hl 0 rfl) ?_
        refine lv_if_lt (tgt := 31) hx hb dX6_lowestOn_7 (by decide) (fun c_293 => ?_) (fun c_293 => ?_)
        · refine lv_iload_n hx hb dX6_lowestOn_31 rfl (lv_at hl 1 rfl) ?_
          subst hQ
          exact W.iret (v := f) hx hb hr (fun t ht hW => ⟨f, rfl, by rw [hf2], ht⟩) (fun _ h => absurd h List.not_mem_nil) dX6_lowestOn_32
        · exact absurd c_293 (by decide)
      · rw [nI_dec] at hl
        refine lv_iload_n hx hb dX6_lowestOn_6 rfl (lv_at hl 0 rfl) ?_
        refine z0_lt (tgt := 31) hx hb b dX6_lowestOn_7 (by decide) rfl (by omega) ?_
        refine lv_aload_n hx hb dX6_lowestOn_10 rfl (lv_at hl 2 rfl) ?_
        refine lv_iload_n hx hb dX6_lowestOn_11 rfl (lv_at hl 0 rfl) ?_
        have hPc : va_P G vwCl [(qm, .inr (6, [.ref qz, .ref qa, .ref qe, .int (nI sts), .ref qs, .ref qv, .ref qp, .int (nI len), .int go, .ref qn])), (qz, .inl (cI, 46, .inl z)), (qa, .inl (cI, 46, .inl as)), (qe, .inl (cI, 276, .inl be)), (qs, .inl (cI, 92, .inl sl)), (qv, .inl (cZ, 2, .inl sv)), (qp, .inl (cI, 60, .inl pd)), (qn, .inl (cI, 36, .inl nd))] s.heap := hP
        have hDc := hD0
        refine vp_callSi (va_Run.run (va_runV (As := [.int (nI b)]) (rest := []) ⟨hx, hb, hml, hown, hts⟩ (c_X6_fieldOf l G cI cC cZ cG s.heap.size qm qz qa qe qs qv qp qn z as be sl sv pd nd sts len go b (by omega)) (cf_RX6_44 hts ⟨Nat.le_of_ble_eq_true rfl, Nat.le_of_ble_eq_true rfl⟩) (pre_V hK hPc hDc (ci := 6) (q0 := 0) rfl rfl) rfl rfl hl.1 rfl (lv_room (Nat.le_of_ble_eq_true rfl)) dX6_lowestOn_12 ⟨Nat.le_of_ble_eq_true rfl, Nat.le_of_ble_eq_true rfl⟩)) (fun r295 hr295 => ?_)
        subst hr295
        refine lv_iload_n hx hb dX6_lowestOn_15 rfl (lv_at hl 3 rfl) ?_
        refine lv_icmp_ne (tgt := 23) hx hb dX6_lowestOn_16 (by decide) (fun c_296 => ?_) (fun c_296 => ?_)
        · refine lv_iload_n hx hb dX6_lowestOn_23 rfl (lv_at hl 1 rfl) ?_
          refine lv_istore_n (lv' := [(2, .int f), (3, .int (nI b)), (0, .ref qm), (1, .int f0)]) hx hb dX6_lowestOn_24 rfl hl (by decide) rfl (fun ls hl => ?_)
          refine lv_iinc (v := (nI b) + Int32.ofInt (-1)) (lv' := [(3, .int ((nI b) + Int32.ofInt (-1))), (2, .int f), (0, .ref qm), (1, .int f0)]) hx hb dX6_lowestOn_25 hl (k := 1) rfl rfl (by decide) rfl (fun ls hl => ?_)
          refine lv_goto (tgt := 6) hx hb dX6_lowestOn_28 (by decide) ?_
          exact ih1 b f (by omega) (by rw [show 12 - b = (12 - (b + 1)) + 1 by omega, low, ← hf2]; simp [pcP, c_296]) (by omega) _ (lv_sub hl [0, 1, 2, 3] rfl)
        · refine lv_iload_n hx hb dX6_lowestOn_19 rfl (lv_at hl 0 rfl) ?_
          refine lv_goto (tgt := 24) hx hb dX6_lowestOn_20 (by decide) ?_
          refine lv_istore_n (lv' := [(2, .int (nI b)), (3, .int (nI b)), (0, .ref qm), (1, .int f0)]) hx hb dX6_lowestOn_24 rfl hl (by decide) rfl (fun ls hl => ?_)
          refine lv_iinc (v := (nI b) + Int32.ofInt (-1)) (lv' := [(3, .int ((nI b) + Int32.ofInt (-1))), (2, .int (nI b)), (0, .ref qm), (1, .int f0)]) hx hb dX6_lowestOn_25 hl (k := 1) rfl rfl (by decide) rfl (fun ls hl => ?_)
          refine lv_goto (tgt := 6) hx hb dX6_lowestOn_28 (by decide) ?_
          exact ih1 b (nI b) (by omega) (by rw [show 12 - b = (12 - (b + 1)) + 1 by omega, low, ← hf2]; simp [pcP, c_296]) (by omega) _ (lv_sub hl [0, 1, 2, 3] rfl)
  exact L1 13 12 (-6) (by decide) rfl (by decide) _ (lv_sub hl [0, 1, 2, 3] rfl)

abbrev rm_X6_lookAtBridges : Room := { frames := 5, cells := 0, slots := 0, locals := 111 }
theorem cf_RX6_61 {R : Room} {s : State} {args : Array Value} (ht : ∀ w ∈ wsL_law, w.before args s = true) (hR : rm_X6_allOn.frames + 1 ≤ R.frames ∧ 8 + (4 + 11) + rm_X6_allOn.locals ≤ R.locals) : CallW R s args RX6 RX6 61 yX6_allOn cX6_allOn 4 (some .int) (.code yX6_allOn cX6_allOn 4 (some .int) :: wsL_law) rm_X6_allOn 0 0 1 := ⟨cw_B 1 ht wd297 wd5 wd300 (by decide +kernel) rfl rfl hR, ht _ wd298, ht _ wd299⟩
theorem cf_RX6_58 {R : Room} {s : State} {args : Array Value} (ht : ∀ w ∈ wsL_law, w.before args s = true) (hR : rm_X6_isPairOn.frames + 1 ≤ R.frames ∧ 8 + (4 + 11) + rm_X6_isPairOn.locals ≤ R.locals) : CallW R s args RX6 RX6 58 yX6_isPairOn cX6_isPairOn 4 (some .boolean) (.code yX6_isPairOn cX6_isPairOn 4 (some .boolean) :: wsL_law) rm_X6_isPairOn 0 0 1 := ⟨cw_B 1 ht wd313 wd5 wd316 (by decide +kernel) rfl rfl hR, ht _ wd314, ht _ wd315⟩
set_option maxHeartbeats 1000000 in
set_option maxRecDepth 100000 in
theorem c_X6_lookAtBridges (l : Launch) (G : va_G) (cI cC cZ cG : ClassId) (sz : Nat) (qm qz qa qe qs qv qp qn : Nat) (z as be sl sv pd nd : IA) (sts len : Nat) (go : Int32) : Met l yX6_lookAtBridges (.code yX6_lookAtBridges cX6_lookAtBridges 3 none :: wsL_law) rm_X6_lookAtBridges (va_Pc [.ref qm] (bw G cI cC cZ cG false sz [(qm, .inr (6, [.ref qz, .ref qa, .ref qe, .int (nI sts), .ref qs, .ref qv, .ref qp, .int (nI len), .int go, .ref qn])), (qz, .inl (cI, 46, .inl z)), (qa, .inl (cI, 46, .inl as)), (qe, .inl (cI, 276, .inl be)), (qs, .inl (cI, 92, .inl sl)), (qv, .inl (cZ, 2, .inl sv)), (qp, .inl (cI, 60, .inl pd)), (qn, .inl (cI, 36, .inl nd))])) (va_Qv (fun (u : IA) => u = lk z 4) (fun (u : IA) t => va_P G vwCl [(qm, .inr (6, [.ref qz, .ref qa, .ref qe, .int (nI sts), .ref qs, .ref qv, .ref qp, .int (nI len), .int go, .ref qn])), (qz, .inl (cI, 46, .inl u)), (qa, .inl (cI, 46, .inl as)), (qe, .inl (cI, 276, .inl be)), (qs, .inl (cI, 92, .inl sl)), (qv, .inl (cZ, 2, .inl sv)), (qp, .inl (cI, 60, .inl pd)), (qn, .inl (cI, 36, .inl nd))] t.heap ∧ va_D (va_A [(qm, .inr (6, [.ref qz, .ref qa, .ref qe, .int (nI sts), .ref qs, .ref qv, .ref qp, .int (nI len), .int go, .ref qn])), (qz, .inl (cI, 46, .inl z)), (qa, .inl (cI, 46, .inl as)), (qe, .inl (cI, 276, .inl be)), (qs, .inl (cI, 92, .inl sl)), (qv, .inl (cZ, 2, .inl sv)), (qp, .inl (cI, 60, .inl pd)), (qn, .inl (cI, 36, .inl nd))] sz) [(qm, .inr (6, [.ref qz, .ref qa, .ref qe, .int (nI sts), .ref qs, .ref qv, .ref qp, .int (nI len), .int go, .ref qn])), (qz, .inl (cI, 46, .inl u)), (qa, .inl (cI, 46, .inl as)), (qe, .inl (cI, 276, .inl be)), (qs, .inl (cI, 92, .inl sl)), (qv, .inl (cZ, 2, .inl sv)), (qp, .inl (cI, 60, .inl pd)), (qn, .inl (cI, 36, .inl nd))]) (va_A [(qm, .inr (6, [.ref qz, .ref qa, .ref qe, .int (nI sts), .ref qs, .ref qv, .ref qp, .int (nI len), .int go, .ref qn])), (qz, .inl (cI, 46, .inl z)), (qa, .inl (cI, 46, .inl as)), (qe, .inl (cI, 276, .inl be)), (qs, .inl (cI, 92, .inl sl)), (qv, .inl (cZ, 2, .inl sv)), (qp, .inl (cI, 60, .inl pd)), (qn, .inl (cI, 36, .inl nd))] sz)) 0 0 (va_A [(qm, .inr (6, [.ref qz, .ref qa, .ref qe, .int (nI sts), .ref qs, .ref qv, .ref qp, .int (nI len), .int go, .ref qn])), (qz, .inl (cI, 46, .inl z)), (qa, .inl (cI, 46, .inl as)), (qe, .inl (cI, 276, .inl be)), (qs, .inl (cI, 92, .inl sl)), (qv, .inl (cZ, 2, .inl sv)), (qp, .inl (cI, 60, .inl pd)), (qn, .inl (cI, 36, .inl nd))] sz) := by
  refine met_bw rfl (Nat.le_of_ble_eq_true rfl) ?_
  intro p e s m below meth c ls hx hb hr hml hown hts hlocks hin hsz hP hK hD0 hX0 hl
  have hown : s.vm.findClass RX6 = some m.cls := hown
  have hl : lv_has ls 3 [(0, .ref qm)] := hl
  subst hsz
  have hD := hD0.self (sz := s.heap.size)
  generalize hAe : va_A [(qm, .inr (6, [.ref qz, .ref qa, .ref qe, .int (nI sts), .ref qs, .ref qv, .ref qp, .int (nI len), .int go, .ref qn])), (qz, .inl (cI, 46, .inl z)), (qa, .inl (cI, 46, .inl as)), (qe, .inl (cI, 276, .inl be)), (qs, .inl (cI, 92, .inl sl)), (qv, .inl (cZ, 2, .inl sv)), (qp, .inl (cI, 60, .inl pd)), (qn, .inl (cI, 36, .inl nd))] s.heap.size = A at hD ⊢
  have hA : ∀ q : Nat, s.heap.size ≤ q → A q := fun q h => by rw [← hAe]; exact Or.inr h
  have hS : va_S A s.heap s.heap [] := va_S.rf
  generalize hQ : MQ below (va_Qv (fun (u : IA) => u = lk z 4) (fun (u : IA) t => va_P G vwCl [(qm, .inr (6, [.ref qz, .ref qa, .ref qe, .int (nI sts), .ref qs, .ref qv, .ref qp, .int (nI len), .int go, .ref qn])), (qz, .inl (cI, 46, .inl u)), (qa, .inl (cI, 46, .inl as)), (qe, .inl (cI, 276, .inl be)), (qs, .inl (cI, 92, .inl sl)), (qv, .inl (cZ, 2, .inl sv)), (qp, .inl (cI, 60, .inl pd)), (qn, .inl (cI, 36, .inl nd))] t.heap ∧ va_D A [(qm, .inr (6, [.ref qz, .ref qa, .ref qe, .int (nI sts), .ref qs, .ref qv, .ref qp, .int (nI len), .int go, .ref qn])), (qz, .inl (cI, 46, .inl u)), (qa, .inl (cI, 46, .inl as)), (qe, .inl (cI, 276, .inl be)), (qs, .inl (cI, 92, .inl sl)), (qv, .inl (cZ, 2, .inl sv)), (qp, .inl (cI, 60, .inl pd)), (qn, .inl (cI, 36, .inl nd))]) A) ([.ref qm] : List Value).toArray s 0 0 A = Q
  generalize hag : ([.ref qm] : List Value).toArray = ag at hts hQ ⊢
  refine lv_iconst (v := 0) hx hb dX6_lookAtBridges_0 (by decide) ?_
  refine lv_istore_n (lv' := [(1, .int 0), (0, .ref qm)]) hx hb dX6_lookAtBridges_1 rfl hl (by decide) rfl (fun ls hl => ?_)
  have L1 : ∀ (n : Nat), ∀ (i : Nat), ∀ (zc : IA), ∀ (hi : i ≤ 4), ∀ (hf2 : zc = lk z i), ∀ (hn : 5 ≤ i + n), ∀ (H297 : Heap) (locs297 : List Loc), va_P G vwCl [(qm, .inr (6, [.ref qz, .ref qa, .ref qe, .int (nI sts), .ref qs, .ref qv, .ref qp, .int (nI len), .int go, .ref qn])), (qz, .inl (cI, 46, .inl zc)), (qa, .inl (cI, 46, .inl as)), (qe, .inl (cI, 276, .inl be)), (qs, .inl (cI, 92, .inl sl)), (qv, .inl (cZ, 2, .inl sv)), (qp, .inl (cI, 60, .inl pd)), (qn, .inl (cI, 36, .inl nd))] H297 → va_D A [(qm, .inr (6, [.ref qz, .ref qa, .ref qe, .int (nI sts), .ref qs, .ref qv, .ref qp, .int (nI len), .int go, .ref qn])), (qz, .inl (cI, 46, .inl zc)), (qa, .inl (cI, 46, .inl as)), (qe, .inl (cI, 276, .inl be)), (qs, .inl (cI, 92, .inl sl)), (qv, .inl (cZ, 2, .inl sv)), (qp, .inl (cI, 60, .inl pd)), (qn, .inl (cI, 36, .inl nd))] → va_S A s.heap H297 locs297 → ∀ (ls : Array Slot), lv_has ls 3 [(1, .int (nI i)), (0, .ref qm)] → W p l e rm_X6_lookAtBridges s m ag below meth c H297 locs297 0 0 Q (F0 m 2 ls []) := by
    intro n
    induction n with
    | zero =>
      intro i zc hi hf2 hn H297 locs297 hP hD hS ls hl
      omega
    | succ n ih1 =>
      intro i zc hi hf2 hn H297 locs297 hP hD hS ls hl
      refine lv_iload_n hx hb dX6_lookAtBridges_2 rfl (lv_at hl 0 rfl) ?_
      refine lv_iconst (v := 4) hx hb dX6_lookAtBridges_3 (by decide) ?_
      refine zi_ge (tgt := 118) hx hb i 4 dX6_lookAtBridges_4 (by decide) rfl rfl (by omega) (by decide) (fun c_298 => ?_) (fun c_298 => ?_)
      · subst hQ
        exact W.vret hx hb hr (fun t ht hW => ⟨⟨zc, rfl, by rw [hf2, show i = 4 by omega], by rw [ht]; exact hP, hD⟩, hS.F ht⟩) hS.2.2 dX6_lookAtBridges_118
      · refine lv_bipush (v := 8) hx hb dX6_lookAtBridges_7 (by decide) ?_
        refine lv_iload_n hx hb dX6_lookAtBridges_9 rfl (lv_at hl 0 rfl) ?_
        refine zi_mul hx hb 8 i dX6_lookAtBridges_10 rfl rfl ?_
        refine lv_iconst (v := 4) hx hb dX6_lookAtBridges_11 (by decide) ?_
        refine zi_add hx hb (8 * i) 4 dX6_lookAtBridges_12 rfl rfl ?_
        refine lv_istore_n (lv' := [(2, .int (nI ((8 * i) + 4))), (1, .int (nI i)), (0, .ref qm)]) hx hb dX6_lookAtBridges_13 rfl hl (by decide) rfl (fun ls hl => ?_)
        refine lv_aload_n hx hb dX6_lookAtBridges_14 rfl (lv_at hl 2 rfl) ?_
        refine va_get (D := G) (ci := 6) (v := .ref qz) (C := RX6) (T := TX6) (N := 10) hx hb hts inlX6 hown hK.1 hP 0 rfl rfl 0 (by decide) (hts _ wd78) (fun _ h9 => h9) rfl dX6_lookAtBridges_15 ?_
        refine lv_bipush (v := 24) hx hb dX6_lookAtBridges_18 (by decide) ?_
        refine lv_iload_n hx hb dX6_lookAtBridges_20 rfl (lv_at hl 1 rfl) ?_
        refine zi_add hx hb 24 i dX6_lookAtBridges_21 rfl rfl ?_
        refine za_ld hx hb hK.1 hP 1 0 rfl rfl (24 + i) rfl (by omega) (by decide) dX6_lookAtBridges_22 ?_
        refine lv_if_ne (tgt := 44) hx hb dX6_lookAtBridges_23 (by decide) (fun c_299 => ?_) (fun c_299 => ?_)
        · refine lv_aload_n hx hb dX6_lookAtBridges_44 rfl (lv_at hl 2 rfl) ?_
          refine va_get (D := G) (ci := 6) (v := .ref qz) (C := RX6) (T := TX6) (N := 10) hx hb hts inlX6 hown hK.1 hP 0 rfl rfl 0 (by decide) (hts _ wd78) (fun _ h9 => h9) rfl dX6_lookAtBridges_45 ?_
          refine lv_bipush (v := 28) hx hb dX6_lookAtBridges_48 (by decide) ?_
          refine lv_iload_n hx hb dX6_lookAtBridges_50 rfl (lv_at hl 1 rfl) ?_
          refine zi_add hx hb 28 i dX6_lookAtBridges_51 rfl rfl ?_
          refine za_ld hx hb hK.1 hP 1 0 rfl rfl (28 + i) rfl (by omega) (by decide) dX6_lookAtBridges_52 ?_
          refine lv_iconst (v := 1) hx hb dX6_lookAtBridges_53 (by decide) ?_
          refine lv_icmp_ne (tgt := 112) hx hb dX6_lookAtBridges_54 (by decide) (fun c_300 => ?_) (fun c_300 => ?_)
          · refine lv_iinc (v := nI (i + 1)) (lv' := [(1, .int (nI (i + 1))), (2, .int (nI ((8 * i) + 4))), (0, .ref qm)]) hx hb dX6_lookAtBridges_112 hl (k := 1) rfl (nI_inc i) (by decide) rfl (fun ls hl => ?_)
            refine lv_goto (tgt := 2) hx hb dX6_lookAtBridges_115 (by decide) ?_
            exact ih1 (i + 1) zc (by omega) (by rw [lk, ← hf2, lk1, if_neg (fun h => c_299 h.1), lk2, if_neg (fun h => c_300 h.1)]) (by omega) H297 locs297 hP hD hS _ (lv_sub hl [0, 2] rfl)
          · refine lv_aload_n hx hb dX6_lookAtBridges_57 rfl (lv_at hl 2 rfl) ?_
            refine lv_iload_n hx hb dX6_lookAtBridges_58 rfl (lv_at hl 0 rfl) ?_
            have hPc : va_P G vwCl [(qm, .inr (6, [.ref qz, .ref qa, .ref qe, .int (nI sts), .ref qs, .ref qv, .ref qp, .int (nI len), .int go, .ref qn])), (qz, .inl (cI, 46, .inl zc)), (qa, .inl (cI, 46, .inl as)), (qe, .inl (cI, 276, .inl be)), (qs, .inl (cI, 92, .inl sl)), (qv, .inl (cZ, 2, .inl sv)), (qp, .inl (cI, 60, .inl pd)), (qn, .inl (cI, 36, .inl nd))] H297 := hP
            have hDc := hD.tt
            refine vp_callSi (va_Run.run (va_runV (As := [.int (nI ((8 * i) + 4))]) (rest := []) ⟨hx, hb, hml, hown, hts⟩ (c_X6_allOn l G cI cC cZ cG H297.size qm qz qa qe qs qv qp qn zc as be sl sv pd nd sts len go (nI ((8 * i) + 4))) (cf_RX6_61 hts ⟨Nat.le_of_ble_eq_true rfl, Nat.le_of_ble_eq_true rfl⟩) (pre_V hK hPc hDc (ci := 6) (q0 := 0) rfl rfl) rfl rfl hl.1 rfl (lv_room (Nat.le_of_ble_eq_true rfl)) dX6_lookAtBridges_59 ⟨Nat.le_of_ble_eq_true rfl, Nat.le_of_ble_eq_true rfl⟩)) (fun r301 hr301 => ?_)
            subst hr301
            have hf302 := (@ao_le zc (nI ((8 * i) + 4)) 4)
            refine z0_ne (tgt := 112) hx hb (ao zc (nI ((8 * i) + 4)) 4) dX6_lookAtBridges_62 (by decide) rfl (by omega) (fun c_303 => ?_) (fun c_303 => ?_)
            · refine lv_iinc (v := nI (i + 1)) (lv' := [(1, .int (nI (i + 1))), (2, .int (nI ((8 * i) + 4))), (0, .ref qm)]) hx hb dX6_lookAtBridges_112 hl (k := 1) rfl (nI_inc i) (by decide) rfl (fun ls hl => ?_)
              refine lv_goto (tgt := 2) hx hb dX6_lookAtBridges_115 (by decide) ?_
              exact ih1 (i + 1) zc (by omega) (by rw [lk, ← hf2, lk1, if_neg (fun h => c_299 h.1), lk2, if_neg (fun h => c_303 h.2)]) (by omega) H297 locs297 hP hD hS _ (lv_sub hl [0, 2] rfl)
            · refine lv_aload_n hx hb dX6_lookAtBridges_65 rfl (lv_at hl 2 rfl) ?_
              refine va_get (D := G) (ci := 6) (v := .ref qz) (C := RX6) (T := TX6) (N := 10) hx hb hts inlX6 hown hK.1 hP 0 rfl rfl 0 (by decide) (hts _ wd78) (fun _ h9 => h9) rfl dX6_lookAtBridges_66 ?_
              refine lv_bipush (v := 28) hx hb dX6_lookAtBridges_69 (by decide) ?_
              refine lv_iload_n hx hb dX6_lookAtBridges_71 rfl (lv_at hl 1 rfl) ?_
              refine zi_add hx hb 28 i dX6_lookAtBridges_72 rfl rfl ?_
              refine lv_iconst (v := 0) hx hb dX6_lookAtBridges_73 (by decide) ?_
              refine za_st hx hb hK.1 hP hD hS 1 0 rfl rfl (28 + i) rfl (by omega) (by decide) dX6_lookAtBridges_74 (fun H304 locs304 hP hD hS => ?_)
              have hP : va_P G vwCl [(qm, .inr (6, [.ref qz, .ref qa, .ref qe, .int (nI sts), .ref qs, .ref qv, .ref qp, .int (nI len), .int go, .ref qn])), (qz, .inl (cI, 46, .inl (upd zc (28 + i) 0))), (qa, .inl (cI, 46, .inl as)), (qe, .inl (cI, 276, .inl be)), (qs, .inl (cI, 92, .inl sl)), (qv, .inl (cZ, 2, .inl sv)), (qp, .inl (cI, 60, .inl pd)), (qn, .inl (cI, 36, .inl nd))] H304 := hP
              have hD : va_D A [(qm, .inr (6, [.ref qz, .ref qa, .ref qe, .int (nI sts), .ref qs, .ref qv, .ref qp, .int (nI len), .int go, .ref qn])), (qz, .inl (cI, 46, .inl (upd zc (28 + i) 0))), (qa, .inl (cI, 46, .inl as)), (qe, .inl (cI, 276, .inl be)), (qs, .inl (cI, 92, .inl sl)), (qv, .inl (cZ, 2, .inl sv)), (qp, .inl (cI, 60, .inl pd)), (qn, .inl (cI, 36, .inl nd))] := hD
              refine lv_aload_n hx hb dX6_lookAtBridges_75 rfl (lv_at hl 2 rfl) ?_
              refine va_get (D := G) (ci := 6) (v := .ref qz) (C := RX6) (T := TX6) (N := 10) hx hb hts inlX6 hown hK.1 hP 0 rfl rfl 0 (by decide) (hts _ wd78) (fun _ h9 => h9) rfl dX6_lookAtBridges_76 ?_
              refine lv_bipush (v := 24) hx hb dX6_lookAtBridges_79 (by decide) ?_
              refine lv_iload_n hx hb dX6_lookAtBridges_81 rfl (lv_at hl 1 rfl) ?_
              refine zi_add hx hb 24 i dX6_lookAtBridges_82 rfl rfl ?_
              refine lv_iconst (v := 1) hx hb dX6_lookAtBridges_83 (by decide) ?_
              refine za_st hx hb hK.1 hP hD hS 1 0 rfl rfl (24 + i) rfl (by omega) (by decide) dX6_lookAtBridges_84 (fun H305 locs305 hP hD hS => ?_)
              have hP : va_P G vwCl [(qm, .inr (6, [.ref qz, .ref qa, .ref qe, .int (nI sts), .ref qs, .ref qv, .ref qp, .int (nI len), .int go, .ref qn])), (qz, .inl (cI, 46, .inl (upd (upd zc (28 + i) 0) (24 + i) 1))), (qa, .inl (cI, 46, .inl as)), (qe, .inl (cI, 276, .inl be)), (qs, .inl (cI, 92, .inl sl)), (qv, .inl (cZ, 2, .inl sv)), (qp, .inl (cI, 60, .inl pd)), (qn, .inl (cI, 36, .inl nd))] H305 := hP
              have hD : va_D A [(qm, .inr (6, [.ref qz, .ref qa, .ref qe, .int (nI sts), .ref qs, .ref qv, .ref qp, .int (nI len), .int go, .ref qn])), (qz, .inl (cI, 46, .inl (upd (upd zc (28 + i) 0) (24 + i) 1))), (qa, .inl (cI, 46, .inl as)), (qe, .inl (cI, 276, .inl be)), (qs, .inl (cI, 92, .inl sl)), (qv, .inl (cZ, 2, .inl sv)), (qp, .inl (cI, 60, .inl pd)), (qn, .inl (cI, 36, .inl nd))] := hD
              refine lv_aload_n hx hb dX6_lookAtBridges_85 rfl (lv_at hl 2 rfl) ?_
              refine va_get (D := G) (ci := 6) (v := .ref qz) (C := RX6) (T := TX6) (N := 10) hx hb hts inlX6 hown hK.1 hP 0 rfl rfl 0 (by decide) (hts _ wd78) (fun _ h9 => h9) rfl dX6_lookAtBridges_86 ?_
              refine lv_bipush (v := 32) hx hb dX6_lookAtBridges_89 (by decide) ?_
              refine lv_iload_n hx hb dX6_lookAtBridges_91 rfl (lv_at hl 1 rfl) ?_
              refine zi_add hx hb 32 i dX6_lookAtBridges_92 rfl rfl ?_
              refine lv_aload_n hx hb dX6_lookAtBridges_93 rfl (lv_at hl 2 rfl) ?_
              refine va_get (D := G) (ci := 6) (v := .ref qz) (C := RX6) (T := TX6) (N := 10) hx hb hts inlX6 hown hK.1 hP 0 rfl rfl 0 (by decide) (hts _ wd78) (fun _ h9 => h9) rfl dX6_lookAtBridges_94 ?_
              refine lv_bipush (v := 42) hx hb dX6_lookAtBridges_97 (by decide) ?_
              refine za_ld hx hb hK.1 hP 1 0 rfl rfl 42 rfl (by decide) (by decide) dX6_lookAtBridges_99 ?_
              refine za_st hx hb hK.1 hP hD hS 1 0 rfl rfl (32 + i) rfl (by omega) (by decide) dX6_lookAtBridges_100 (fun H306 locs306 hP hD hS => ?_)
              have hP : va_P G vwCl [(qm, .inr (6, [.ref qz, .ref qa, .ref qe, .int (nI sts), .ref qs, .ref qv, .ref qp, .int (nI len), .int go, .ref qn])), (qz, .inl (cI, 46, .inl (upd (upd (upd zc (28 + i) 0) (24 + i) 1) (32 + i) ((upd (upd zc (28 + i) 0) (24 + i) 1) 42)))), (qa, .inl (cI, 46, .inl as)), (qe, .inl (cI, 276, .inl be)), (qs, .inl (cI, 92, .inl sl)), (qv, .inl (cZ, 2, .inl sv)), (qp, .inl (cI, 60, .inl pd)), (qn, .inl (cI, 36, .inl nd))] H306 := hP
              have hD : va_D A [(qm, .inr (6, [.ref qz, .ref qa, .ref qe, .int (nI sts), .ref qs, .ref qv, .ref qp, .int (nI len), .int go, .ref qn])), (qz, .inl (cI, 46, .inl (upd (upd (upd zc (28 + i) 0) (24 + i) 1) (32 + i) ((upd (upd zc (28 + i) 0) (24 + i) 1) 42)))), (qa, .inl (cI, 46, .inl as)), (qe, .inl (cI, 276, .inl be)), (qs, .inl (cI, 92, .inl sl)), (qv, .inl (cZ, 2, .inl sv)), (qp, .inl (cI, 60, .inl pd)), (qn, .inl (cI, 36, .inl nd))] := hD
              refine lv_aload_n hx hb dX6_lookAtBridges_101 rfl (lv_at hl 2 rfl) ?_
              refine va_get (D := G) (ci := 6) (v := .ref qz) (C := RX6) (T := TX6) (N := 10) hx hb hts inlX6 hown hK.1 hP 0 rfl rfl 0 (by decide) (hts _ wd78) (fun _ h9 => h9) rfl dX6_lookAtBridges_102 ?_
              refine lv_bipush (v := 45) hx hb dX6_lookAtBridges_105 (by decide) ?_
              refine lv_dup2_11 hx hb dX6_lookAtBridges_107 rfl rfl ?_
              refine za_ld hx hb hK.1 hP 1 0 rfl rfl 45 rfl (by decide) (by decide) dX6_lookAtBridges_108 ?_
              refine lv_iconst (v := 1) hx hb dX6_lookAtBridges_109 (by decide) ?_
              refine lv_iadd hx hb dX6_lookAtBridges_110 ?_
              refine za_st hx hb hK.1 hP hD hS 1 0 rfl rfl 45 rfl (by decide) (by decide) dX6_lookAtBridges_111 (fun H307 locs307 hP hD hS => ?_)
              have hP : va_P G vwCl [(qm, .inr (6, [.ref qz, .ref qa, .ref qe, .int (nI sts), .ref qs, .ref qv, .ref qp, .int (nI len), .int go, .ref qn])), (qz, .inl (cI, 46, .inl (upd (upd (upd (upd zc (28 + i) 0) (24 + i) 1) (32 + i) ((upd (upd zc (28 + i) 0) (24 + i) 1) 42)) 45 (((upd (upd (upd zc (28 + i) 0) (24 + i) 1) (32 + i) ((upd (upd zc (28 + i) 0) (24 + i) 1) 42)) 45) + 1)))), (qa, .inl (cI, 46, .inl as)), (qe, .inl (cI, 276, .inl be)), (qs, .inl (cI, 92, .inl sl)), (qv, .inl (cZ, 2, .inl sv)), (qp, .inl (cI, 60, .inl pd)), (qn, .inl (cI, 36, .inl nd))] H307 := hP
              have hD : va_D A [(qm, .inr (6, [.ref qz, .ref qa, .ref qe, .int (nI sts), .ref qs, .ref qv, .ref qp, .int (nI len), .int go, .ref qn])), (qz, .inl (cI, 46, .inl (upd (upd (upd (upd zc (28 + i) 0) (24 + i) 1) (32 + i) ((upd (upd zc (28 + i) 0) (24 + i) 1) 42)) 45 (((upd (upd (upd zc (28 + i) 0) (24 + i) 1) (32 + i) ((upd (upd zc (28 + i) 0) (24 + i) 1) 42)) 45) + 1)))), (qa, .inl (cI, 46, .inl as)), (qe, .inl (cI, 276, .inl be)), (qs, .inl (cI, 92, .inl sl)), (qv, .inl (cZ, 2, .inl sv)), (qp, .inl (cI, 60, .inl pd)), (qn, .inl (cI, 36, .inl nd))] := hD
              refine lv_iinc (v := nI (i + 1)) (lv' := [(1, .int (nI (i + 1))), (2, .int (nI ((8 * i) + 4))), (0, .ref qm)]) hx hb dX6_lookAtBridges_112 hl (k := 1) rfl (nI_inc i) (by decide) rfl (fun ls hl => ?_)
              refine lv_goto (tgt := 2) hx hb dX6_lookAtBridges_115 (by decide) ?_
              exact ih1 (i + 1) (upd (upd (upd (upd zc (28 + i) 0) (24 + i) 1) (32 + i) ((upd (upd zc (28 + i) 0) (24 + i) 1) 42)) 45 (((upd (upd (upd zc (28 + i) 0) (24 + i) 1) (32 + i) ((upd (upd zc (28 + i) 0) (24 + i) 1) 42)) 45) + 1)) (by omega) (by rw [lk, ← hf2, lk1, if_neg (fun h => c_299 h.1), lk2, if_pos ⟨c_300, c_303⟩]) (by omega) H307 locs307 hP hD hS _ (lv_sub hl [0, 2] rfl)
        · refine lv_aload_n hx hb dX6_lookAtBridges_26 rfl (lv_at hl 2 rfl) ?_
          refine lv_iload_n hx hb dX6_lookAtBridges_27 rfl (lv_at hl 0 rfl) ?_
          have hPc : va_P G vwCl [(qm, .inr (6, [.ref qz, .ref qa, .ref qe, .int (nI sts), .ref qs, .ref qv, .ref qp, .int (nI len), .int go, .ref qn])), (qz, .inl (cI, 46, .inl zc)), (qa, .inl (cI, 46, .inl as)), (qe, .inl (cI, 276, .inl be)), (qs, .inl (cI, 92, .inl sl)), (qv, .inl (cZ, 2, .inl sv)), (qp, .inl (cI, 60, .inl pd)), (qn, .inl (cI, 36, .inl nd))] H297 := hP
          have hDc := hD.tt
          refine vp_callSi (va_Run.run (va_runV (As := [.int (nI ((8 * i) + 4))]) (rest := []) ⟨hx, hb, hml, hown, hts⟩ (c_X6_isPairOn l G cI cC cZ cG H297.size qm qz qa qe qs qv qp qn zc as be sl sv pd nd sts len go (nI ((8 * i) + 4))) (cf_RX6_58 hts ⟨Nat.le_of_ble_eq_true rfl, Nat.le_of_ble_eq_true rfl⟩) (pre_V hK hPc hDc (ci := 6) (q0 := 0) rfl rfl) rfl rfl hl.1 rfl (lv_room (Nat.le_of_ble_eq_true rfl)) dX6_lookAtBridges_28 ⟨Nat.le_of_ble_eq_true rfl, Nat.le_of_ble_eq_true rfl⟩)) (fun r308 hr308 => ?_)
          subst hr308
          refine zb_eq (tgt := 44) hx hb dX6_lookAtBridges_31 (by decide) (fun c_309 => ?_) (fun c_309 => ?_)
          · refine lv_aload_n hx hb dX6_lookAtBridges_44 rfl (lv_at hl 2 rfl) ?_
            refine va_get (D := G) (ci := 6) (v := .ref qz) (C := RX6) (T := TX6) (N := 10) hx hb hts inlX6 hown hK.1 hP 0 rfl rfl 0 (by decide) (hts _ wd78) (fun _ h9 => h9) rfl dX6_lookAtBridges_45 ?_
            refine lv_bipush (v := 28) hx hb dX6_lookAtBridges_48 (by decide) ?_
            refine lv_iload_n hx hb dX6_lookAtBridges_50 rfl (lv_at hl 1 rfl) ?_
            refine zi_add hx hb 28 i dX6_lookAtBridges_51 rfl rfl ?_
            refine za_ld hx hb hK.1 hP 1 0 rfl rfl (28 + i) rfl (by omega) (by decide) dX6_lookAtBridges_52 ?_
            refine lv_iconst (v := 1) hx hb dX6_lookAtBridges_53 (by decide) ?_
            refine lv_icmp_ne (tgt := 112) hx hb dX6_lookAtBridges_54 (by decide) (fun c_310 => ?_) (fun c_310 => ?_)
            · refine lv_iinc (v := nI (i + 1)) (lv' := [(1, .int (nI (i + 1))), (2, .int (nI ((8 * i) + 4))), (0, .ref qm)]) hx hb dX6_lookAtBridges_112 hl (k := 1) rfl (nI_inc i) (by decide) rfl (fun ls hl => ?_)
              refine lv_goto (tgt := 2) hx hb dX6_lookAtBridges_115 (by decide) ?_
              exact ih1 (i + 1) zc (by omega) (by rw [lk, ← hf2, lk1, if_neg (fun h => c_309 h.2), lk2, if_neg (fun h => c_310 h.1)]) (by omega) H297 locs297 hP hD hS _ (lv_sub hl [0, 2] rfl)
            · refine lv_aload_n hx hb dX6_lookAtBridges_57 rfl (lv_at hl 2 rfl) ?_
              refine lv_iload_n hx hb dX6_lookAtBridges_58 rfl (lv_at hl 0 rfl) ?_
              have hPc : va_P G vwCl [(qm, .inr (6, [.ref qz, .ref qa, .ref qe, .int (nI sts), .ref qs, .ref qv, .ref qp, .int (nI len), .int go, .ref qn])), (qz, .inl (cI, 46, .inl zc)), (qa, .inl (cI, 46, .inl as)), (qe, .inl (cI, 276, .inl be)), (qs, .inl (cI, 92, .inl sl)), (qv, .inl (cZ, 2, .inl sv)), (qp, .inl (cI, 60, .inl pd)), (qn, .inl (cI, 36, .inl nd))] H297 := hP
              have hDc := hD.tt
              refine vp_callSi (va_Run.run (va_runV (As := [.int (nI ((8 * i) + 4))]) (rest := []) ⟨hx, hb, hml, hown, hts⟩ (c_X6_allOn l G cI cC cZ cG H297.size qm qz qa qe qs qv qp qn zc as be sl sv pd nd sts len go (nI ((8 * i) + 4))) (cf_RX6_61 hts ⟨Nat.le_of_ble_eq_true rfl, Nat.le_of_ble_eq_true rfl⟩) (pre_V hK hPc hDc (ci := 6) (q0 := 0) rfl rfl) rfl rfl hl.1 rfl (lv_room (Nat.le_of_ble_eq_true rfl)) dX6_lookAtBridges_59 ⟨Nat.le_of_ble_eq_true rfl, Nat.le_of_ble_eq_true rfl⟩)) (fun r311 hr311 => ?_)
              subst hr311
              have hf312 := (@ao_le zc (nI ((8 * i) + 4)) 4)
              refine z0_ne (tgt := 112) hx hb (ao zc (nI ((8 * i) + 4)) 4) dX6_lookAtBridges_62 (by decide) rfl (by omega) (fun c_313 => ?_) (fun c_313 => ?_)
              · refine lv_iinc (v := nI (i + 1)) (lv' := [(1, .int (nI (i + 1))), (2, .int (nI ((8 * i) + 4))), (0, .ref qm)]) hx hb dX6_lookAtBridges_112 hl (k := 1) rfl (nI_inc i) (by decide) rfl (fun ls hl => ?_)
                refine lv_goto (tgt := 2) hx hb dX6_lookAtBridges_115 (by decide) ?_
                exact ih1 (i + 1) zc (by omega) (by rw [lk, ← hf2, lk1, if_neg (fun h => c_309 h.2), lk2, if_neg (fun h => c_313 h.2)]) (by omega) H297 locs297 hP hD hS _ (lv_sub hl [0, 2] rfl)
              · refine lv_aload_n hx hb dX6_lookAtBridges_65 rfl (lv_at hl 2 rfl) ?_
                refine va_get (D := G) (ci := 6) (v := .ref qz) (C := RX6) (T := TX6) (N := 10) hx hb hts inlX6 hown hK.1 hP 0 rfl rfl 0 (by decide) (hts _ wd78) (fun _ h9 => h9) rfl dX6_lookAtBridges_66 ?_
                refine lv_bipush (v := 28) hx hb dX6_lookAtBridges_69 (by decide) ?_
                refine lv_iload_n hx hb dX6_lookAtBridges_71 rfl (lv_at hl 1 rfl) ?_
                refine zi_add hx hb 28 i dX6_lookAtBridges_72 rfl rfl ?_
                refine lv_iconst (v := 0) hx hb dX6_lookAtBridges_73 (by decide) ?_
                refine za_st hx hb hK.1 hP hD hS 1 0 rfl rfl (28 + i) rfl (by omega) (by decide) dX6_lookAtBridges_74 (fun H314 locs314 hP hD hS => ?_)
                have hP : va_P G vwCl [(qm, .inr (6, [.ref qz, .ref qa, .ref qe, .int (nI sts), .ref qs, .ref qv, .ref qp, .int (nI len), .int go, .ref qn])), (qz, .inl (cI, 46, .inl (upd zc (28 + i) 0))), (qa, .inl (cI, 46, .inl as)), (qe, .inl (cI, 276, .inl be)), (qs, .inl (cI, 92, .inl sl)), (qv, .inl (cZ, 2, .inl sv)), (qp, .inl (cI, 60, .inl pd)), (qn, .inl (cI, 36, .inl nd))] H314 := hP
                have hD : va_D A [(qm, .inr (6, [.ref qz, .ref qa, .ref qe, .int (nI sts), .ref qs, .ref qv, .ref qp, .int (nI len), .int go, .ref qn])), (qz, .inl (cI, 46, .inl (upd zc (28 + i) 0))), (qa, .inl (cI, 46, .inl as)), (qe, .inl (cI, 276, .inl be)), (qs, .inl (cI, 92, .inl sl)), (qv, .inl (cZ, 2, .inl sv)), (qp, .inl (cI, 60, .inl pd)), (qn, .inl (cI, 36, .inl nd))] := hD
                refine lv_aload_n hx hb dX6_lookAtBridges_75 rfl (lv_at hl 2 rfl) ?_
                refine va_get (D := G) (ci := 6) (v := .ref qz) (C := RX6) (T := TX6) (N := 10) hx hb hts inlX6 hown hK.1 hP 0 rfl rfl 0 (by decide) (hts _ wd78) (fun _ h9 => h9) rfl dX6_lookAtBridges_76 ?_
                refine lv_bipush (v := 24) hx hb dX6_lookAtBridges_79 (by decide) ?_
                refine lv_iload_n hx hb dX6_lookAtBridges_81 rfl (lv_at hl 1 rfl) ?_
                refine zi_add hx hb 24 i dX6_lookAtBridges_82 rfl rfl ?_
                refine lv_iconst (v := 1) hx hb dX6_lookAtBridges_83 (by decide) ?_
                refine za_st hx hb hK.1 hP hD hS 1 0 rfl rfl (24 + i) rfl (by omega) (by decide) dX6_lookAtBridges_84 (fun H315 locs315 hP hD hS => ?_)
                have hP : va_P G vwCl [(qm, .inr (6, [.ref qz, .ref qa, .ref qe, .int (nI sts), .ref qs, .ref qv, .ref qp, .int (nI len), .int go, .ref qn])), (qz, .inl (cI, 46, .inl (upd (upd zc (28 + i) 0) (24 + i) 1))), (qa, .inl (cI, 46, .inl as)), (qe, .inl (cI, 276, .inl be)), (qs, .inl (cI, 92, .inl sl)), (qv, .inl (cZ, 2, .inl sv)), (qp, .inl (cI, 60, .inl pd)), (qn, .inl (cI, 36, .inl nd))] H315 := hP
                have hD : va_D A [(qm, .inr (6, [.ref qz, .ref qa, .ref qe, .int (nI sts), .ref qs, .ref qv, .ref qp, .int (nI len), .int go, .ref qn])), (qz, .inl (cI, 46, .inl (upd (upd zc (28 + i) 0) (24 + i) 1))), (qa, .inl (cI, 46, .inl as)), (qe, .inl (cI, 276, .inl be)), (qs, .inl (cI, 92, .inl sl)), (qv, .inl (cZ, 2, .inl sv)), (qp, .inl (cI, 60, .inl pd)), (qn, .inl (cI, 36, .inl nd))] := hD
                refine lv_aload_n hx hb dX6_lookAtBridges_85 rfl (lv_at hl 2 rfl) ?_
                refine va_get (D := G) (ci := 6) (v := .ref qz) (C := RX6) (T := TX6) (N := 10) hx hb hts inlX6 hown hK.1 hP 0 rfl rfl 0 (by decide) (hts _ wd78) (fun _ h9 => h9) rfl dX6_lookAtBridges_86 ?_
                refine lv_bipush (v := 32) hx hb dX6_lookAtBridges_89 (by decide) ?_
                refine lv_iload_n hx hb dX6_lookAtBridges_91 rfl (lv_at hl 1 rfl) ?_
                refine zi_add hx hb 32 i dX6_lookAtBridges_92 rfl rfl ?_
                refine lv_aload_n hx hb dX6_lookAtBridges_93 rfl (lv_at hl 2 rfl) ?_
                refine va_get (D := G) (ci := 6) (v := .ref qz) (C := RX6) (T := TX6) (N := 10) hx hb hts inlX6 hown hK.1 hP 0 rfl rfl 0 (by decide) (hts _ wd78) (fun _ h9 => h9) rfl dX6_lookAtBridges_94 ?_
                refine lv_bipush (v := 42) hx hb dX6_lookAtBridges_97 (by decide) ?_
                refine za_ld hx hb hK.1 hP 1 0 rfl rfl 42 rfl (by decide) (by decide) dX6_lookAtBridges_99 ?_
                refine za_st hx hb hK.1 hP hD hS 1 0 rfl rfl (32 + i) rfl (by omega) (by decide) dX6_lookAtBridges_100 (fun H316 locs316 hP hD hS => ?_)
                have hP : va_P G vwCl [(qm, .inr (6, [.ref qz, .ref qa, .ref qe, .int (nI sts), .ref qs, .ref qv, .ref qp, .int (nI len), .int go, .ref qn])), (qz, .inl (cI, 46, .inl (upd (upd (upd zc (28 + i) 0) (24 + i) 1) (32 + i) ((upd (upd zc (28 + i) 0) (24 + i) 1) 42)))), (qa, .inl (cI, 46, .inl as)), (qe, .inl (cI, 276, .inl be)), (qs, .inl (cI, 92, .inl sl)), (qv, .inl (cZ, 2, .inl sv)), (qp, .inl (cI, 60, .inl pd)), (qn, .inl (cI, 36, .inl nd))] H316 := hP
                have hD : va_D A [(qm, .inr (6, [.ref qz, .ref qa, .ref qe, .int (nI sts), .ref qs, .ref qv, .ref qp, .int (nI len), .int go, .ref qn])), (qz, .inl (cI, 46, .inl (upd (upd (upd zc (28 + i) 0) (24 + i) 1) (32 + i) ((upd (upd zc (28 + i) 0) (24 + i) 1) 42)))), (qa, .inl (cI, 46, .inl as)), (qe, .inl (cI, 276, .inl be)), (qs, .inl (cI, 92, .inl sl)), (qv, .inl (cZ, 2, .inl sv)), (qp, .inl (cI, 60, .inl pd)), (qn, .inl (cI, 36, .inl nd))] := hD
                refine lv_aload_n hx hb dX6_lookAtBridges_101 rfl (lv_at hl 2 rfl) ?_
                refine va_get (D := G) (ci := 6) (v := .ref qz) (C := RX6) (T := TX6) (N := 10) hx hb hts inlX6 hown hK.1 hP 0 rfl rfl 0 (by decide) (hts _ wd78) (fun _ h9 => h9) rfl dX6_lookAtBridges_102 ?_
                refine lv_bipush (v := 45) hx hb dX6_lookAtBridges_105 (by decide) ?_
                refine lv_dup2_11 hx hb dX6_lookAtBridges_107 rfl rfl ?_
                refine za_ld hx hb hK.1 hP 1 0 rfl rfl 45 rfl (by decide) (by decide) dX6_lookAtBridges_108 ?_
                refine lv_iconst (v := 1) hx hb dX6_lookAtBridges_109 (by decide) ?_
                refine lv_iadd hx hb dX6_lookAtBridges_110 ?_
                refine za_st hx hb hK.1 hP hD hS 1 0 rfl rfl 45 rfl (by decide) (by decide) dX6_lookAtBridges_111 (fun H317 locs317 hP hD hS => ?_)
                have hP : va_P G vwCl [(qm, .inr (6, [.ref qz, .ref qa, .ref qe, .int (nI sts), .ref qs, .ref qv, .ref qp, .int (nI len), .int go, .ref qn])), (qz, .inl (cI, 46, .inl (upd (upd (upd (upd zc (28 + i) 0) (24 + i) 1) (32 + i) ((upd (upd zc (28 + i) 0) (24 + i) 1) 42)) 45 (((upd (upd (upd zc (28 + i) 0) (24 + i) 1) (32 + i) ((upd (upd zc (28 + i) 0) (24 + i) 1) 42)) 45) + 1)))), (qa, .inl (cI, 46, .inl as)), (qe, .inl (cI, 276, .inl be)), (qs, .inl (cI, 92, .inl sl)), (qv, .inl (cZ, 2, .inl sv)), (qp, .inl (cI, 60, .inl pd)), (qn, .inl (cI, 36, .inl nd))] H317 := hP
                have hD : va_D A [(qm, .inr (6, [.ref qz, .ref qa, .ref qe, .int (nI sts), .ref qs, .ref qv, .ref qp, .int (nI len), .int go, .ref qn])), (qz, .inl (cI, 46, .inl (upd (upd (upd (upd zc (28 + i) 0) (24 + i) 1) (32 + i) ((upd (upd zc (28 + i) 0) (24 + i) 1) 42)) 45 (((upd (upd (upd zc (28 + i) 0) (24 + i) 1) (32 + i) ((upd (upd zc (28 + i) 0) (24 + i) 1) 42)) 45) + 1)))), (qa, .inl (cI, 46, .inl as)), (qe, .inl (cI, 276, .inl be)), (qs, .inl (cI, 92, .inl sl)), (qv, .inl (cZ, 2, .inl sv)), (qp, .inl (cI, 60, .inl pd)), (qn, .inl (cI, 36, .inl nd))] := hD
                refine lv_iinc (v := nI (i + 1)) (lv' := [(1, .int (nI (i + 1))), (2, .int (nI ((8 * i) + 4))), (0, .ref qm)]) hx hb dX6_lookAtBridges_112 hl (k := 1) rfl (nI_inc i) (by decide) rfl (fun ls hl => ?_)
                refine lv_goto (tgt := 2) hx hb dX6_lookAtBridges_115 (by decide) ?_
                exact ih1 (i + 1) (upd (upd (upd (upd zc (28 + i) 0) (24 + i) 1) (32 + i) ((upd (upd zc (28 + i) 0) (24 + i) 1) 42)) 45 (((upd (upd (upd zc (28 + i) 0) (24 + i) 1) (32 + i) ((upd (upd zc (28 + i) 0) (24 + i) 1) 42)) 45) + 1)) (by omega) (by rw [lk, ← hf2, lk1, if_neg (fun h => c_309 h.2), lk2, if_pos ⟨c_310, c_313⟩]) (by omega) H317 locs317 hP hD hS _ (lv_sub hl [0, 2] rfl)
          · refine lv_aload_n hx hb dX6_lookAtBridges_34 rfl (lv_at hl 2 rfl) ?_
            refine va_get (D := G) (ci := 6) (v := .ref qz) (C := RX6) (T := TX6) (N := 10) hx hb hts inlX6 hown hK.1 hP 0 rfl rfl 0 (by decide) (hts _ wd78) (fun _ h9 => h9) rfl dX6_lookAtBridges_35 ?_
            refine lv_bipush (v := 28) hx hb dX6_lookAtBridges_38 (by decide) ?_
            refine lv_iload_n hx hb dX6_lookAtBridges_40 rfl (lv_at hl 1 rfl) ?_
            refine zi_add hx hb 28 i dX6_lookAtBridges_41 rfl rfl ?_
            refine lv_iconst (v := 1) hx hb dX6_lookAtBridges_42 (by decide) ?_
            refine za_st hx hb hK.1 hP hD hS 1 0 rfl rfl (28 + i) rfl (by omega) (by decide) dX6_lookAtBridges_43 (fun H318 locs318 hP hD hS => ?_)
            have hP : va_P G vwCl [(qm, .inr (6, [.ref qz, .ref qa, .ref qe, .int (nI sts), .ref qs, .ref qv, .ref qp, .int (nI len), .int go, .ref qn])), (qz, .inl (cI, 46, .inl (upd zc (28 + i) 1))), (qa, .inl (cI, 46, .inl as)), (qe, .inl (cI, 276, .inl be)), (qs, .inl (cI, 92, .inl sl)), (qv, .inl (cZ, 2, .inl sv)), (qp, .inl (cI, 60, .inl pd)), (qn, .inl (cI, 36, .inl nd))] H318 := hP
            have hD : va_D A [(qm, .inr (6, [.ref qz, .ref qa, .ref qe, .int (nI sts), .ref qs, .ref qv, .ref qp, .int (nI len), .int go, .ref qn])), (qz, .inl (cI, 46, .inl (upd zc (28 + i) 1))), (qa, .inl (cI, 46, .inl as)), (qe, .inl (cI, 276, .inl be)), (qs, .inl (cI, 92, .inl sl)), (qv, .inl (cZ, 2, .inl sv)), (qp, .inl (cI, 60, .inl pd)), (qn, .inl (cI, 36, .inl nd))] := hD
            refine lv_aload_n hx hb dX6_lookAtBridges_44 rfl (lv_at hl 2 rfl) ?_
            refine va_get (D := G) (ci := 6) (v := .ref qz) (C := RX6) (T := TX6) (N := 10) hx hb hts inlX6 hown hK.1 hP 0 rfl rfl 0 (by decide) (hts _ wd78) (fun _ h9 => h9) rfl dX6_lookAtBridges_45 ?_
            refine lv_bipush (v := 28) hx hb dX6_lookAtBridges_48 (by decide) ?_
            refine lv_iload_n hx hb dX6_lookAtBridges_50 rfl (lv_at hl 1 rfl) ?_
            refine zi_add hx hb 28 i dX6_lookAtBridges_51 rfl rfl ?_
            refine za_ld hx hb hK.1 hP 1 0 rfl rfl (28 + i) rfl (by omega) (by decide) dX6_lookAtBridges_52 ?_
            refine lv_iconst (v := 1) hx hb dX6_lookAtBridges_53 (by decide) ?_
            refine lv_icmp_ne (tgt := 112) hx hb dX6_lookAtBridges_54 (by decide) (fun c_319 => ?_) (fun c_319 => ?_)
            · refine lv_iinc (v := nI (i + 1)) (lv' := [(1, .int (nI (i + 1))), (2, .int (nI ((8 * i) + 4))), (0, .ref qm)]) hx hb dX6_lookAtBridges_112 hl (k := 1) rfl (nI_inc i) (by decide) rfl (fun ls hl => ?_)
              refine lv_goto (tgt := 2) hx hb dX6_lookAtBridges_115 (by decide) ?_
              exact ih1 (i + 1) (upd zc (28 + i) 1) (by omega) (by rw [lk, ← hf2, lk1, if_pos ⟨c_299, c_309⟩, lk2, if_neg (fun h => c_319 h.1)]) (by omega) H318 locs318 hP hD hS _ (lv_sub hl [0, 2] rfl)
            · refine lv_aload_n hx hb dX6_lookAtBridges_57 rfl (lv_at hl 2 rfl) ?_
              refine lv_iload_n hx hb dX6_lookAtBridges_58 rfl (lv_at hl 0 rfl) ?_
              have hPc : va_P G vwCl [(qm, .inr (6, [.ref qz, .ref qa, .ref qe, .int (nI sts), .ref qs, .ref qv, .ref qp, .int (nI len), .int go, .ref qn])), (qz, .inl (cI, 46, .inl (upd zc (28 + i) 1))), (qa, .inl (cI, 46, .inl as)), (qe, .inl (cI, 276, .inl be)), (qs, .inl (cI, 92, .inl sl)), (qv, .inl (cZ, 2, .inl sv)), (qp, .inl (cI, 60, .inl pd)), (qn, .inl (cI, 36, .inl nd))] H318 := hP
              have hDc := hD.tt
              refine vp_callSi (va_Run.run (va_runV (As := [.int (nI ((8 * i) + 4))]) (rest := []) ⟨hx, hb, hml, hown, hts⟩ (c_X6_allOn l G cI cC cZ cG H318.size qm qz qa qe qs qv qp qn (upd zc (28 + i) 1) as be sl sv pd nd sts len go (nI ((8 * i) + 4))) (cf_RX6_61 hts ⟨Nat.le_of_ble_eq_true rfl, Nat.le_of_ble_eq_true rfl⟩) (pre_V hK hPc hDc (ci := 6) (q0 := 0) rfl rfl) rfl rfl hl.1 rfl (lv_room (Nat.le_of_ble_eq_true rfl)) dX6_lookAtBridges_59 ⟨Nat.le_of_ble_eq_true rfl, Nat.le_of_ble_eq_true rfl⟩)) (fun r320 hr320 => ?_)
              subst hr320
              have hf321 := (@ao_le (upd zc (28 + i) 1) (nI ((8 * i) + 4)) 4)
              refine z0_ne (tgt := 112) hx hb (ao (upd zc (28 + i) 1) (nI ((8 * i) + 4)) 4) dX6_lookAtBridges_62 (by decide) rfl (by omega) (fun c_322 => ?_) (fun c_322 => ?_)
              · refine lv_iinc (v := nI (i + 1)) (lv' := [(1, .int (nI (i + 1))), (2, .int (nI ((8 * i) + 4))), (0, .ref qm)]) hx hb dX6_lookAtBridges_112 hl (k := 1) rfl (nI_inc i) (by decide) rfl (fun ls hl => ?_)
                refine lv_goto (tgt := 2) hx hb dX6_lookAtBridges_115 (by decide) ?_
                exact ih1 (i + 1) (upd zc (28 + i) 1) (by omega) (by rw [lk, ← hf2, lk1, if_pos ⟨c_299, c_309⟩, lk2, if_neg (fun h => c_322 h.2)]) (by omega) H318 locs318 hP hD hS _ (lv_sub hl [0, 2] rfl)
              · refine lv_aload_n hx hb dX6_lookAtBridges_65 rfl (lv_at hl 2 rfl) ?_
                refine va_get (D := G) (ci := 6) (v := .ref qz) (C := RX6) (T := TX6) (N := 10) hx hb hts inlX6 hown hK.1 hP 0 rfl rfl 0 (by decide) (hts _ wd78) (fun _ h9 => h9) rfl dX6_lookAtBridges_66 ?_
                refine lv_bipush (v := 28) hx hb dX6_lookAtBridges_69 (by decide) ?_
                refine lv_iload_n hx hb dX6_lookAtBridges_71 rfl (lv_at hl 1 rfl) ?_
                refine zi_add hx hb 28 i dX6_lookAtBridges_72 rfl rfl ?_
                refine lv_iconst (v := 0) hx hb dX6_lookAtBridges_73 (by decide) ?_
                refine za_st hx hb hK.1 hP hD hS 1 0 rfl rfl (28 + i) rfl (by omega) (by decide) dX6_lookAtBridges_74 (fun H323 locs323 hP hD hS => ?_)
                have hP : va_P G vwCl [(qm, .inr (6, [.ref qz, .ref qa, .ref qe, .int (nI sts), .ref qs, .ref qv, .ref qp, .int (nI len), .int go, .ref qn])), (qz, .inl (cI, 46, .inl (upd (upd zc (28 + i) 1) (28 + i) 0))), (qa, .inl (cI, 46, .inl as)), (qe, .inl (cI, 276, .inl be)), (qs, .inl (cI, 92, .inl sl)), (qv, .inl (cZ, 2, .inl sv)), (qp, .inl (cI, 60, .inl pd)), (qn, .inl (cI, 36, .inl nd))] H323 := hP
                have hD : va_D A [(qm, .inr (6, [.ref qz, .ref qa, .ref qe, .int (nI sts), .ref qs, .ref qv, .ref qp, .int (nI len), .int go, .ref qn])), (qz, .inl (cI, 46, .inl (upd (upd zc (28 + i) 1) (28 + i) 0))), (qa, .inl (cI, 46, .inl as)), (qe, .inl (cI, 276, .inl be)), (qs, .inl (cI, 92, .inl sl)), (qv, .inl (cZ, 2, .inl sv)), (qp, .inl (cI, 60, .inl pd)), (qn, .inl (cI, 36, .inl nd))] := hD
                refine lv_aload_n hx hb dX6_lookAtBridges_75 rfl (lv_at hl 2 rfl) ?_
                refine va_get (D := G) (ci := 6) (v := .ref qz) (C := RX6) (T := TX6) (N := 10) hx hb hts inlX6 hown hK.1 hP 0 rfl rfl 0 (by decide) (hts _ wd78) (fun _ h9 => h9) rfl dX6_lookAtBridges_76 ?_
                refine lv_bipush (v := 24) hx hb dX6_lookAtBridges_79 (by decide) ?_
                refine lv_iload_n hx hb dX6_lookAtBridges_81 rfl (lv_at hl 1 rfl) ?_
                refine zi_add hx hb 24 i dX6_lookAtBridges_82 rfl rfl ?_
                refine lv_iconst (v := 1) hx hb dX6_lookAtBridges_83 (by decide) ?_
                refine za_st hx hb hK.1 hP hD hS 1 0 rfl rfl (24 + i) rfl (by omega) (by decide) dX6_lookAtBridges_84 (fun H324 locs324 hP hD hS => ?_)
                have hP : va_P G vwCl [(qm, .inr (6, [.ref qz, .ref qa, .ref qe, .int (nI sts), .ref qs, .ref qv, .ref qp, .int (nI len), .int go, .ref qn])), (qz, .inl (cI, 46, .inl (upd (upd (upd zc (28 + i) 1) (28 + i) 0) (24 + i) 1))), (qa, .inl (cI, 46, .inl as)), (qe, .inl (cI, 276, .inl be)), (qs, .inl (cI, 92, .inl sl)), (qv, .inl (cZ, 2, .inl sv)), (qp, .inl (cI, 60, .inl pd)), (qn, .inl (cI, 36, .inl nd))] H324 := hP
                have hD : va_D A [(qm, .inr (6, [.ref qz, .ref qa, .ref qe, .int (nI sts), .ref qs, .ref qv, .ref qp, .int (nI len), .int go, .ref qn])), (qz, .inl (cI, 46, .inl (upd (upd (upd zc (28 + i) 1) (28 + i) 0) (24 + i) 1))), (qa, .inl (cI, 46, .inl as)), (qe, .inl (cI, 276, .inl be)), (qs, .inl (cI, 92, .inl sl)), (qv, .inl (cZ, 2, .inl sv)), (qp, .inl (cI, 60, .inl pd)), (qn, .inl (cI, 36, .inl nd))] := hD
                refine lv_aload_n hx hb dX6_lookAtBridges_85 rfl (lv_at hl 2 rfl) ?_
                refine va_get (D := G) (ci := 6) (v := .ref qz) (C := RX6) (T := TX6) (N := 10) hx hb hts inlX6 hown hK.1 hP 0 rfl rfl 0 (by decide) (hts _ wd78) (fun _ h9 => h9) rfl dX6_lookAtBridges_86 ?_
                refine lv_bipush (v := 32) hx hb dX6_lookAtBridges_89 (by decide) ?_
                refine lv_iload_n hx hb dX6_lookAtBridges_91 rfl (lv_at hl 1 rfl) ?_
                refine zi_add hx hb 32 i dX6_lookAtBridges_92 rfl rfl ?_
                refine lv_aload_n hx hb dX6_lookAtBridges_93 rfl (lv_at hl 2 rfl) ?_
                refine va_get (D := G) (ci := 6) (v := .ref qz) (C := RX6) (T := TX6) (N := 10) hx hb hts inlX6 hown hK.1 hP 0 rfl rfl 0 (by decide) (hts _ wd78) (fun _ h9 => h9) rfl dX6_lookAtBridges_94 ?_
                refine lv_bipush (v := 42) hx hb dX6_lookAtBridges_97 (by decide) ?_
                refine za_ld hx hb hK.1 hP 1 0 rfl rfl 42 rfl (by decide) (by decide) dX6_lookAtBridges_99 ?_
                refine za_st hx hb hK.1 hP hD hS 1 0 rfl rfl (32 + i) rfl (by omega) (by decide) dX6_lookAtBridges_100 (fun H325 locs325 hP hD hS => ?_)
                have hP : va_P G vwCl [(qm, .inr (6, [.ref qz, .ref qa, .ref qe, .int (nI sts), .ref qs, .ref qv, .ref qp, .int (nI len), .int go, .ref qn])), (qz, .inl (cI, 46, .inl (upd (upd (upd (upd zc (28 + i) 1) (28 + i) 0) (24 + i) 1) (32 + i) ((upd (upd (upd zc (28 + i) 1) (28 + i) 0) (24 + i) 1) 42)))), (qa, .inl (cI, 46, .inl as)), (qe, .inl (cI, 276, .inl be)), (qs, .inl (cI, 92, .inl sl)), (qv, .inl (cZ, 2, .inl sv)), (qp, .inl (cI, 60, .inl pd)), (qn, .inl (cI, 36, .inl nd))] H325 := hP
                have hD : va_D A [(qm, .inr (6, [.ref qz, .ref qa, .ref qe, .int (nI sts), .ref qs, .ref qv, .ref qp, .int (nI len), .int go, .ref qn])), (qz, .inl (cI, 46, .inl (upd (upd (upd (upd zc (28 + i) 1) (28 + i) 0) (24 + i) 1) (32 + i) ((upd (upd (upd zc (28 + i) 1) (28 + i) 0) (24 + i) 1) 42)))), (qa, .inl (cI, 46, .inl as)), (qe, .inl (cI, 276, .inl be)), (qs, .inl (cI, 92, .inl sl)), (qv, .inl (cZ, 2, .inl sv)), (qp, .inl (cI, 60, .inl pd)), (qn, .inl (cI, 36, .inl nd))] := hD
                refine lv_aload_n hx hb dX6_lookAtBridges_101 rfl (lv_at hl 2 rfl) ?_
                refine va_get (D := G) (ci := 6) (v := .ref qz) (C := RX6) (T := TX6) (N := 10) hx hb hts inlX6 hown hK.1 hP 0 rfl rfl 0 (by decide) (hts _ wd78) (fun _ h9 => h9) rfl dX6_lookAtBridges_102 ?_
                refine lv_bipush (v := 45) hx hb dX6_lookAtBridges_105 (by decide) ?_
                refine lv_dup2_11 hx hb dX6_lookAtBridges_107 rfl rfl ?_
                refine za_ld hx hb hK.1 hP 1 0 rfl rfl 45 rfl (by decide) (by decide) dX6_lookAtBridges_108 ?_
                refine lv_iconst (v := 1) hx hb dX6_lookAtBridges_109 (by decide) ?_
                refine lv_iadd hx hb dX6_lookAtBridges_110 ?_
                refine za_st hx hb hK.1 hP hD hS 1 0 rfl rfl 45 rfl (by decide) (by decide) dX6_lookAtBridges_111 (fun H326 locs326 hP hD hS => ?_)
                have hP : va_P G vwCl [(qm, .inr (6, [.ref qz, .ref qa, .ref qe, .int (nI sts), .ref qs, .ref qv, .ref qp, .int (nI len), .int go, .ref qn])), (qz, .inl (cI, 46, .inl (upd (upd (upd (upd (upd zc (28 + i) 1) (28 + i) 0) (24 + i) 1) (32 + i) ((upd (upd (upd zc (28 + i) 1) (28 + i) 0) (24 + i) 1) 42)) 45 (((upd (upd (upd (upd zc (28 + i) 1) (28 + i) 0) (24 + i) 1) (32 + i) ((upd (upd (upd zc (28 + i) 1) (28 + i) 0) (24 + i) 1) 42)) 45) + 1)))), (qa, .inl (cI, 46, .inl as)), (qe, .inl (cI, 276, .inl be)), (qs, .inl (cI, 92, .inl sl)), (qv, .inl (cZ, 2, .inl sv)), (qp, .inl (cI, 60, .inl pd)), (qn, .inl (cI, 36, .inl nd))] H326 := hP
                have hD : va_D A [(qm, .inr (6, [.ref qz, .ref qa, .ref qe, .int (nI sts), .ref qs, .ref qv, .ref qp, .int (nI len), .int go, .ref qn])), (qz, .inl (cI, 46, .inl (upd (upd (upd (upd (upd zc (28 + i) 1) (28 + i) 0) (24 + i) 1) (32 + i) ((upd (upd (upd zc (28 + i) 1) (28 + i) 0) (24 + i) 1) 42)) 45 (((upd (upd (upd (upd zc (28 + i) 1) (28 + i) 0) (24 + i) 1) (32 + i) ((upd (upd (upd zc (28 + i) 1) (28 + i) 0) (24 + i) 1) 42)) 45) + 1)))), (qa, .inl (cI, 46, .inl as)), (qe, .inl (cI, 276, .inl be)), (qs, .inl (cI, 92, .inl sl)), (qv, .inl (cZ, 2, .inl sv)), (qp, .inl (cI, 60, .inl pd)), (qn, .inl (cI, 36, .inl nd))] := hD
                refine lv_iinc (v := nI (i + 1)) (lv' := [(1, .int (nI (i + 1))), (2, .int (nI ((8 * i) + 4))), (0, .ref qm)]) hx hb dX6_lookAtBridges_112 hl (k := 1) rfl (nI_inc i) (by decide) rfl (fun ls hl => ?_)
                refine lv_goto (tgt := 2) hx hb dX6_lookAtBridges_115 (by decide) ?_
                exact ih1 (i + 1) (upd (upd (upd (upd (upd zc (28 + i) 1) (28 + i) 0) (24 + i) 1) (32 + i) ((upd (upd (upd zc (28 + i) 1) (28 + i) 0) (24 + i) 1) 42)) 45 (((upd (upd (upd (upd zc (28 + i) 1) (28 + i) 0) (24 + i) 1) (32 + i) ((upd (upd (upd zc (28 + i) 1) (28 + i) 0) (24 + i) 1) 42)) 45) + 1)) (by omega) (by rw [lk, ← hf2, lk1, if_pos ⟨c_299, c_309⟩, lk2, if_pos ⟨c_319, c_322⟩]) (by omega) H326 locs326 hP hD hS _ (lv_sub hl [0, 2] rfl)
  exact L1 5 0 z (by decide) rfl (by decide) s.heap [] hP hD hS _ (lv_sub hl [0, 1] rfl)

abbrev rm_X6_putAside : Room := { frames := 0, cells := 0, slots := 0, locals := 0 }
set_option maxHeartbeats 1000000 in
set_option maxRecDepth 100000 in
theorem c_X6_putAside (l : Launch) (G : va_G) (cI cC cZ cG : ClassId) (sz : Nat) (qm qz qa qe qs qv qp qn : Nat) (z as be sl sv pd nd : IA) (sts len : Nat) (go : Int32) : Met l yX6_putAside (.code yX6_putAside cX6_putAside 2 none :: wsL_law) rm_X6_putAside (va_Pc [.ref qm] (bw G cI cC cZ cG false sz [(qm, .inr (6, [.ref qz, .ref qa, .ref qe, .int (nI sts), .ref qs, .ref qv, .ref qp, .int (nI len), .int go, .ref qn])), (qz, .inl (cI, 46, .inl z)), (qa, .inl (cI, 46, .inl as)), (qe, .inl (cI, 276, .inl be)), (qs, .inl (cI, 92, .inl sl)), (qv, .inl (cZ, 2, .inl sv)), (qp, .inl (cI, 60, .inl pd)), (qn, .inl (cI, 36, .inl nd))])) (va_Qv (fun (u : IA) => u = cpz as z 0 0 46) (fun (u : IA) t => va_P G vwCl [(qm, .inr (6, [.ref qz, .ref qa, .ref qe, .int (nI sts), .ref qs, .ref qv, .ref qp, .int (nI len), .int go, .ref qn])), (qz, .inl (cI, 46, .inl z)), (qa, .inl (cI, 46, .inl u)), (qe, .inl (cI, 276, .inl be)), (qs, .inl (cI, 92, .inl sl)), (qv, .inl (cZ, 2, .inl sv)), (qp, .inl (cI, 60, .inl pd)), (qn, .inl (cI, 36, .inl nd))] t.heap ∧ va_D (va_A [(qm, .inr (6, [.ref qz, .ref qa, .ref qe, .int (nI sts), .ref qs, .ref qv, .ref qp, .int (nI len), .int go, .ref qn])), (qz, .inl (cI, 46, .inl z)), (qa, .inl (cI, 46, .inl as)), (qe, .inl (cI, 276, .inl be)), (qs, .inl (cI, 92, .inl sl)), (qv, .inl (cZ, 2, .inl sv)), (qp, .inl (cI, 60, .inl pd)), (qn, .inl (cI, 36, .inl nd))] sz) [(qm, .inr (6, [.ref qz, .ref qa, .ref qe, .int (nI sts), .ref qs, .ref qv, .ref qp, .int (nI len), .int go, .ref qn])), (qz, .inl (cI, 46, .inl z)), (qa, .inl (cI, 46, .inl u)), (qe, .inl (cI, 276, .inl be)), (qs, .inl (cI, 92, .inl sl)), (qv, .inl (cZ, 2, .inl sv)), (qp, .inl (cI, 60, .inl pd)), (qn, .inl (cI, 36, .inl nd))]) (va_A [(qm, .inr (6, [.ref qz, .ref qa, .ref qe, .int (nI sts), .ref qs, .ref qv, .ref qp, .int (nI len), .int go, .ref qn])), (qz, .inl (cI, 46, .inl z)), (qa, .inl (cI, 46, .inl as)), (qe, .inl (cI, 276, .inl be)), (qs, .inl (cI, 92, .inl sl)), (qv, .inl (cZ, 2, .inl sv)), (qp, .inl (cI, 60, .inl pd)), (qn, .inl (cI, 36, .inl nd))] sz)) 0 0 (va_A [(qm, .inr (6, [.ref qz, .ref qa, .ref qe, .int (nI sts), .ref qs, .ref qv, .ref qp, .int (nI len), .int go, .ref qn])), (qz, .inl (cI, 46, .inl z)), (qa, .inl (cI, 46, .inl as)), (qe, .inl (cI, 276, .inl be)), (qs, .inl (cI, 92, .inl sl)), (qv, .inl (cZ, 2, .inl sv)), (qp, .inl (cI, 60, .inl pd)), (qn, .inl (cI, 36, .inl nd))] sz) := by
  refine met_bw rfl (Nat.le_of_ble_eq_true rfl) ?_
  intro p e s m below meth c ls hx hb hr hml hown hts hlocks hin hsz hP hK hD0 hX0 hl
  have hown : s.vm.findClass RX6 = some m.cls := hown
  have hl : lv_has ls 2 [(0, .ref qm)] := hl
  subst hsz
  have hD := hD0.self (sz := s.heap.size)
  generalize hAe : va_A [(qm, .inr (6, [.ref qz, .ref qa, .ref qe, .int (nI sts), .ref qs, .ref qv, .ref qp, .int (nI len), .int go, .ref qn])), (qz, .inl (cI, 46, .inl z)), (qa, .inl (cI, 46, .inl as)), (qe, .inl (cI, 276, .inl be)), (qs, .inl (cI, 92, .inl sl)), (qv, .inl (cZ, 2, .inl sv)), (qp, .inl (cI, 60, .inl pd)), (qn, .inl (cI, 36, .inl nd))] s.heap.size = A at hD ⊢
  have hA : ∀ q : Nat, s.heap.size ≤ q → A q := fun q h => by rw [← hAe]; exact Or.inr h
  have hS : va_S A s.heap s.heap [] := va_S.rf
  generalize hQ : MQ below (va_Qv (fun (u : IA) => u = cpz as z 0 0 46) (fun (u : IA) t => va_P G vwCl [(qm, .inr (6, [.ref qz, .ref qa, .ref qe, .int (nI sts), .ref qs, .ref qv, .ref qp, .int (nI len), .int go, .ref qn])), (qz, .inl (cI, 46, .inl z)), (qa, .inl (cI, 46, .inl u)), (qe, .inl (cI, 276, .inl be)), (qs, .inl (cI, 92, .inl sl)), (qv, .inl (cZ, 2, .inl sv)), (qp, .inl (cI, 60, .inl pd)), (qn, .inl (cI, 36, .inl nd))] t.heap ∧ va_D A [(qm, .inr (6, [.ref qz, .ref qa, .ref qe, .int (nI sts), .ref qs, .ref qv, .ref qp, .int (nI len), .int go, .ref qn])), (qz, .inl (cI, 46, .inl z)), (qa, .inl (cI, 46, .inl u)), (qe, .inl (cI, 276, .inl be)), (qs, .inl (cI, 92, .inl sl)), (qv, .inl (cZ, 2, .inl sv)), (qp, .inl (cI, 60, .inl pd)), (qn, .inl (cI, 36, .inl nd))]) A) ([.ref qm] : List Value).toArray s 0 0 A = Q
  generalize hag : ([.ref qm] : List Value).toArray = ag at hts hQ ⊢
  refine lv_iconst (v := 0) hx hb dX6_putAside_0 (by decide) ?_
  refine lv_istore_n (lv' := [(1, .int 0), (0, .ref qm)]) hx hb dX6_putAside_1 rfl hl (by decide) rfl (fun ls hl => ?_)
  have L1 : ∀ (n : Nat), ∀ (i : Nat), ∀ (zc : IA), ∀ (hi : i ≤ 46), ∀ (hf2 : zc = cpz as z 0 0 i), ∀ (hn : 47 ≤ i + n), ∀ (H327 : Heap) (locs327 : List Loc), va_P G vwCl [(qm, .inr (6, [.ref qz, .ref qa, .ref qe, .int (nI sts), .ref qs, .ref qv, .ref qp, .int (nI len), .int go, .ref qn])), (qz, .inl (cI, 46, .inl z)), (qa, .inl (cI, 46, .inl zc)), (qe, .inl (cI, 276, .inl be)), (qs, .inl (cI, 92, .inl sl)), (qv, .inl (cZ, 2, .inl sv)), (qp, .inl (cI, 60, .inl pd)), (qn, .inl (cI, 36, .inl nd))] H327 → va_D A [(qm, .inr (6, [.ref qz, .ref qa, .ref qe, .int (nI sts), .ref qs, .ref qv, .ref qp, .int (nI len), .int go, .ref qn])), (qz, .inl (cI, 46, .inl z)), (qa, .inl (cI, 46, .inl zc)), (qe, .inl (cI, 276, .inl be)), (qs, .inl (cI, 92, .inl sl)), (qv, .inl (cZ, 2, .inl sv)), (qp, .inl (cI, 60, .inl pd)), (qn, .inl (cI, 36, .inl nd))] → va_S A s.heap H327 locs327 → ∀ (ls : Array Slot), lv_has ls 2 [(1, .int (nI i)), (0, .ref qm)] → W p l e rm_X6_putAside s m ag below meth c H327 locs327 0 0 Q (F0 m 2 ls []) := by
    intro n
    induction n with
    | zero =>
      intro i zc hi hf2 hn H327 locs327 hP hD hS ls hl
      omega
    | succ n ih1 =>
      intro i zc hi hf2 hn H327 locs327 hP hD hS ls hl
      refine lv_iload_n hx hb dX6_putAside_2 rfl (lv_at hl 0 rfl) ?_
      refine lv_bipush (v := 46) hx hb dX6_putAside_3 (by decide) ?_
      refine zi_ge (tgt := 26) hx hb i 46 dX6_putAside_5 (by decide) rfl rfl (by omega) (by decide) (fun c_328 => ?_) (fun c_328 => ?_)
      · subst hQ
        exact W.vret hx hb hr (fun t ht hW => ⟨⟨zc, rfl, by rw [hf2, show i = 46 by omega], by rw [ht]; exact hP, hD⟩, hS.F ht⟩) hS.2.2 dX6_putAside_26
      · refine lv_aload_n hx hb dX6_putAside_8 rfl (lv_at hl 1 rfl) ?_
        refine va_get (D := G) (ci := 6) (v := .ref qa) (C := RX6) (T := TX6) (N := 10) hx hb hts inlX6 hown hK.1 hP 0 rfl rfl 1 (by decide) (hts _ wd79) (fun _ h9 => h9) rfl dX6_putAside_9 ?_
        refine lv_iload_n hx hb dX6_putAside_12 rfl (lv_at hl 0 rfl) ?_
        refine lv_aload_n hx hb dX6_putAside_13 rfl (lv_at hl 1 rfl) ?_
        refine va_get (D := G) (ci := 6) (v := .ref qz) (C := RX6) (T := TX6) (N := 10) hx hb hts inlX6 hown hK.1 hP 0 rfl rfl 0 (by decide) (hts _ wd78) (fun _ h9 => h9) rfl dX6_putAside_14 ?_
        refine lv_iload_n hx hb dX6_putAside_17 rfl (lv_at hl 0 rfl) ?_
        refine za_ld hx hb hK.1 hP 1 0 rfl rfl i rfl (by omega) (by decide) dX6_putAside_18 ?_
        refine za_st hx hb hK.1 hP hD hS 2 0 rfl rfl i rfl (by omega) (by decide) dX6_putAside_19 (fun H329 locs329 hP hD hS => ?_)
        have hP : va_P G vwCl [(qm, .inr (6, [.ref qz, .ref qa, .ref qe, .int (nI sts), .ref qs, .ref qv, .ref qp, .int (nI len), .int go, .ref qn])), (qz, .inl (cI, 46, .inl z)), (qa, .inl (cI, 46, .inl (upd zc i (z i)))), (qe, .inl (cI, 276, .inl be)), (qs, .inl (cI, 92, .inl sl)), (qv, .inl (cZ, 2, .inl sv)), (qp, .inl (cI, 60, .inl pd)), (qn, .inl (cI, 36, .inl nd))] H329 := hP
        have hD : va_D A [(qm, .inr (6, [.ref qz, .ref qa, .ref qe, .int (nI sts), .ref qs, .ref qv, .ref qp, .int (nI len), .int go, .ref qn])), (qz, .inl (cI, 46, .inl z)), (qa, .inl (cI, 46, .inl (upd zc i (z i)))), (qe, .inl (cI, 276, .inl be)), (qs, .inl (cI, 92, .inl sl)), (qv, .inl (cZ, 2, .inl sv)), (qp, .inl (cI, 60, .inl pd)), (qn, .inl (cI, 36, .inl nd))] := hD
        refine lv_iinc (v := nI (i + 1)) (lv' := [(1, .int (nI (i + 1))), (0, .ref qm)]) hx hb dX6_putAside_20 hl (k := 0) rfl (nI_inc i) (by decide) rfl (fun ls hl => ?_)
        refine lv_goto (tgt := 2) hx hb dX6_putAside_23 (by decide) ?_
        exact ih1 (i + 1) (upd zc i (z i)) (by omega) (by rw [cpz, ← hf2, Nat.zero_add]) (by omega) H329 locs329 hP hD hS _ (lv_sub hl [0, 1] rfl)
  exact L1 47 0 as (by decide) rfl (by decide) s.heap [] hP hD hS _ (lv_sub hl [0, 1] rfl)

abbrev rm_X6_putBack : Room := { frames := 0, cells := 0, slots := 0, locals := 0 }
set_option maxHeartbeats 1000000 in
set_option maxRecDepth 100000 in
theorem c_X6_putBack (l : Launch) (G : va_G) (cI cC cZ cG : ClassId) (sz : Nat) (qm qz qa qe qs qv qp qn : Nat) (z as be sl sv pd nd : IA) (sts len : Nat) (go : Int32) : Met l yX6_putBack (.code yX6_putBack cX6_putBack 2 none :: wsL_law) rm_X6_putBack (va_Pc [.ref qm] (bw G cI cC cZ cG false sz [(qm, .inr (6, [.ref qz, .ref qa, .ref qe, .int (nI sts), .ref qs, .ref qv, .ref qp, .int (nI len), .int go, .ref qn])), (qz, .inl (cI, 46, .inl z)), (qa, .inl (cI, 46, .inl as)), (qe, .inl (cI, 276, .inl be)), (qs, .inl (cI, 92, .inl sl)), (qv, .inl (cZ, 2, .inl sv)), (qp, .inl (cI, 60, .inl pd)), (qn, .inl (cI, 36, .inl nd))])) (va_Qv (fun (u : IA) => u = cpz z as 0 0 46) (fun (u : IA) t => va_P G vwCl [(qm, .inr (6, [.ref qz, .ref qa, .ref qe, .int (nI sts), .ref qs, .ref qv, .ref qp, .int (nI len), .int go, .ref qn])), (qz, .inl (cI, 46, .inl u)), (qa, .inl (cI, 46, .inl as)), (qe, .inl (cI, 276, .inl be)), (qs, .inl (cI, 92, .inl sl)), (qv, .inl (cZ, 2, .inl sv)), (qp, .inl (cI, 60, .inl pd)), (qn, .inl (cI, 36, .inl nd))] t.heap ∧ va_D (va_A [(qm, .inr (6, [.ref qz, .ref qa, .ref qe, .int (nI sts), .ref qs, .ref qv, .ref qp, .int (nI len), .int go, .ref qn])), (qz, .inl (cI, 46, .inl z)), (qa, .inl (cI, 46, .inl as)), (qe, .inl (cI, 276, .inl be)), (qs, .inl (cI, 92, .inl sl)), (qv, .inl (cZ, 2, .inl sv)), (qp, .inl (cI, 60, .inl pd)), (qn, .inl (cI, 36, .inl nd))] sz) [(qm, .inr (6, [.ref qz, .ref qa, .ref qe, .int (nI sts), .ref qs, .ref qv, .ref qp, .int (nI len), .int go, .ref qn])), (qz, .inl (cI, 46, .inl u)), (qa, .inl (cI, 46, .inl as)), (qe, .inl (cI, 276, .inl be)), (qs, .inl (cI, 92, .inl sl)), (qv, .inl (cZ, 2, .inl sv)), (qp, .inl (cI, 60, .inl pd)), (qn, .inl (cI, 36, .inl nd))]) (va_A [(qm, .inr (6, [.ref qz, .ref qa, .ref qe, .int (nI sts), .ref qs, .ref qv, .ref qp, .int (nI len), .int go, .ref qn])), (qz, .inl (cI, 46, .inl z)), (qa, .inl (cI, 46, .inl as)), (qe, .inl (cI, 276, .inl be)), (qs, .inl (cI, 92, .inl sl)), (qv, .inl (cZ, 2, .inl sv)), (qp, .inl (cI, 60, .inl pd)), (qn, .inl (cI, 36, .inl nd))] sz)) 0 0 (va_A [(qm, .inr (6, [.ref qz, .ref qa, .ref qe, .int (nI sts), .ref qs, .ref qv, .ref qp, .int (nI len), .int go, .ref qn])), (qz, .inl (cI, 46, .inl z)), (qa, .inl (cI, 46, .inl as)), (qe, .inl (cI, 276, .inl be)), (qs, .inl (cI, 92, .inl sl)), (qv, .inl (cZ, 2, .inl sv)), (qp, .inl (cI, 60, .inl pd)), (qn, .inl (cI, 36, .inl nd))] sz) := by
  refine met_bw rfl (Nat.le_of_ble_eq_true rfl) ?_
  intro p e s m below meth c ls hx hb hr hml hown hts hlocks hin hsz hP hK hD0 hX0 hl
  have hown : s.vm.findClass RX6 = some m.cls := hown
  have hl : lv_has ls 2 [(0, .ref qm)] := hl
  subst hsz
  have hD := hD0.self (sz := s.heap.size)
  generalize hAe : va_A [(qm, .inr (6, [.ref qz, .ref qa, .ref qe, .int (nI sts), .ref qs, .ref qv, .ref qp, .int (nI len), .int go, .ref qn])), (qz, .inl (cI, 46, .inl z)), (qa, .inl (cI, 46, .inl as)), (qe, .inl (cI, 276, .inl be)), (qs, .inl (cI, 92, .inl sl)), (qv, .inl (cZ, 2, .inl sv)), (qp, .inl (cI, 60, .inl pd)), (qn, .inl (cI, 36, .inl nd))] s.heap.size = A at hD ⊢
  have hA : ∀ q : Nat, s.heap.size ≤ q → A q := fun q h => by rw [← hAe]; exact Or.inr h
  have hS : va_S A s.heap s.heap [] := va_S.rf
  generalize hQ : MQ below (va_Qv (fun (u : IA) => u = cpz z as 0 0 46) (fun (u : IA) t => va_P G vwCl [(qm, .inr (6, [.ref qz, .ref qa, .ref qe, .int (nI sts), .ref qs, .ref qv, .ref qp, .int (nI len), .int go, .ref qn])), (qz, .inl (cI, 46, .inl u)), (qa, .inl (cI, 46, .inl as)), (qe, .inl (cI, 276, .inl be)), (qs, .inl (cI, 92, .inl sl)), (qv, .inl (cZ, 2, .inl sv)), (qp, .inl (cI, 60, .inl pd)), (qn, .inl (cI, 36, .inl nd))] t.heap ∧ va_D A [(qm, .inr (6, [.ref qz, .ref qa, .ref qe, .int (nI sts), .ref qs, .ref qv, .ref qp, .int (nI len), .int go, .ref qn])), (qz, .inl (cI, 46, .inl u)), (qa, .inl (cI, 46, .inl as)), (qe, .inl (cI, 276, .inl be)), (qs, .inl (cI, 92, .inl sl)), (qv, .inl (cZ, 2, .inl sv)), (qp, .inl (cI, 60, .inl pd)), (qn, .inl (cI, 36, .inl nd))]) A) ([.ref qm] : List Value).toArray s 0 0 A = Q
  generalize hag : ([.ref qm] : List Value).toArray = ag at hts hQ ⊢
  refine lv_iconst (v := 0) hx hb dX6_putBack_0 (by decide) ?_
  refine lv_istore_n (lv' := [(1, .int 0), (0, .ref qm)]) hx hb dX6_putBack_1 rfl hl (by decide) rfl (fun ls hl => ?_)
  have L1 : ∀ (n : Nat), ∀ (i : Nat), ∀ (zc : IA), ∀ (hi : i ≤ 46), ∀ (hf2 : zc = cpz z as 0 0 i), ∀ (hn : 47 ≤ i + n), ∀ (H330 : Heap) (locs330 : List Loc), va_P G vwCl [(qm, .inr (6, [.ref qz, .ref qa, .ref qe, .int (nI sts), .ref qs, .ref qv, .ref qp, .int (nI len), .int go, .ref qn])), (qz, .inl (cI, 46, .inl zc)), (qa, .inl (cI, 46, .inl as)), (qe, .inl (cI, 276, .inl be)), (qs, .inl (cI, 92, .inl sl)), (qv, .inl (cZ, 2, .inl sv)), (qp, .inl (cI, 60, .inl pd)), (qn, .inl (cI, 36, .inl nd))] H330 → va_D A [(qm, .inr (6, [.ref qz, .ref qa, .ref qe, .int (nI sts), .ref qs, .ref qv, .ref qp, .int (nI len), .int go, .ref qn])), (qz, .inl (cI, 46, .inl zc)), (qa, .inl (cI, 46, .inl as)), (qe, .inl (cI, 276, .inl be)), (qs, .inl (cI, 92, .inl sl)), (qv, .inl (cZ, 2, .inl sv)), (qp, .inl (cI, 60, .inl pd)), (qn, .inl (cI, 36, .inl nd))] → va_S A s.heap H330 locs330 → ∀ (ls : Array Slot), lv_has ls 2 [(1, .int (nI i)), (0, .ref qm)] → W p l e rm_X6_putBack s m ag below meth c H330 locs330 0 0 Q (F0 m 2 ls []) := by
    intro n
    induction n with
    | zero =>
      intro i zc hi hf2 hn H330 locs330 hP hD hS ls hl
      omega
    | succ n ih1 =>
      intro i zc hi hf2 hn H330 locs330 hP hD hS ls hl
      refine lv_iload_n hx hb dX6_putBack_2 rfl (lv_at hl 0 rfl) ?_
      refine lv_bipush (v := 46) hx hb dX6_putBack_3 (by decide) ?_
      refine zi_ge (tgt := 26) hx hb i 46 dX6_putBack_5 (by decide) rfl rfl (by omega) (by decide) (fun c_331 => ?_) (fun c_331 => ?_)
      · subst hQ
        exact W.vret hx hb hr (fun t ht hW => ⟨⟨zc, rfl, by rw [hf2, show i = 46 by omega], by rw [ht]; exact hP, hD⟩, hS.F ht⟩) hS.2.2 dX6_putBack_26
      · refine lv_aload_n hx hb dX6_putBack_8 rfl (lv_at hl 1 rfl) ?_
        refine va_get (D := G) (ci := 6) (v := .ref qz) (C := RX6) (T := TX6) (N := 10) hx hb hts inlX6 hown hK.1 hP 0 rfl rfl 0 (by decide) (hts _ wd78) (fun _ h9 => h9) rfl dX6_putBack_9 ?_
        refine lv_iload_n hx hb dX6_putBack_12 rfl (lv_at hl 0 rfl) ?_
        refine lv_aload_n hx hb dX6_putBack_13 rfl (lv_at hl 1 rfl) ?_
        refine va_get (D := G) (ci := 6) (v := .ref qa) (C := RX6) (T := TX6) (N := 10) hx hb hts inlX6 hown hK.1 hP 0 rfl rfl 1 (by decide) (hts _ wd79) (fun _ h9 => h9) rfl dX6_putBack_14 ?_
        refine lv_iload_n hx hb dX6_putBack_17 rfl (lv_at hl 0 rfl) ?_
        refine za_ld hx hb hK.1 hP 2 0 rfl rfl i rfl (by omega) (by decide) dX6_putBack_18 ?_
        refine za_st hx hb hK.1 hP hD hS 1 0 rfl rfl i rfl (by omega) (by decide) dX6_putBack_19 (fun H332 locs332 hP hD hS => ?_)
        have hP : va_P G vwCl [(qm, .inr (6, [.ref qz, .ref qa, .ref qe, .int (nI sts), .ref qs, .ref qv, .ref qp, .int (nI len), .int go, .ref qn])), (qz, .inl (cI, 46, .inl (upd zc i (as i)))), (qa, .inl (cI, 46, .inl as)), (qe, .inl (cI, 276, .inl be)), (qs, .inl (cI, 92, .inl sl)), (qv, .inl (cZ, 2, .inl sv)), (qp, .inl (cI, 60, .inl pd)), (qn, .inl (cI, 36, .inl nd))] H332 := hP
        have hD : va_D A [(qm, .inr (6, [.ref qz, .ref qa, .ref qe, .int (nI sts), .ref qs, .ref qv, .ref qp, .int (nI len), .int go, .ref qn])), (qz, .inl (cI, 46, .inl (upd zc i (as i)))), (qa, .inl (cI, 46, .inl as)), (qe, .inl (cI, 276, .inl be)), (qs, .inl (cI, 92, .inl sl)), (qv, .inl (cZ, 2, .inl sv)), (qp, .inl (cI, 60, .inl pd)), (qn, .inl (cI, 36, .inl nd))] := hD
        refine lv_iinc (v := nI (i + 1)) (lv' := [(1, .int (nI (i + 1))), (0, .ref qm)]) hx hb dX6_putBack_20 hl (k := 0) rfl (nI_inc i) (by decide) rfl (fun ls hl => ?_)
        refine lv_goto (tgt := 2) hx hb dX6_putBack_23 (by decide) ?_
        exact ih1 (i + 1) (upd zc i (as i)) (by omega) (by rw [cpz, ← hf2, Nat.zero_add]) (by omega) H332 locs332 hP hD hS _ (lv_sub hl [0, 1] rfl)
  exact L1 47 0 z (by decide) rfl (by decide) s.heap [] hP hD hS _ (lv_sub hl [0, 1] rfl)

abbrev rm_X6_record : Room := { frames := 0, cells := 0, slots := 0, locals := 0 }
set_option maxHeartbeats 1000000 in
set_option maxRecDepth 100000 in
theorem c_X6_record (l : Launch) (G : va_G) (cI cC cZ cG : ClassId) (sz : Nat) (qm qz qa qe qs qv qp qn : Nat) (z as be sl sv pd nd : IA) (sts len : Nat) (go : Int32) (hst : sts ≤ 6) : Met l yX6_record (.code yX6_record cX6_record 2 none :: wsL_law) rm_X6_record (va_Pc [.ref qm] (bw G cI cC cZ cG false sz [(qm, .inr (6, [.ref qz, .ref qa, .ref qe, .int (nI sts), .ref qs, .ref qv, .ref qp, .int (nI len), .int go, .ref qn])), (qz, .inl (cI, 46, .inl z)), (qa, .inl (cI, 46, .inl as)), (qe, .inl (cI, 276, .inl be)), (qs, .inl (cI, 92, .inl sl)), (qv, .inl (cZ, 2, .inl sv)), (qp, .inl (cI, 60, .inl pd)), (qn, .inl (cI, 36, .inl nd))])) (va_Qv (fun (u : Unit) => True) (fun (u : Unit) t => va_P G vwCl [(qm, .inr (6, [.ref qz, .ref qa, .ref qe, .int (nI (rcN sts)), .ref qs, .ref qv, .ref qp, .int (nI len), .int go, .ref qn])), (qz, .inl (cI, 46, .inl z)), (qa, .inl (cI, 46, .inl as)), (qe, .inl (cI, 276, .inl (rcB be z sts))), (qs, .inl (cI, 92, .inl sl)), (qv, .inl (cZ, 2, .inl sv)), (qp, .inl (cI, 60, .inl pd)), (qn, .inl (cI, 36, .inl nd))] t.heap ∧ va_D (va_A [(qm, .inr (6, [.ref qz, .ref qa, .ref qe, .int (nI sts), .ref qs, .ref qv, .ref qp, .int (nI len), .int go, .ref qn])), (qz, .inl (cI, 46, .inl z)), (qa, .inl (cI, 46, .inl as)), (qe, .inl (cI, 276, .inl be)), (qs, .inl (cI, 92, .inl sl)), (qv, .inl (cZ, 2, .inl sv)), (qp, .inl (cI, 60, .inl pd)), (qn, .inl (cI, 36, .inl nd))] sz) [(qm, .inr (6, [.ref qz, .ref qa, .ref qe, .int (nI (rcN sts)), .ref qs, .ref qv, .ref qp, .int (nI len), .int go, .ref qn])), (qz, .inl (cI, 46, .inl z)), (qa, .inl (cI, 46, .inl as)), (qe, .inl (cI, 276, .inl (rcB be z sts))), (qs, .inl (cI, 92, .inl sl)), (qv, .inl (cZ, 2, .inl sv)), (qp, .inl (cI, 60, .inl pd)), (qn, .inl (cI, 36, .inl nd))]) (va_A [(qm, .inr (6, [.ref qz, .ref qa, .ref qe, .int (nI sts), .ref qs, .ref qv, .ref qp, .int (nI len), .int go, .ref qn])), (qz, .inl (cI, 46, .inl z)), (qa, .inl (cI, 46, .inl as)), (qe, .inl (cI, 276, .inl be)), (qs, .inl (cI, 92, .inl sl)), (qv, .inl (cZ, 2, .inl sv)), (qp, .inl (cI, 60, .inl pd)), (qn, .inl (cI, 36, .inl nd))] sz)) 0 0 (va_A [(qm, .inr (6, [.ref qz, .ref qa, .ref qe, .int (nI sts), .ref qs, .ref qv, .ref qp, .int (nI len), .int go, .ref qn])), (qz, .inl (cI, 46, .inl z)), (qa, .inl (cI, 46, .inl as)), (qe, .inl (cI, 276, .inl be)), (qs, .inl (cI, 92, .inl sl)), (qv, .inl (cZ, 2, .inl sv)), (qp, .inl (cI, 60, .inl pd)), (qn, .inl (cI, 36, .inl nd))] sz) := by
  refine met_bw rfl (Nat.le_of_ble_eq_true rfl) ?_
  intro p e s m below meth c ls hx hb hr hml hown hts hlocks hin hsz hP hK hD0 hX0 hl
  have hown : s.vm.findClass RX6 = some m.cls := hown
  have hl : lv_has ls 2 [(0, .ref qm)] := hl
  subst hsz
  have hD := hD0.self (sz := s.heap.size)
  generalize hAe : va_A [(qm, .inr (6, [.ref qz, .ref qa, .ref qe, .int (nI sts), .ref qs, .ref qv, .ref qp, .int (nI len), .int go, .ref qn])), (qz, .inl (cI, 46, .inl z)), (qa, .inl (cI, 46, .inl as)), (qe, .inl (cI, 276, .inl be)), (qs, .inl (cI, 92, .inl sl)), (qv, .inl (cZ, 2, .inl sv)), (qp, .inl (cI, 60, .inl pd)), (qn, .inl (cI, 36, .inl nd))] s.heap.size = A at hD ⊢
  have hA : ∀ q : Nat, s.heap.size ≤ q → A q := fun q h => by rw [← hAe]; exact Or.inr h
  have hS : va_S A s.heap s.heap [] := va_S.rf
  generalize hQ : MQ below (va_Qv (fun (u : Unit) => True) (fun (u : Unit) t => va_P G vwCl [(qm, .inr (6, [.ref qz, .ref qa, .ref qe, .int (nI (rcN sts)), .ref qs, .ref qv, .ref qp, .int (nI len), .int go, .ref qn])), (qz, .inl (cI, 46, .inl z)), (qa, .inl (cI, 46, .inl as)), (qe, .inl (cI, 276, .inl (rcB be z sts))), (qs, .inl (cI, 92, .inl sl)), (qv, .inl (cZ, 2, .inl sv)), (qp, .inl (cI, 60, .inl pd)), (qn, .inl (cI, 36, .inl nd))] t.heap ∧ va_D A [(qm, .inr (6, [.ref qz, .ref qa, .ref qe, .int (nI (rcN sts)), .ref qs, .ref qv, .ref qp, .int (nI len), .int go, .ref qn])), (qz, .inl (cI, 46, .inl z)), (qa, .inl (cI, 46, .inl as)), (qe, .inl (cI, 276, .inl (rcB be z sts))), (qs, .inl (cI, 92, .inl sl)), (qv, .inl (cZ, 2, .inl sv)), (qp, .inl (cI, 60, .inl pd)), (qn, .inl (cI, 36, .inl nd))]) A) ([.ref qm] : List Value).toArray s 0 0 A = Q
  generalize hag : ([.ref qm] : List Value).toArray = ag at hts hQ ⊢
  refine lv_aload_n hx hb dX6_record_0 rfl (lv_at hl 0 rfl) ?_
  refine va_get (D := G) (ci := 6) (v := .int (nI sts)) (C := RX6) (T := TX6) (N := 10) hx hb hts inlX6 hown hK.1 hP 0 rfl rfl 3 (by decide) (hts _ wd123) (fun _ h9 => h9) rfl dX6_record_1 ?_
  refine lv_bipush (v := 6) hx hb dX6_record_4 (by decide) ?_
  refine zi_ne (tgt := 49) hx hb sts 6 dX6_record_6 (by decide) rfl rfl (by omega) (by decide) (fun c_333 => ?_) (fun c_333 => ?_)
  · refine lv_iconst (v := 0) hx hb dX6_record_49 (by decide) ?_
    refine lv_istore_n (lv' := [(1, .int 0), (0, .ref qm)]) hx hb dX6_record_50 rfl hl (by decide) rfl (fun ls hl => ?_)
    have L1 : ∀ (n : Nat), ∀ (i : Nat), ∀ (zd : IA), ∀ (hi2 : i ≤ 46), ∀ (hf3 : zd = cpz be z (46 * sts) 0 i), ∀ (hn2 : 47 ≤ i + n), ∀ (H334 : Heap) (locs334 : List Loc), va_P G vwCl [(qm, .inr (6, [.ref qz, .ref qa, .ref qe, .int (nI sts), .ref qs, .ref qv, .ref qp, .int (nI len), .int go, .ref qn])), (qz, .inl (cI, 46, .inl z)), (qa, .inl (cI, 46, .inl as)), (qe, .inl (cI, 276, .inl zd)), (qs, .inl (cI, 92, .inl sl)), (qv, .inl (cZ, 2, .inl sv)), (qp, .inl (cI, 60, .inl pd)), (qn, .inl (cI, 36, .inl nd))] H334 → va_D A [(qm, .inr (6, [.ref qz, .ref qa, .ref qe, .int (nI sts), .ref qs, .ref qv, .ref qp, .int (nI len), .int go, .ref qn])), (qz, .inl (cI, 46, .inl z)), (qa, .inl (cI, 46, .inl as)), (qe, .inl (cI, 276, .inl zd)), (qs, .inl (cI, 92, .inl sl)), (qv, .inl (cZ, 2, .inl sv)), (qp, .inl (cI, 60, .inl pd)), (qn, .inl (cI, 36, .inl nd))] → va_S A s.heap H334 locs334 → ∀ (ls : Array Slot), lv_has ls 2 [(1, .int (nI i)), (0, .ref qm)] → W p l e rm_X6_record s m ag below meth c H334 locs334 0 0 Q (F0 m 51 ls []) := by
      intro n
      induction n with
      | zero =>
        intro i zd hi2 hf3 hn2 H334 locs334 hP hD hS ls hl
        omega
      | succ n ih1 =>
        intro i zd hi2 hf3 hn2 H334 locs334 hP hD hS ls hl
        refine lv_iload_n hx hb dX6_record_51 rfl (lv_at hl 0 rfl) ?_
        refine lv_bipush (v := 46) hx hb dX6_record_52 (by decide) ?_
        refine zi_ge (tgt := 83) hx hb i 46 dX6_record_54 (by decide) rfl rfl (by omega) (by decide) (fun c_335 => ?_) (fun c_335 => ?_)
        · refine lv_aload_n hx hb dX6_record_83 rfl (lv_at hl 1 rfl) ?_
          refine lv_dup hx hb dX6_record_84 rfl ?_
          refine va_get (D := G) (ci := 6) (v := .int (nI sts)) (C := RX6) (T := TX6) (N := 10) hx hb hts inlX6 hown hK.1 hP 0 rfl rfl 3 (by decide) (hts _ wd123) (fun _ h9 => h9) rfl dX6_record_85 ?_
          refine lv_iconst (v := 1) hx hb dX6_record_88 (by decide) ?_
          refine zi_add hx hb sts 1 dX6_record_89 rfl rfl ?_
          refine va_put (D := G) (ci := 6) (v := .int (nI (sts + 1))) (ty := .int) (C := RX6) (T := TX6) (N := 10) hx hb hts inlX6 tyX6 tyX6_ok nmX6 hown hK.1 hP hD hS 0 rfl rfl 3 (by decide) (hts _ wd123) (fun _ h9 => h9) rfl (by decide +kernel) rfl rfl (Nat.le_of_ble_eq_true rfl) dX6_record_90 (fun H336 locs336 hP hD hS => ?_)
          have hP : va_P G vwCl [(qm, .inr (6, [.ref qz, .ref qa, .ref qe, .int (nI (sts + 1)), .ref qs, .ref qv, .ref qp, .int (nI len), .int go, .ref qn])), (qz, .inl (cI, 46, .inl z)), (qa, .inl (cI, 46, .inl as)), (qe, .inl (cI, 276, .inl zd)), (qs, .inl (cI, 92, .inl sl)), (qv, .inl (cZ, 2, .inl sv)), (qp, .inl (cI, 60, .inl pd)), (qn, .inl (cI, 36, .inl nd))] H336 := hP
          have hD : va_D A [(qm, .inr (6, [.ref qz, .ref qa, .ref qe, .int (nI (sts + 1)), .ref qs, .ref qv, .ref qp, .int (nI len), .int go, .ref qn])), (qz, .inl (cI, 46, .inl z)), (qa, .inl (cI, 46, .inl as)), (qe, .inl (cI, 276, .inl zd)), (qs, .inl (cI, 92, .inl sl)), (qv, .inl (cZ, 2, .inl sv)), (qp, .inl (cI, 60, .inl pd)), (qn, .inl (cI, 36, .inl nd))] := hD
          subst hQ
          rw [show zd = rcB be z sts by rw [rcB, if_neg c_333, hf3, show i = 46 by omega], show sts + 1 = rcN sts by rw [rcN, if_neg c_333]] at hP hD
          exact W.vret hx hb hr (fun t ht hW => ⟨⟨(), rfl, trivial, by rw [ht]; exact hP, hD⟩, hS.F ht⟩) hS.2.2 dX6_record_93
        · refine lv_aload_n hx hb dX6_record_57 rfl (lv_at hl 1 rfl) ?_
          refine va_get (D := G) (ci := 6) (v := .ref qe) (C := RX6) (T := TX6) (N := 10) hx hb hts inlX6 hown hK.1 hP 0 rfl rfl 2 (by decide) (hts _ wd80) (fun _ h9 => h9) rfl dX6_record_58 ?_
          refine lv_bipush (v := 46) hx hb dX6_record_61 (by decide) ?_
          refine lv_aload_n hx hb dX6_record_63 rfl (lv_at hl 1 rfl) ?_
          refine va_get (D := G) (ci := 6) (v := .int (nI sts)) (C := RX6) (T := TX6) (N := 10) hx hb hts inlX6 hown hK.1 hP 0 rfl rfl 3 (by decide) (hts _ wd123) (fun _ h9 => h9) rfl dX6_record_64 ?_
          refine zi_mul hx hb 46 sts dX6_record_67 rfl rfl ?_
          refine lv_iload_n hx hb dX6_record_68 rfl (lv_at hl 0 rfl) ?_
          refine zi_add hx hb (46 * sts) i dX6_record_69 rfl rfl ?_
          refine lv_aload_n hx hb dX6_record_70 rfl (lv_at hl 1 rfl) ?_
          refine va_get (D := G) (ci := 6) (v := .ref qz) (C := RX6) (T := TX6) (N := 10) hx hb hts inlX6 hown hK.1 hP 0 rfl rfl 0 (by decide) (hts _ wd78) (fun _ h9 => h9) rfl dX6_record_71 ?_
          refine lv_iload_n hx hb dX6_record_74 rfl (lv_at hl 0 rfl) ?_
          refine za_ld hx hb hK.1 hP 1 0 rfl rfl i rfl (by omega) (by decide) dX6_record_75 ?_
          refine za_st hx hb hK.1 hP hD hS 3 0 rfl rfl ((46 * sts) + i) rfl (by omega) (by decide) dX6_record_76 (fun H337 locs337 hP hD hS => ?_)
          have hP : va_P G vwCl [(qm, .inr (6, [.ref qz, .ref qa, .ref qe, .int (nI sts), .ref qs, .ref qv, .ref qp, .int (nI len), .int go, .ref qn])), (qz, .inl (cI, 46, .inl z)), (qa, .inl (cI, 46, .inl as)), (qe, .inl (cI, 276, .inl (upd zd ((46 * sts) + i) (z i)))), (qs, .inl (cI, 92, .inl sl)), (qv, .inl (cZ, 2, .inl sv)), (qp, .inl (cI, 60, .inl pd)), (qn, .inl (cI, 36, .inl nd))] H337 := hP
          have hD : va_D A [(qm, .inr (6, [.ref qz, .ref qa, .ref qe, .int (nI sts), .ref qs, .ref qv, .ref qp, .int (nI len), .int go, .ref qn])), (qz, .inl (cI, 46, .inl z)), (qa, .inl (cI, 46, .inl as)), (qe, .inl (cI, 276, .inl (upd zd ((46 * sts) + i) (z i)))), (qs, .inl (cI, 92, .inl sl)), (qv, .inl (cZ, 2, .inl sv)), (qp, .inl (cI, 60, .inl pd)), (qn, .inl (cI, 36, .inl nd))] := hD
          refine lv_iinc (v := nI (i + 1)) (lv' := [(1, .int (nI (i + 1))), (0, .ref qm)]) hx hb dX6_record_77 hl (k := 0) rfl (nI_inc i) (by decide) rfl (fun ls hl => ?_)
          refine lv_goto (tgt := 51) hx hb dX6_record_80 (by decide) ?_
          exact ih1 (i + 1) (upd zd ((46 * sts) + i) (z i)) (by omega) (by rw [cpz, ← hf3, Nat.zero_add]) (by omega) H337 locs337 hP hD hS _ (lv_sub hl [0, 1] rfl)
    exact L1 47 0 be (by decide) rfl (by decide) s.heap [] hP hD hS _ (lv_sub hl [0, 1] rfl)
  · subst c_333
    refine lv_iconst (v := 0) hx hb dX6_record_9 (by decide) ?_
    refine lv_istore_n (lv' := [(1, .int 0), (0, .ref qm)]) hx hb dX6_record_10 rfl hl (by decide) rfl (fun ls hl => ?_)
    have L2 : ∀ (n : Nat), ∀ (i : Nat), ∀ (zc : IA), ∀ (hi : i ≤ 230), ∀ (hf2 : zc = shf be i), ∀ (hn : 231 ≤ i + n), ∀ (H338 : Heap) (locs338 : List Loc), va_P G vwCl [(qm, .inr (6, [.ref qz, .ref qa, .ref qe, .int 6, .ref qs, .ref qv, .ref qp, .int (nI len), .int go, .ref qn])), (qz, .inl (cI, 46, .inl z)), (qa, .inl (cI, 46, .inl as)), (qe, .inl (cI, 276, .inl zc)), (qs, .inl (cI, 92, .inl sl)), (qv, .inl (cZ, 2, .inl sv)), (qp, .inl (cI, 60, .inl pd)), (qn, .inl (cI, 36, .inl nd))] H338 → va_D A [(qm, .inr (6, [.ref qz, .ref qa, .ref qe, .int 6, .ref qs, .ref qv, .ref qp, .int (nI len), .int go, .ref qn])), (qz, .inl (cI, 46, .inl z)), (qa, .inl (cI, 46, .inl as)), (qe, .inl (cI, 276, .inl zc)), (qs, .inl (cI, 92, .inl sl)), (qv, .inl (cZ, 2, .inl sv)), (qp, .inl (cI, 60, .inl pd)), (qn, .inl (cI, 36, .inl nd))] → va_S A s.heap H338 locs338 → ∀ (ls : Array Slot), lv_has ls 2 [(1, .int (nI i)), (0, .ref qm)] → W p l e rm_X6_record s m ag below meth c H338 locs338 0 0 Q (F0 m 11 ls []) := by
      intro n
      induction n with
      | zero =>
        intro i zc hi hf2 hn H338 locs338 hP hD hS ls hl
        omega
      | succ n ih2 =>
        intro i zc hi hf2 hn H338 locs338 hP hD hS ls hl
        refine lv_iload_n hx hb dX6_record_11 rfl (lv_at hl 0 rfl) ?_
        refine lv_sipush (v := 230) hx hb dX6_record_12 (by decide) ?_
        refine zi_ge (tgt := 39) hx hb i 230 dX6_record_15 (by decide) rfl rfl (by omega) (by decide) (fun c_339 => ?_) (fun c_339 => ?_)
        · refine lv_aload_n hx hb dX6_record_39 rfl (lv_at hl 1 rfl) ?_
          refine lv_dup hx hb dX6_record_40 rfl ?_
          refine va_get (D := G) (ci := 6) (v := .int 6) (C := RX6) (T := TX6) (N := 10) hx hb hts inlX6 hown hK.1 hP 0 rfl rfl 3 (by decide) (hts _ wd123) (fun _ h9 => h9) rfl dX6_record_41 ?_
          refine lv_iconst (v := 1) hx hb dX6_record_44 (by decide) ?_
          refine zi_sub hx hb 6 1 dX6_record_45 rfl rfl (by decide) ?_
          refine va_put (D := G) (ci := 6) (v := .int 5) (ty := .int) (C := RX6) (T := TX6) (N := 10) hx hb hts inlX6 tyX6 tyX6_ok nmX6 hown hK.1 hP hD hS 0 rfl rfl 3 (by decide) (hts _ wd123) (fun _ h9 => h9) rfl (by decide +kernel) rfl rfl (Nat.le_of_ble_eq_true rfl) dX6_record_46 (fun H340 locs340 hP hD hS => ?_)
          have hP : va_P G vwCl [(qm, .inr (6, [.ref qz, .ref qa, .ref qe, .int 5, .ref qs, .ref qv, .ref qp, .int (nI len), .int go, .ref qn])), (qz, .inl (cI, 46, .inl z)), (qa, .inl (cI, 46, .inl as)), (qe, .inl (cI, 276, .inl zc)), (qs, .inl (cI, 92, .inl sl)), (qv, .inl (cZ, 2, .inl sv)), (qp, .inl (cI, 60, .inl pd)), (qn, .inl (cI, 36, .inl nd))] H340 := hP
          have hD : va_D A [(qm, .inr (6, [.ref qz, .ref qa, .ref qe, .int 5, .ref qs, .ref qv, .ref qp, .int (nI len), .int go, .ref qn])), (qz, .inl (cI, 46, .inl z)), (qa, .inl (cI, 46, .inl as)), (qe, .inl (cI, 276, .inl zc)), (qs, .inl (cI, 92, .inl sl)), (qv, .inl (cZ, 2, .inl sv)), (qp, .inl (cI, 60, .inl pd)), (qn, .inl (cI, 36, .inl nd))] := hD
          refine lv_iconst (v := 0) hx hb dX6_record_49 (by decide) ?_
          refine lv_istore_n (lv' := [(1, .int 0), (0, .ref qm)]) hx hb dX6_record_50 rfl hl (by decide) rfl (fun ls hl => ?_)
          have L3 : ∀ (n : Nat), ∀ (i : Nat), ∀ (zd : IA), ∀ (hi2 : i ≤ 46), ∀ (hf3 : zd = cpz (shf be 230) z 230 0 i), ∀ (hn2 : 47 ≤ i + n), ∀ (H341 : Heap) (locs341 : List Loc), va_P G vwCl [(qm, .inr (6, [.ref qz, .ref qa, .ref qe, .int 5, .ref qs, .ref qv, .ref qp, .int (nI len), .int go, .ref qn])), (qz, .inl (cI, 46, .inl z)), (qa, .inl (cI, 46, .inl as)), (qe, .inl (cI, 276, .inl zd)), (qs, .inl (cI, 92, .inl sl)), (qv, .inl (cZ, 2, .inl sv)), (qp, .inl (cI, 60, .inl pd)), (qn, .inl (cI, 36, .inl nd))] H341 → va_D A [(qm, .inr (6, [.ref qz, .ref qa, .ref qe, .int 5, .ref qs, .ref qv, .ref qp, .int (nI len), .int go, .ref qn])), (qz, .inl (cI, 46, .inl z)), (qa, .inl (cI, 46, .inl as)), (qe, .inl (cI, 276, .inl zd)), (qs, .inl (cI, 92, .inl sl)), (qv, .inl (cZ, 2, .inl sv)), (qp, .inl (cI, 60, .inl pd)), (qn, .inl (cI, 36, .inl nd))] → va_S A s.heap H341 locs341 → ∀ (ls : Array Slot), lv_has ls 2 [(1, .int (nI i)), (0, .ref qm)] → W p l e rm_X6_record s m ag below meth c H341 locs341 0 0 Q (F0 m 51 ls []) := by
            intro n
            induction n with
            | zero =>
              intro i zd hi2 hf3 hn2 H341 locs341 hP hD hS ls hl
              omega
            | succ n ih3 =>
              intro i zd hi2 hf3 hn2 H341 locs341 hP hD hS ls hl
              refine lv_iload_n hx hb dX6_record_51 rfl (lv_at hl 0 rfl) ?_
              refine lv_bipush (v := 46) hx hb dX6_record_52 (by decide) ?_
              refine zi_ge (tgt := 83) hx hb i 46 dX6_record_54 (by decide) rfl rfl (by omega) (by decide) (fun c_342 => ?_) (fun c_342 => ?_)
              · refine lv_aload_n hx hb dX6_record_83 rfl (lv_at hl 1 rfl) ?_
                refine lv_dup hx hb dX6_record_84 rfl ?_
                refine va_get (D := G) (ci := 6) (v := .int 5) (C := RX6) (T := TX6) (N := 10) hx hb hts inlX6 hown hK.1 hP 0 rfl rfl 3 (by decide) (hts _ wd123) (fun _ h9 => h9) rfl dX6_record_85 ?_
                refine lv_iconst (v := 1) hx hb dX6_record_88 (by decide) ?_
                refine zi_add hx hb 5 1 dX6_record_89 rfl rfl ?_
                refine va_put (D := G) (ci := 6) (v := .int 6) (ty := .int) (C := RX6) (T := TX6) (N := 10) hx hb hts inlX6 tyX6 tyX6_ok nmX6 hown hK.1 hP hD hS 0 rfl rfl 3 (by decide) (hts _ wd123) (fun _ h9 => h9) rfl (by decide +kernel) rfl rfl (Nat.le_of_ble_eq_true rfl) dX6_record_90 (fun H343 locs343 hP hD hS => ?_)
                have hP : va_P G vwCl [(qm, .inr (6, [.ref qz, .ref qa, .ref qe, .int 6, .ref qs, .ref qv, .ref qp, .int (nI len), .int go, .ref qn])), (qz, .inl (cI, 46, .inl z)), (qa, .inl (cI, 46, .inl as)), (qe, .inl (cI, 276, .inl zd)), (qs, .inl (cI, 92, .inl sl)), (qv, .inl (cZ, 2, .inl sv)), (qp, .inl (cI, 60, .inl pd)), (qn, .inl (cI, 36, .inl nd))] H343 := hP
                have hD : va_D A [(qm, .inr (6, [.ref qz, .ref qa, .ref qe, .int 6, .ref qs, .ref qv, .ref qp, .int (nI len), .int go, .ref qn])), (qz, .inl (cI, 46, .inl z)), (qa, .inl (cI, 46, .inl as)), (qe, .inl (cI, 276, .inl zd)), (qs, .inl (cI, 92, .inl sl)), (qv, .inl (cZ, 2, .inl sv)), (qp, .inl (cI, 60, .inl pd)), (qn, .inl (cI, 36, .inl nd))] := hD
                subst hQ
                rw [show zd = rcB be z 6 by rw [hf3, show i = 46 by omega]; rfl] at hP hD
                exact W.vret hx hb hr (fun t ht hW => ⟨⟨(), rfl, trivial, by rw [ht]; exact hP, hD⟩, hS.F ht⟩) hS.2.2 dX6_record_93
              · refine lv_aload_n hx hb dX6_record_57 rfl (lv_at hl 1 rfl) ?_
                refine va_get (D := G) (ci := 6) (v := .ref qe) (C := RX6) (T := TX6) (N := 10) hx hb hts inlX6 hown hK.1 hP 0 rfl rfl 2 (by decide) (hts _ wd80) (fun _ h9 => h9) rfl dX6_record_58 ?_
                refine lv_bipush (v := 46) hx hb dX6_record_61 (by decide) ?_
                refine lv_aload_n hx hb dX6_record_63 rfl (lv_at hl 1 rfl) ?_
                refine va_get (D := G) (ci := 6) (v := .int 5) (C := RX6) (T := TX6) (N := 10) hx hb hts inlX6 hown hK.1 hP 0 rfl rfl 3 (by decide) (hts _ wd123) (fun _ h9 => h9) rfl dX6_record_64 ?_
                refine zi_mul hx hb 46 5 dX6_record_67 rfl rfl ?_
                refine lv_iload_n hx hb dX6_record_68 rfl (lv_at hl 0 rfl) ?_
                refine zi_add hx hb 230 i dX6_record_69 rfl rfl ?_
                refine lv_aload_n hx hb dX6_record_70 rfl (lv_at hl 1 rfl) ?_
                refine va_get (D := G) (ci := 6) (v := .ref qz) (C := RX6) (T := TX6) (N := 10) hx hb hts inlX6 hown hK.1 hP 0 rfl rfl 0 (by decide) (hts _ wd78) (fun _ h9 => h9) rfl dX6_record_71 ?_
                refine lv_iload_n hx hb dX6_record_74 rfl (lv_at hl 0 rfl) ?_
                refine za_ld hx hb hK.1 hP 1 0 rfl rfl i rfl (by omega) (by decide) dX6_record_75 ?_
                refine za_st hx hb hK.1 hP hD hS 3 0 rfl rfl (230 + i) rfl (by omega) (by decide) dX6_record_76 (fun H344 locs344 hP hD hS => ?_)
                have hP : va_P G vwCl [(qm, .inr (6, [.ref qz, .ref qa, .ref qe, .int 5, .ref qs, .ref qv, .ref qp, .int (nI len), .int go, .ref qn])), (qz, .inl (cI, 46, .inl z)), (qa, .inl (cI, 46, .inl as)), (qe, .inl (cI, 276, .inl (upd zd (230 + i) (z i)))), (qs, .inl (cI, 92, .inl sl)), (qv, .inl (cZ, 2, .inl sv)), (qp, .inl (cI, 60, .inl pd)), (qn, .inl (cI, 36, .inl nd))] H344 := hP
                have hD : va_D A [(qm, .inr (6, [.ref qz, .ref qa, .ref qe, .int 5, .ref qs, .ref qv, .ref qp, .int (nI len), .int go, .ref qn])), (qz, .inl (cI, 46, .inl z)), (qa, .inl (cI, 46, .inl as)), (qe, .inl (cI, 276, .inl (upd zd (230 + i) (z i)))), (qs, .inl (cI, 92, .inl sl)), (qv, .inl (cZ, 2, .inl sv)), (qp, .inl (cI, 60, .inl pd)), (qn, .inl (cI, 36, .inl nd))] := hD
                refine lv_iinc (v := nI (i + 1)) (lv' := [(1, .int (nI (i + 1))), (0, .ref qm)]) hx hb dX6_record_77 hl (k := 0) rfl (nI_inc i) (by decide) rfl (fun ls hl => ?_)
                refine lv_goto (tgt := 51) hx hb dX6_record_80 (by decide) ?_
                exact ih3 (i + 1) (upd zd (230 + i) (z i)) (by omega) (by rw [cpz, ← hf3, Nat.zero_add]) (by omega) H344 locs344 hP hD hS _ (lv_sub hl [0, 1] rfl)
          exact L3 47 0 zc (by decide) (by rw [hf2, show i = 230 by omega]; rfl) (by decide) H340 locs340 hP hD hS _ (lv_sub hl [0, 1] rfl)
        · refine lv_aload_n hx hb dX6_record_18 rfl (lv_at hl 1 rfl) ?_
          refine va_get (D := G) (ci := 6) (v := .ref qe) (C := RX6) (T := TX6) (N := 10) hx hb hts inlX6 hown hK.1 hP 0 rfl rfl 2 (by decide) (hts _ wd80) (fun _ h9 => h9) rfl dX6_record_19 ?_
          refine lv_iload_n hx hb dX6_record_22 rfl (lv_at hl 0 rfl) ?_
          refine lv_aload_n hx hb dX6_record_23 rfl (lv_at hl 1 rfl) ?_
          refine va_get (D := G) (ci := 6) (v := .ref qe) (C := RX6) (T := TX6) (N := 10) hx hb hts inlX6 hown hK.1 hP 0 rfl rfl 2 (by decide) (hts _ wd80) (fun _ h9 => h9) rfl dX6_record_24 ?_
          refine lv_bipush (v := 46) hx hb dX6_record_27 (by decide) ?_
          refine lv_iload_n hx hb dX6_record_29 rfl (lv_at hl 0 rfl) ?_
          refine zi_add hx hb 46 i dX6_record_30 rfl rfl ?_
          refine za_ld hx hb hK.1 hP 3 0 rfl rfl (46 + i) rfl (by omega) (by decide) dX6_record_31 ?_
          refine za_st hx hb hK.1 hP hD hS 3 0 rfl rfl i rfl (by omega) (by decide) dX6_record_32 (fun H345 locs345 hP hD hS => ?_)
          have hP : va_P G vwCl [(qm, .inr (6, [.ref qz, .ref qa, .ref qe, .int 6, .ref qs, .ref qv, .ref qp, .int (nI len), .int go, .ref qn])), (qz, .inl (cI, 46, .inl z)), (qa, .inl (cI, 46, .inl as)), (qe, .inl (cI, 276, .inl (upd zc i (zc (46 + i))))), (qs, .inl (cI, 92, .inl sl)), (qv, .inl (cZ, 2, .inl sv)), (qp, .inl (cI, 60, .inl pd)), (qn, .inl (cI, 36, .inl nd))] H345 := hP
          have hD : va_D A [(qm, .inr (6, [.ref qz, .ref qa, .ref qe, .int 6, .ref qs, .ref qv, .ref qp, .int (nI len), .int go, .ref qn])), (qz, .inl (cI, 46, .inl z)), (qa, .inl (cI, 46, .inl as)), (qe, .inl (cI, 276, .inl (upd zc i (zc (46 + i))))), (qs, .inl (cI, 92, .inl sl)), (qv, .inl (cZ, 2, .inl sv)), (qp, .inl (cI, 60, .inl pd)), (qn, .inl (cI, 36, .inl nd))] := hD
          refine lv_iinc (v := nI (i + 1)) (lv' := [(1, .int (nI (i + 1))), (0, .ref qm)]) hx hb dX6_record_33 hl (k := 0) rfl (nI_inc i) (by decide) rfl (fun ls hl => ?_)
          refine lv_goto (tgt := 11) hx hb dX6_record_36 (by decide) ?_
          exact ih2 (i + 1) (upd zc i (zc (46 + i))) (by omega) (by rw [shf, ← hf2]) (by omega) H345 locs345 hP hD hS _ (lv_sub hl [0, 1] rfl)
    exact L2 231 0 be (by decide) rfl (by decide) s.heap [] hP hD hS _ (lv_sub hl [0, 1] rfl)

abbrev rm_X6_stepOn : Room := { frames := 2, cells := 0, slots := 0, locals := 43 }
theorem cf_RX6_71 {R : Room} {s : State} {args : Array Value} (ht : ∀ w ∈ wsL_law, w.before args s = true) (hR : rm_X6_isFallen.frames + 1 ≤ R.frames ∧ 8 + (2 + 11) + rm_X6_isFallen.locals ≤ R.locals) : CallW R s args RX6 RX6 71 yX6_isFallen cX6_isFallen 2 (some .boolean) (.code yX6_isFallen cX6_isFallen 2 (some .boolean) :: wsL_law) rm_X6_isFallen 0 0 1 := ⟨cw_B 1 ht wd275 wd5 wd278 (by decide +kernel) rfl rfl hR, ht _ wd276, ht _ wd277⟩
set_option maxHeartbeats 1000000 in
set_option maxRecDepth 100000 in
theorem c_X6_stepOn (l : Launch) (G : va_G) (cI cC cZ cG : ClassId) (sz : Nat) (qm qz qa qe qs qv qp qn : Nat) (z as be sl sv pd nd : IA) (sts len : Nat) (go : Int32) (pn a cn : Nat) (hp : pn < 4) (ha : a ≤ 35) (hc1 : 1 ≤ cn) (hc : cn ≤ 6) : Met l yX6_stepOn (.code yX6_stepOn cX6_stepOn 8 (some .int) :: wsL_law) rm_X6_stepOn (va_Pc [.ref qm, .int (nI pn), .int (nI a), .int (nI cn)] (bw G cI cC cZ cG false sz [(qm, .inr (6, [.ref qz, .ref qa, .ref qe, .int (nI sts), .ref qs, .ref qv, .ref qp, .int (nI len), .int go, .ref qn])), (qz, .inl (cI, 46, .inl z)), (qa, .inl (cI, 46, .inl as)), (qe, .inl (cI, 276, .inl be)), (qs, .inl (cI, 92, .inl sl)), (qv, .inl (cZ, 2, .inl sv)), (qp, .inl (cI, 60, .inl pd)), (qn, .inl (cI, 36, .inl nd))])) (vp_Si (fun r => r = tgI (tg (mfN z pn) a cn))) 0 0 (fun _ => False) := by
  refine met_bw rfl (Nat.le_of_ble_eq_true rfl) ?_
  intro p e s m below meth c ls hx hb hr hml hown hts hlocks hin hsz hP hK hD0 hX0 hl
  have hown : s.vm.findClass RX6 = some m.cls := hown
  have hl : lv_has ls 8 [(0, .ref qm), (1, .int (nI pn)), (2, .int (nI a)), (3, .int (nI cn))] := hl
  generalize hQ : MQ below (vp_Si (fun r => r = tgI (tg (mfN z pn) a cn))) ([.ref qm, .int (nI pn), .int (nI a), .int (nI cn)] : List Value).toArray s 0 0 (fun _ => False) = Q
  generalize hag : ([.ref qm, .int (nI pn), .int (nI a), .int (nI cn)] : List Value).toArray = ag at hts hQ ⊢
  refine lv_iload_n hx hb dX6_stepOn_0 rfl (lv_at hl 2 rfl) ?_
  refine lv_istore (lv' := [(4, .int (nI a)), (0, .ref qm), (1, .int (nI pn)), (2, .int (nI a)), (3, .int (nI cn))]) hx hb dX6_stepOn_1 hl (by decide) rfl (fun ls hl => ?_)
  refine lv_iload_n hx hb dX6_stepOn_3 rfl (lv_at hl 4 rfl) ?_
  refine lv_istore (lv' := [(5, .int (nI cn)), (4, .int (nI a)), (0, .ref qm), (1, .int (nI pn)), (2, .int (nI a)), (3, .int (nI cn))]) hx hb dX6_stepOn_4 hl (by decide) rfl (fun ls hl => ?_)
  refine lv_iconst (v := 1) hx hb dX6_stepOn_6 (by decide) ?_
  refine lv_istore (lv' := [(6, .int 1), (5, .int (nI cn)), (4, .int (nI a)), (0, .ref qm), (1, .int (nI pn)), (2, .int (nI a)), (3, .int (nI cn))]) hx hb dX6_stepOn_7 hl (by decide) rfl (fun ls hl => ?_)
  have L1 : ∀ (n : Nat), ∀ (b : Nat), ∀ (x : Int32), ∀ (e0 : Bool), ∀ (hb2 : b ≤ 41), ∀ (hx2 : stH (mfN z pn) (tgI (tg (mfN z pn) a cn)) b x e0), ∀ (hb3 : ∀ l : Nat, x = nI l → l ≤ 6 → b + l ≤ 41), ∀ (hn : 42 ≤ b + n), ∀ (ls : Array Slot), lv_has ls 8 [(6, .int (bz (e0 = true))), (5, .int x), (4, .int (nI b)), (0, .ref qm), (1, .int (nI pn)), (2, .int (nI a)), (3, .int (nI cn))] → W p l e rm_X6_stepOn s m ag below meth c s.heap [] 0 0 Q (F0 m 9 ls []) := by
    intro n
    induction n with
    | zero =>
      intro b x e0 hb2 hx2 hb3 hn ls hl
      omega
    | succ n ih1 =>
      intro b x e0 hb2 hx2 hb3 hn ls hl
      rcases hx2 with ⟨y, hy, rfl, he, he3⟩ | ⟨rfl, he⟩
      · have hb4 := hb3 y rfl hy
        refine lv_iload hx hb dX6_stepOn_9 (lv_at hl 1 rfl) ?_
        refine z0_le (tgt := 59) hx hb y dX6_stepOn_11 (by decide) rfl (by omega) (fun c_347 => ?_) (fun c_347 => ?_)
        · refine lv_iload hx hb dX6_stepOn_59 (lv_at hl 2 rfl) ?_
          refine lv_bipush (v := 35) hx hb dX6_stepOn_61 (by decide) ?_
          refine zi_gt (tgt := 76) hx hb b 35 dX6_stepOn_63 (by decide) rfl rfl (by omega) (by decide) (fun c_348 => ?_) (fun c_348 => ?_)
          · refine lv_bipush (v := (-6)) hx hb dX6_stepOn_76 (by decide) ?_
            refine lv_goto (tgt := 83) hx hb dX6_stepOn_78 (by decide) ?_
            subst hQ
            exact W.iret (v := (-6)) hx hb hr (fun t ht hW => ⟨(-6), rfl, (by first | exact he.symm | exact st_n1 he he3 (by omega) c_348 | exact st_n2 he he3 (by omega) (by omega) | (exfalso; omega)), ht⟩) (fun _ h => absurd h List.not_mem_nil) dX6_stepOn_83
          · refine lv_iload hx hb dX6_stepOn_66 (lv_at hl 1 rfl) ?_
            refine z0_lt (tgt := 76) hx hb y dX6_stepOn_68 (by decide) rfl (by omega) ?_
            refine lv_iload hx hb dX6_stepOn_71 (lv_at hl 0 rfl) ?_
            refine zb_ne (tgt := 81) hx hb dX6_stepOn_73 (by decide) (fun c_350 => ?_) (fun c_350 => ?_)
            · refine lv_iload hx hb dX6_stepOn_81 (lv_at hl 2 rfl) ?_
              subst hQ
              exact W.iret (v := nI b) hx hb hr (fun t ht hW => ⟨nI b, rfl, (by first | exact st_e he he3 (by omega) c_350 (by omega) | (exfalso; omega)), ht⟩) (fun _ h => absurd h List.not_mem_nil) dX6_stepOn_83
            · refine lv_bipush (v := (-6)) hx hb dX6_stepOn_76 (by decide) ?_
              refine lv_goto (tgt := 83) hx hb dX6_stepOn_78 (by decide) ?_
              subst hQ
              exact W.iret (v := (-6)) hx hb hr (fun t ht hW => ⟨(-6), rfl, (by first | exact he.symm | exact st_n1 he he3 (by omega) c_350 | exact st_n2 he he3 (by omega) (by omega) | (exfalso; omega)), ht⟩) (fun _ h => absurd h List.not_mem_nil) dX6_stepOn_83
        · refine lv_iinc (v := nI (b + 1)) (lv' := [(4, .int (nI (b + 1))), (6, .int (bz (e0 = true))), (5, .int (nI y)), (0, .ref qm), (1, .int (nI pn)), (2, .int (nI a)), (3, .int (nI cn))]) hx hb dX6_stepOn_14 hl (k := 2) rfl (nI_inc b) (by decide) rfl (fun ls hl => ?_)
          refine lv_aload_n hx hb dX6_stepOn_17 rfl (lv_at hl 3 rfl) ?_
          refine lv_iload_n hx hb dX6_stepOn_18 rfl (lv_at hl 4 rfl) ?_
          refine lv_iload hx hb dX6_stepOn_19 (lv_at hl 0 rfl) ?_
          refine vp_callSi (va_Run.run (va_runS (As := [.int (nI pn), .int (nI (b + 1))]) (rest := [.ref qm]) ⟨hx, hb, hml, hown, hts⟩ (c_X6_fieldAt l pn (nI (b + 1)) (by omega)) (cf_RX6_36 hts ⟨Nat.le_of_ble_eq_true rfl, Nat.le_of_ble_eq_true rfl⟩) pre_P rfl rfl hl.1 rfl (lv_room (Nat.le_of_ble_eq_true rfl)) dX6_stepOn_21 ⟨Nat.le_of_ble_eq_true rfl, Nat.le_of_ble_eq_true rfl⟩)) (fun r351 hr351 => ?_)
          subst hr351
          have hPc : va_P G vwCl [(qm, .inr (6, [.ref qz, .ref qa, .ref qe, .int (nI sts), .ref qs, .ref qv, .ref qp, .int (nI len), .int go, .ref qn])), (qz, .inl (cI, 46, .inl z)), (qa, .inl (cI, 46, .inl as)), (qe, .inl (cI, 276, .inl be)), (qs, .inl (cI, 92, .inl sl)), (qv, .inl (cZ, 2, .inl sv)), (qp, .inl (cI, 60, .inl pd)), (qn, .inl (cI, 36, .inl nd))] s.heap := hP
          have hDc := hD0
          refine vp_callSi (va_Run.run (va_runV (As := [.int (rf pn (nI (b + 1)))]) (rest := []) ⟨hx, hb, hml, hown, hts⟩ (c_X6_isFallen l G cI cC cZ cG s.heap.size qm qz qa qe qs qv qp qn z as be sl sv pd nd sts len go (rf pn (nI (b + 1))) (by first | assumption | exact rf_okf _ (by omega))) (cf_RX6_71 hts ⟨Nat.le_of_ble_eq_true rfl, Nat.le_of_ble_eq_true rfl⟩) (pre_V hK hPc hDc (ci := 6) (q0 := 0) rfl rfl) rfl rfl hl.1 rfl (lv_room (Nat.le_of_ble_eq_true rfl)) dX6_stepOn_24 ⟨Nat.le_of_ble_eq_true rfl, Nat.le_of_ble_eq_true rfl⟩)) (fun r352 hr352 => ?_)
          subst hr352
          refine lv_istore (lv' := [(7, .int (bz (mfa z (rf pn (nI (b + 1))) = true))), (4, .int (nI (b + 1))), (6, .int (bz (e0 = true))), (5, .int (nI y)), (0, .ref qm), (1, .int (nI pn)), (2, .int (nI a)), (3, .int (nI cn))]) hx hb dX6_stepOn_27 hl (by decide) rfl (fun ls hl => ?_)
          refine lv_iload hx hb dX6_stepOn_29 (lv_at hl 3 rfl) ?_
          refine lv_iload hx hb dX6_stepOn_31 (lv_at hl 0 rfl) ?_
          refine zb_eq (tgt := 40) hx hb dX6_stepOn_33 (by decide) (fun c_353 => ?_) (fun c_353 => ?_)
          · refine lv_iconst (v := 1) hx hb dX6_stepOn_40 (by decide) ?_
            refine lv_isub hx hb dX6_stepOn_41 ?_
            refine lv_istore (lv' := [(5, .int ((nI y) - 1)), (7, .int (bz (mfa z (rf pn (nI (b + 1))) = true))), (4, .int (nI (b + 1))), (6, .int (bz (e0 = true))), (0, .ref qm), (1, .int (nI pn)), (2, .int (nI a)), (3, .int (nI cn))]) hx hb dX6_stepOn_42 hl (by decide) rfl (fun ls hl => ?_)
            refine lv_iload hx hb dX6_stepOn_44 (lv_at hl 1 rfl) ?_
            refine zb_ne (tgt := 53) hx hb dX6_stepOn_46 (by decide) (fun c_354 => ?_) (fun c_354 => ?_)
            · exact absurd c_354 c_353
            · refine lv_iconst (v := 1) hx hb dX6_stepOn_49 (by decide) ?_
              refine lv_goto (tgt := 54) hx hb dX6_stepOn_50 (by decide) ?_
              refine lv_istore (lv' := [(6, .int 1), (5, .int ((nI y) - 1)), (7, .int (bz (mfa z (rf pn (nI (b + 1))) = true))), (4, .int (nI (b + 1))), (0, .ref qm), (1, .int (nI pn)), (2, .int (nI a)), (3, .int (nI cn))]) hx hb dX6_stepOn_54 hl (by decide) rfl (fun ls hl => ?_)
              refine lv_goto (tgt := 9) hx hb dX6_stepOn_56 (by decide) ?_
              exact ih1 (b + 1) ((nI y) - 1) true (by omega) (stH_s (by omega) hy he c_353) (st_b1 (by omega) hy hb4) (by omega) _ (lv_sub hl [0, 1, 3, 4, 5, 6, 7] rfl)
          · refine lv_iconst (v := 2) hx hb dX6_stepOn_36 (by decide) ?_
            refine lv_goto (tgt := 41) hx hb dX6_stepOn_37 (by decide) ?_
            refine lv_isub hx hb dX6_stepOn_41 ?_
            refine lv_istore (lv' := [(5, .int ((nI y) - 2)), (7, .int (bz (mfa z (rf pn (nI (b + 1))) = true))), (4, .int (nI (b + 1))), (6, .int (bz (e0 = true))), (0, .ref qm), (1, .int (nI pn)), (2, .int (nI a)), (3, .int (nI cn))]) hx hb dX6_stepOn_42 hl (by decide) rfl (fun ls hl => ?_)
            refine lv_iload hx hb dX6_stepOn_44 (lv_at hl 1 rfl) ?_
            refine zb_ne (tgt := 53) hx hb dX6_stepOn_46 (by decide) (fun c_355 => ?_) (fun c_355 => ?_)
            · refine lv_iconst (v := 0) hx hb dX6_stepOn_53 (by decide) ?_
              refine lv_istore (lv' := [(6, .int 0), (5, .int ((nI y) - 2)), (7, .int (bz (mfa z (rf pn (nI (b + 1))) = true))), (4, .int (nI (b + 1))), (0, .ref qm), (1, .int (nI pn)), (2, .int (nI a)), (3, .int (nI cn))]) hx hb dX6_stepOn_54 hl (by decide) rfl (fun ls hl => ?_)
              refine lv_goto (tgt := 9) hx hb dX6_stepOn_56 (by decide) ?_
              exact ih1 (b + 1) ((nI y) - 2) false (by omega) (stH_f (by omega) hy he c_353) (st_b2 (by omega) hy hb4) (by omega) _ (lv_sub hl [0, 1, 3, 4, 5, 6, 7] rfl)
            · exact absurd c_353 c_355
      · refine lv_iload hx hb dX6_stepOn_9 (lv_at hl 1 rfl) ?_
        refine lv_if_le (tgt := 59) hx hb dX6_stepOn_11 (by decide) (fun c_356 => ?_) (fun c_356 => ?_)
        · refine lv_iload hx hb dX6_stepOn_59 (lv_at hl 2 rfl) ?_
          refine lv_bipush (v := 35) hx hb dX6_stepOn_61 (by decide) ?_
          refine zi_gt (tgt := 76) hx hb b 35 dX6_stepOn_63 (by decide) rfl rfl (by omega) (by decide) (fun c_357 => ?_) (fun c_357 => ?_)
          · refine lv_bipush (v := (-6)) hx hb dX6_stepOn_76 (by decide) ?_
            refine lv_goto (tgt := 83) hx hb dX6_stepOn_78 (by decide) ?_
            subst hQ
            exact W.iret (v := (-6)) hx hb hr (fun t ht hW => ⟨(-6), rfl, (by first | exact he.symm | exact st_n1 he he3 (by omega) c_357 | exact st_n2 he he3 (by omega) (by omega) | (exfalso; omega)), ht⟩) (fun _ h => absurd h List.not_mem_nil) dX6_stepOn_83
          · refine lv_iload hx hb dX6_stepOn_66 (lv_at hl 1 rfl) ?_
            refine lv_if_lt (tgt := 76) hx hb dX6_stepOn_68 (by decide) (fun c_358 => ?_) (fun c_358 => ?_)
            · refine lv_bipush (v := (-6)) hx hb dX6_stepOn_76 (by decide) ?_
              refine lv_goto (tgt := 83) hx hb dX6_stepOn_78 (by decide) ?_
              subst hQ
              exact W.iret (v := (-6)) hx hb hr (fun t ht hW => ⟨(-6), rfl, (by first | exact he.symm | exact st_n1 he he3 (by omega) c_358 | exact st_n2 he he3 (by omega) (by omega) | (exfalso; omega)), ht⟩) (fun _ h => absurd h List.not_mem_nil) dX6_stepOn_83
            · exact absurd c_358 (by decide)
        · exact absurd c_356 (by decide)
  exact L1 42 a (nI cn) true (by omega) (stH_0 hc1 hc) (fun l h h6 => by omega) (by omega) _ (lv_sub hl [0, 1, 2, 3, 4, 5, 6] rfl)

abbrev rm_X6_whyNot : Room := { frames := 5, cells := 0, slots := 0, locals := 112 }
theorem cf_RX6_85 {R : Room} {s : State} {args : Array Value} (ht : ∀ w ∈ wsL_law, w.before args s = true) (hR : rm_X6_isSafe.frames + 1 ≤ R.frames ∧ 8 + (1 + 11) + rm_X6_isSafe.locals ≤ R.locals) : CallB R s args RX6 85 yX6_isSafe cX6_isSafe 1 (some .boolean) (.code yX6_isSafe cX6_isSafe 1 (some .boolean) :: wsL_law) rm_X6_isSafe 0 0 1 ∧ (Cond.static yX6_isSafe).before args s = true := ⟨cw_B 1 ht wd294 wd5 wd296 (by decide +kernel) rfl rfl hR, ht _ wd295⟩
theorem cf_RX6_81 {R : Room} {s : State} {args : Array Value} (ht : ∀ w ∈ wsL_law, w.before args s = true) (hR : rm_X6_isBlocked.frames + 1 ≤ R.frames ∧ 8 + (5 + 11) + rm_X6_isBlocked.locals ≤ R.locals) : CallW R s args RX6 RX6 81 yX6_isBlocked cX6_isBlocked 5 (some .boolean) (.code yX6_isBlocked cX6_isBlocked 5 (some .boolean) :: wsL_law) rm_X6_isBlocked 0 0 2 := ⟨cw_B 2 ht wd282 wd5 wd285 (by decide +kernel) rfl rfl hR, ht _ wd283, ht _ wd284⟩
theorem cf_RX6_74 {R : Room} {s : State} {args : Array Value} (ht : ∀ w ∈ wsL_law, w.before args s = true) (hR : rm_X6_stepOn.frames + 1 ≤ R.frames ∧ 8 + (8 + 11) + rm_X6_stepOn.locals ≤ R.locals) : CallW R s args RX6 RX6 74 yX6_stepOn cX6_stepOn 8 (some .int) (.code yX6_stepOn cX6_stepOn 8 (some .int) :: wsL_law) rm_X6_stepOn 0 0 3 := ⟨cw_B 3 ht wd268 wd5 wd271 (by decide +kernel) rfl rfl hR, ht _ wd269, ht _ wd270⟩
set_option maxHeartbeats 1000000 in
set_option maxRecDepth 100000 in
theorem c_X6_whyNot (l : Launch) (G : va_G) (cI cC cZ cG : ClassId) (sz : Nat) (qm qz qa qe qs qv qp qn : Nat) (z as be sl sv pd nd : IA) (sts len : Nat) (go : Int32) (k cn : Nat) (hz : ∀ k, k < 12 → okv (z k)) (hk : k < 12) (hc1 : 1 ≤ cn) (hc : cn ≤ 6) : Met l yX6_whyNot (.code yX6_whyNot cX6_whyNot 7 (some .int) :: wsL_law) rm_X6_whyNot (va_Pc [.ref qm, .int (nI k), .int (nI cn)] (bw G cI cC cZ cG false sz [(qm, .inr (6, [.ref qz, .ref qa, .ref qe, .int (nI sts), .ref qs, .ref qv, .ref qp, .int (nI len), .int go, .ref qn])), (qz, .inl (cI, 46, .inl z)), (qa, .inl (cI, 46, .inl as)), (qe, .inl (cI, 276, .inl be)), (qs, .inl (cI, 92, .inl sl)), (qv, .inl (cZ, 2, .inl sv)), (qp, .inl (cI, 60, .inl pd)), (qn, .inl (cI, 36, .inl nd))])) (va_Qi (fun (r : Int32) (u : Int32) => r = mwn z k cn ∧ u = mgo z k cn go) (fun (u : Int32) t => va_P G vwCl [(qm, .inr (6, [.ref qz, .ref qa, .ref qe, .int (nI sts), .ref qs, .ref qv, .ref qp, .int (nI len), .int u, .ref qn])), (qz, .inl (cI, 46, .inl z)), (qa, .inl (cI, 46, .inl as)), (qe, .inl (cI, 276, .inl be)), (qs, .inl (cI, 92, .inl sl)), (qv, .inl (cZ, 2, .inl sv)), (qp, .inl (cI, 60, .inl pd)), (qn, .inl (cI, 36, .inl nd))] t.heap ∧ va_D (va_A [(qm, .inr (6, [.ref qz, .ref qa, .ref qe, .int (nI sts), .ref qs, .ref qv, .ref qp, .int (nI len), .int go, .ref qn])), (qz, .inl (cI, 46, .inl z)), (qa, .inl (cI, 46, .inl as)), (qe, .inl (cI, 276, .inl be)), (qs, .inl (cI, 92, .inl sl)), (qv, .inl (cZ, 2, .inl sv)), (qp, .inl (cI, 60, .inl pd)), (qn, .inl (cI, 36, .inl nd))] sz) [(qm, .inr (6, [.ref qz, .ref qa, .ref qe, .int (nI sts), .ref qs, .ref qv, .ref qp, .int (nI len), .int u, .ref qn])), (qz, .inl (cI, 46, .inl z)), (qa, .inl (cI, 46, .inl as)), (qe, .inl (cI, 276, .inl be)), (qs, .inl (cI, 92, .inl sl)), (qv, .inl (cZ, 2, .inl sv)), (qp, .inl (cI, 60, .inl pd)), (qn, .inl (cI, 36, .inl nd))]) (va_A [(qm, .inr (6, [.ref qz, .ref qa, .ref qe, .int (nI sts), .ref qs, .ref qv, .ref qp, .int (nI len), .int go, .ref qn])), (qz, .inl (cI, 46, .inl z)), (qa, .inl (cI, 46, .inl as)), (qe, .inl (cI, 276, .inl be)), (qs, .inl (cI, 92, .inl sl)), (qv, .inl (cZ, 2, .inl sv)), (qp, .inl (cI, 60, .inl pd)), (qn, .inl (cI, 36, .inl nd))] sz)) 0 0 (va_A [(qm, .inr (6, [.ref qz, .ref qa, .ref qe, .int (nI sts), .ref qs, .ref qv, .ref qp, .int (nI len), .int go, .ref qn])), (qz, .inl (cI, 46, .inl z)), (qa, .inl (cI, 46, .inl as)), (qe, .inl (cI, 276, .inl be)), (qs, .inl (cI, 92, .inl sl)), (qv, .inl (cZ, 2, .inl sv)), (qp, .inl (cI, 60, .inl pd)), (qn, .inl (cI, 36, .inl nd))] sz) := by
  refine met_bw rfl (Nat.le_of_ble_eq_true rfl) ?_
  intro p e s m below meth c ls hx hb hr hml hown hts hlocks hin hsz hP hK hD0 hX0 hl
  have hown : s.vm.findClass RX6 = some m.cls := hown
  have hl : lv_has ls 7 [(0, .ref qm), (1, .int (nI k)), (2, .int (nI cn))] := hl
  subst hsz
  have hD := hD0.self (sz := s.heap.size)
  generalize hAe : va_A [(qm, .inr (6, [.ref qz, .ref qa, .ref qe, .int (nI sts), .ref qs, .ref qv, .ref qp, .int (nI len), .int go, .ref qn])), (qz, .inl (cI, 46, .inl z)), (qa, .inl (cI, 46, .inl as)), (qe, .inl (cI, 276, .inl be)), (qs, .inl (cI, 92, .inl sl)), (qv, .inl (cZ, 2, .inl sv)), (qp, .inl (cI, 60, .inl pd)), (qn, .inl (cI, 36, .inl nd))] s.heap.size = A at hD ⊢
  have hA : ∀ q : Nat, s.heap.size ≤ q → A q := fun q h => by rw [← hAe]; exact Or.inr h
  have hS : va_S A s.heap s.heap [] := va_S.rf
  generalize hQ : MQ below (va_Qi (fun (r : Int32) (u : Int32) => r = mwn z k cn ∧ u = mgo z k cn go) (fun (u : Int32) t => va_P G vwCl [(qm, .inr (6, [.ref qz, .ref qa, .ref qe, .int (nI sts), .ref qs, .ref qv, .ref qp, .int (nI len), .int u, .ref qn])), (qz, .inl (cI, 46, .inl z)), (qa, .inl (cI, 46, .inl as)), (qe, .inl (cI, 276, .inl be)), (qs, .inl (cI, 92, .inl sl)), (qv, .inl (cZ, 2, .inl sv)), (qp, .inl (cI, 60, .inl pd)), (qn, .inl (cI, 36, .inl nd))] t.heap ∧ va_D A [(qm, .inr (6, [.ref qz, .ref qa, .ref qe, .int (nI sts), .ref qs, .ref qv, .ref qp, .int (nI len), .int u, .ref qn])), (qz, .inl (cI, 46, .inl z)), (qa, .inl (cI, 46, .inl as)), (qe, .inl (cI, 276, .inl be)), (qs, .inl (cI, 92, .inl sl)), (qv, .inl (cZ, 2, .inl sv)), (qp, .inl (cI, 60, .inl pd)), (qn, .inl (cI, 36, .inl nd))]) A) ([.ref qm, .int (nI k), .int (nI cn)] : List Value).toArray s 0 0 A = Q
  generalize hag : ([.ref qm, .int (nI k), .int (nI cn)] : List Value).toArray = ag at hts hQ ⊢
  refine lv_iload_n hx hb dX6_whyNot_0 rfl (lv_at hl 1 rfl) ?_
  refine lv_iconst (v := 3) hx hb dX6_whyNot_1 (by decide) ?_
  refine zi_div hx hb k 3 dX6_whyNot_2 rfl rfl (by omega) (by decide) (by decide) ?_
  refine lv_istore_n (lv' := [(3, .int (nI (k / 3))), (0, .ref qm), (1, .int (nI k)), (2, .int (nI cn))]) hx hb dX6_whyNot_3 rfl hl (by decide) rfl (fun ls hl => ?_)
  refine lv_aload_n hx hb dX6_whyNot_4 rfl (lv_at hl 1 rfl) ?_
  refine va_get (D := G) (ci := 6) (v := .ref qz) (C := RX6) (T := TX6) (N := 10) hx hb hts inlX6 hown hK.1 hP 0 rfl rfl 0 (by decide) (hts _ wd78) (fun _ h9 => h9) rfl dX6_whyNot_5 ?_
  refine lv_iload_n hx hb dX6_whyNot_8 rfl (lv_at hl 2 rfl) ?_
  refine za_ld hx hb hK.1 hP 1 0 rfl rfl k rfl (by omega) (by decide) dX6_whyNot_9 ?_
  refine lv_istore (lv' := [(4, .int (z k)), (3, .int (nI (k / 3))), (0, .ref qm), (1, .int (nI k)), (2, .int (nI cn))]) hx hb dX6_whyNot_10 hl (by decide) rfl (fun ls hl => ?_)
  rcases hz k hk with ea | ⟨a, ha, ea⟩
  · rw [ea] at hl
    refine lv_iload hx hb dX6_whyNot_12 (lv_at hl 0 rfl) ?_
    refine lv_bipush (v := 35) hx hb dX6_whyNot_14 (by decide) ?_
    refine lv_icmp_ne (tgt := 21) hx hb dX6_whyNot_16 (by decide) (fun c_359 => ?_) (fun c_359 => ?_)
    · refine lv_iload hx hb dX6_whyNot_21 (lv_at hl 0 rfl) ?_
      refine lv_bipush (v := (-6)) hx hb dX6_whyNot_23 (by decide) ?_
      refine lv_icmp_ne (tgt := 41) hx hb dX6_whyNot_25 (by decide) (fun c_360 => ?_) (fun c_360 => ?_)
      · exact absurd c_360 (by decide)
      · refine lv_iload_n hx hb dX6_whyNot_28 rfl (lv_at hl 4 rfl) ?_
        refine lv_aload_n hx hb dX6_whyNot_29 rfl (lv_at hl 2 rfl) ?_
        refine va_get (D := G) (ci := 6) (v := .ref qz) (C := RX6) (T := TX6) (N := 10) hx hb hts inlX6 hown hK.1 hP 0 rfl rfl 0 (by decide) (hts _ wd78) (fun _ h9 => h9) rfl dX6_whyNot_30 ?_
        refine lv_bipush (v := 36) hx hb dX6_whyNot_33 (by decide) ?_
        refine za_ld hx hb hK.1 hP 1 0 rfl rfl 36 rfl (by decide) (by decide) dX6_whyNot_35 ?_
        refine lv_icmp_ge (tgt := 41) hx hb dX6_whyNot_36 (by decide) (fun c_361 => ?_) (fun c_361 => ?_)
        · refine lv_aload_n hx hb dX6_whyNot_41 rfl (lv_at hl 2 rfl) ?_
          refine lv_iload hx hb dX6_whyNot_42 (lv_at hl 0 rfl) ?_
          refine lv_bipush (v := (-6)) hx hb dX6_whyNot_44 (by decide) ?_
          refine lv_icmp_ne (tgt := 53) hx hb dX6_whyNot_46 (by decide) (fun c_362 => ?_) (fun c_362 => ?_)
          · exact absurd c_362 (by decide)
          · refine lv_iconst (v := 0) hx hb dX6_whyNot_49 (by decide) ?_
            refine lv_goto (tgt := 61) hx hb dX6_whyNot_50 (by decide) ?_
            refine va_put (D := G) (ci := 6) (v := .int 0) (ty := .int) (C := RX6) (T := TX6) (N := 10) hx hb hts inlX6 tyX6 tyX6_ok nmX6 hown hK.1 hP hD hS 0 rfl rfl 8 (by decide) (hts _ wd267) (fun _ h9 => h9) rfl (by decide +kernel) rfl rfl (Nat.le_of_ble_eq_true rfl) dX6_whyNot_61 (fun H363 locs363 hP hD hS => ?_)
            have hP : va_P G vwCl [(qm, .inr (6, [.ref qz, .ref qa, .ref qe, .int (nI sts), .ref qs, .ref qv, .ref qp, .int (nI len), .int 0, .ref qn])), (qz, .inl (cI, 46, .inl z)), (qa, .inl (cI, 46, .inl as)), (qe, .inl (cI, 276, .inl be)), (qs, .inl (cI, 92, .inl sl)), (qv, .inl (cZ, 2, .inl sv)), (qp, .inl (cI, 60, .inl pd)), (qn, .inl (cI, 36, .inl nd))] H363 := hP
            have hD : va_D A [(qm, .inr (6, [.ref qz, .ref qa, .ref qe, .int (nI sts), .ref qs, .ref qv, .ref qp, .int (nI len), .int 0, .ref qn])), (qz, .inl (cI, 46, .inl z)), (qa, .inl (cI, 46, .inl as)), (qe, .inl (cI, 276, .inl be)), (qs, .inl (cI, 92, .inl sl)), (qv, .inl (cZ, 2, .inl sv)), (qp, .inl (cI, 60, .inl pd)), (qn, .inl (cI, 36, .inl nd))] := hD
            refine lv_aload_n hx hb dX6_whyNot_64 rfl (lv_at hl 2 rfl) ?_
            refine va_get (D := G) (ci := 6) (v := .int 0) (C := RX6) (T := TX6) (N := 10) hx hb hts inlX6 hown hK.1 hP 0 rfl rfl 8 (by decide) (hts _ wd267) (fun _ h9 => h9) rfl dX6_whyNot_65 ?_
            refine lv_if_ge (tgt := 73) hx hb dX6_whyNot_68 (by decide) (fun c_364 => ?_) (fun c_364 => ?_)
            · have hP : va_P G vwCl [(qm, .inr (6, [.ref qz, .ref qa, .ref qe, .int (nI sts), .ref qs, .ref qv, .ref qp, .int (nI len), .int (nI 0), .ref qn])), (qz, .inl (cI, 46, .inl z)), (qa, .inl (cI, 46, .inl as)), (qe, .inl (cI, 276, .inl be)), (qs, .inl (cI, 92, .inl sl)), (qv, .inl (cZ, 2, .inl sv)), (qp, .inl (cI, 60, .inl pd)), (qn, .inl (cI, 36, .inl nd))] H363 := hP
              have hD : va_D A [(qm, .inr (6, [.ref qz, .ref qa, .ref qe, .int (nI sts), .ref qs, .ref qv, .ref qp, .int (nI len), .int (nI 0), .ref qn])), (qz, .inl (cI, 46, .inl z)), (qa, .inl (cI, 46, .inl as)), (qe, .inl (cI, 276, .inl be)), (qs, .inl (cI, 92, .inl sl)), (qv, .inl (cZ, 2, .inl sv)), (qp, .inl (cI, 60, .inl pd)), (qn, .inl (cI, 36, .inl nd))] := hD
              have etn : tgtM z (k / 3) (z k) cn = nI 0 := by rw [ea, tgtM, if_pos rfl]; rfl
              have htn : 0 ≤ 35 := by decide
              refine lv_iload hx hb dX6_whyNot_73 (lv_at hl 0 rfl) ?_
              refine lv_bipush (v := (-6)) hx hb dX6_whyNot_75 (by decide) ?_
              refine lv_icmp_ne (tgt := 84) hx hb dX6_whyNot_77 (by decide) (fun c_365 => ?_) (fun c_365 => ?_)
              · exact absurd c_365 (by decide)
              · refine lv_iconst (v := 0) hx hb dX6_whyNot_80 (by decide) ?_
                refine lv_goto (tgt := 88) hx hb dX6_whyNot_81 (by decide) ?_
                refine lv_istore (lv' := [(5, .int 0), (4, .int (-6)), (3, .int (nI (k / 3))), (0, .ref qm), (1, .int (nI k)), (2, .int (nI cn))]) hx hb dX6_whyNot_88 hl (by decide) rfl (fun ls hl => ?_)
                have L1 : ∀ (n : Nat), ∀ (i : Nat), ∀ (hi0 : 0 ≤ i), ∀ (hi : i ≤ 0 + 1), ∀ (hf2 : mbQ z (k / 3) (z k) 0 = anyp (mbP z (k / 3)) i (0 + 1 - i)), ∀ (hn : 0 + 2 ≤ i + n), ∀ (ls : Array Slot), lv_has ls 7 [(5, .int (nI i)), (4, .int (-6)), (3, .int (nI (k / 3))), (0, .ref qm), (1, .int (nI k)), (2, .int (nI cn))] → W p l e rm_X6_whyNot s m ag below meth c H363 locs363 0 0 Q (F0 m 90 ls []) := by
                  intro n
                  induction n with
                  | zero =>
                    intro i hi0 hi hf2 hn ls hl
                    omega
                  | succ n ih1 =>
                    intro i hi0 hi hf2 hn ls hl
                    have hew : i ≤ 0 → 0 + 1 - i = (0 + 1 - (i + 1)) + 1 := fun h => by omega
                    refine lv_iload hx hb dX6_whyNot_90 (lv_at hl 0 rfl) ?_
                    refine lv_aload_n hx hb dX6_whyNot_92 rfl (lv_at hl 3 rfl) ?_
                    refine va_get (D := G) (ci := 6) (v := .int (nI 0)) (C := RX6) (T := TX6) (N := 10) hx hb hts inlX6 hown hK.1 hP 0 rfl rfl 8 (by decide) (hts _ wd267) (fun _ h9 => h9) rfl dX6_whyNot_93 ?_
                    refine zi_gt (tgt := 121) hx hb i 0 dX6_whyNot_96 (by decide) rfl rfl (by omega) (by decide) (fun c_367 => ?_) (fun c_367 => ?_)
                    · refine lv_iconst (v := 0) hx hb dX6_whyNot_121 (by decide) ?_
                      refine lv_istore (lv' := [(5, .int 0), (4, .int (-6)), (3, .int (nI (k / 3))), (0, .ref qm), (1, .int (nI k)), (2, .int (nI cn))]) hx hb dX6_whyNot_122 hl (by decide) rfl (fun ls hl => ?_)
                      refine lv_iconst (v := 0) hx hb dX6_whyNot_124 (by decide) ?_
                      refine lv_istore (lv' := [(6, .int 0), (5, .int 0), (4, .int (-6)), (3, .int (nI (k / 3))), (0, .ref qm), (1, .int (nI k)), (2, .int (nI cn))]) hx hb dX6_whyNot_125 hl (by decide) rfl (fun ls hl => ?_)
                      have hmb : ¬ mbQ z (k / 3) (z k) 0 = true := by rw [hf2, show 0 + 1 - i = 0 by omega]; simp [anyp]
                      have L2 : ∀ (n : Nat), ∀ (i2 : Nat), ∀ (f : Nat), ∀ (hi2 : i2 ≤ 3), ∀ (hf3 : f = cnt (moP z (k / 3) 0) i2), ∀ (hn2 : 4 ≤ i2 + n), ∀ (ls : Array Slot), lv_has ls 7 [(6, .int (nI i2)), (5, .int (nI f)), (4, .int (-6)), (3, .int (nI (k / 3))), (0, .ref qm), (1, .int (nI k)), (2, .int (nI cn))] → W p l e rm_X6_whyNot s m ag below meth c H363 locs363 0 0 Q (F0 m 127 ls []) := by
                        intro n
                        induction n with
                        | zero =>
                          intro i2 f hi2 hf3 hn2 ls hl
                          omega
                        | succ n ih2 =>
                          intro i2 f hi2 hf3 hn2 ls hl
                          have hfl : f ≤ 3 := by rw [hf3]; exact Nat.le_trans (cnt_le _ _) hi2
                          refine lv_iload hx hb dX6_whyNot_127 (lv_at hl 0 rfl) ?_
                          refine lv_iconst (v := 3) hx hb dX6_whyNot_129 (by decide) ?_
                          refine zi_ge (tgt := 176) hx hb i2 3 dX6_whyNot_130 (by decide) rfl rfl (by omega) (by decide) (fun c_369 => ?_) (fun c_369 => ?_)
                          · refine lv_iload hx hb dX6_whyNot_176 (lv_at hl 1 rfl) ?_
                            refine lv_iconst (v := 1) hx hb dX6_whyNot_178 (by decide) ?_
                            refine zi_le (tgt := 184) hx hb f 1 dX6_whyNot_179 (by decide) rfl rfl (by omega) (by decide) (fun c_370 => ?_) (fun c_370 => ?_)
                            · refine lv_iload_n hx hb dX6_whyNot_184 rfl (lv_at hl 3 rfl) ?_
                              refine lv_aload_n hx hb dX6_whyNot_185 rfl (lv_at hl 4 rfl) ?_
                              refine va_get (D := G) (ci := 6) (v := .int (nI 0)) (C := RX6) (T := TX6) (N := 10) hx hb hts inlX6 hown hK.1 hP 0 rfl rfl 8 (by decide) (hts _ wd267) (fun _ h9 => h9) rfl dX6_whyNot_186 ?_
                              refine vp_callSi (va_Run.run (va_runS (As := [.int (nI (k / 3)), .int (nI 0)]) (rest := []) ⟨hx, hb, hml, hown, hts⟩ (c_X6_fieldAt l (k / 3) (nI 0) (by omega)) (cf_RX6_36 hts ⟨Nat.le_of_ble_eq_true rfl, Nat.le_of_ble_eq_true rfl⟩) pre_P rfl rfl hl.1 rfl (lv_room (Nat.le_of_ble_eq_true rfl)) dX6_whyNot_189 ⟨Nat.le_of_ble_eq_true rfl, Nat.le_of_ble_eq_true rfl⟩)) (fun r371 hr371 => ?_)
                              subst hr371
                              refine lv_istore (lv' := [(6, .int (rf (k / 3) (nI 0))), (5, .int (nI f)), (4, .int (-6)), (3, .int (nI (k / 3))), (0, .ref qm), (1, .int (nI k)), (2, .int (nI cn))]) hx hb dX6_whyNot_192 hl (by decide) rfl (fun ls hl => ?_)
                              refine lv_iload hx hb dX6_whyNot_194 (lv_at hl 0 rfl) ?_
                              refine lv_if_lt (tgt := 223) hx hb dX6_whyNot_196 (by decide) (fun c_372 => ?_) (fun c_372 => ?_)
                              · refine lv_iconst (v := 0) hx hb dX6_whyNot_223 (by decide) ?_
                                subst hQ
                                exact W.iret (v := 0) hx hb hr (fun t ht hW => ⟨⟨0, nI 0, rfl, ⟨by rw [mwn, if_neg (show ¬ z k = 35 by rw [ea]; decide), if_neg (fun h => h.2 c_361), if_neg (show ¬ tgtM z (k / 3) (z k) cn = -6 by rw [etn]; exact nI_neg (by omega) (by decide)), etn, nI_clamp (show 0 < 2 ^ 31 by omega), if_neg hmb, show mow z (k / 3) 0 = f by rw [hf3, show i2 = 3 by omega]; rfl, if_neg (by omega), if_neg (fun h => h.1 c_372)], by rw [mgo, if_neg (show ¬ z k = 35 by rw [ea]; decide), if_neg (fun h => h.2 c_361), ea, tgtM, if_pos rfl]; rfl⟩, by rw [ht]; exact hP, hD⟩, hS.F ht⟩) hS.2.2 dX6_whyNot_224
                              · refine lv_iload hx hb dX6_whyNot_199 (lv_at hl 0 rfl) ?_
                                refine vp_callSi (va_Run.run (va_runS (As := [.int (rf (k / 3) (nI 0))]) (rest := []) ⟨hx, hb, hml, hown, hts⟩ (c_X6_isSafe l (rf (k / 3) (nI 0))) (cf_RX6_85 hts ⟨Nat.le_of_ble_eq_true rfl, Nat.le_of_ble_eq_true rfl⟩) pre_P rfl rfl hl.1 rfl (lv_room (Nat.le_of_ble_eq_true rfl)) dX6_whyNot_201 ⟨Nat.le_of_ble_eq_true rfl, Nat.le_of_ble_eq_true rfl⟩)) (fun r373 hr373 => ?_)
                                subst hr373
                                refine zb_eq (tgt := 223) hx hb dX6_whyNot_204 (by decide) (fun c_374 => ?_) (fun c_374 => ?_)
                                · refine lv_iconst (v := 0) hx hb dX6_whyNot_223 (by decide) ?_
                                  subst hQ
                                  exact W.iret (v := 0) hx hb hr (fun t ht hW => ⟨⟨0, nI 0, rfl, ⟨by rw [mwn, if_neg (show ¬ z k = 35 by rw [ea]; decide), if_neg (fun h => h.2 c_361), if_neg (show ¬ tgtM z (k / 3) (z k) cn = -6 by rw [etn]; exact nI_neg (by omega) (by decide)), etn, nI_clamp (show 0 < 2 ^ 31 by omega), if_neg hmb, show mow z (k / 3) 0 = f by rw [hf3, show i2 = 3 by omega]; rfl, if_neg (by omega), if_neg (fun h => c_374 h.2.1)], by rw [mgo, if_neg (show ¬ z k = 35 by rw [ea]; decide), if_neg (fun h => h.2 c_361), ea, tgtM, if_pos rfl]; rfl⟩, by rw [ht]; exact hP, hD⟩, hS.F ht⟩) hS.2.2 dX6_whyNot_224
                                · refine lv_aload_n hx hb dX6_whyNot_207 rfl (lv_at hl 4 rfl) ?_
                                  refine lv_iload hx hb dX6_whyNot_208 (lv_at hl 0 rfl) ?_
                                  have hPc : va_P G vwCl [(qm, .inr (6, [.ref qz, .ref qa, .ref qe, .int (nI sts), .ref qs, .ref qv, .ref qp, .int (nI len), .int (nI 0), .ref qn])), (qz, .inl (cI, 46, .inl z)), (qa, .inl (cI, 46, .inl as)), (qe, .inl (cI, 276, .inl be)), (qs, .inl (cI, 92, .inl sl)), (qv, .inl (cZ, 2, .inl sv)), (qp, .inl (cI, 60, .inl pd)), (qn, .inl (cI, 36, .inl nd))] H363 := hP
                                  have hDc := hD.tt
                                  refine vp_callSi (va_Run.run (va_runV (As := [.int (rf (k / 3) (nI 0))]) (rest := []) ⟨hx, hb, hml, hown, hts⟩ (c_X6_allOn l G cI cC cZ cG H363.size qm qz qa qe qs qv qp qn z as be sl sv pd nd sts len (nI 0) (rf (k / 3) (nI 0))) (cf_RX6_61 hts ⟨Nat.le_of_ble_eq_true rfl, Nat.le_of_ble_eq_true rfl⟩) (pre_V hK hPc hDc (ci := 6) (q0 := 0) rfl rfl) rfl rfl hl.1 rfl (lv_room (Nat.le_of_ble_eq_true rfl)) dX6_whyNot_210 ⟨Nat.le_of_ble_eq_true rfl, Nat.le_of_ble_eq_true rfl⟩)) (fun r375 hr375 => ?_)
                                  subst hr375
                                  have hf376 := (@ao_le z (rf (k / 3) (nI 0)) 4)
                                  refine lv_iload hx hb dX6_whyNot_213 (lv_at hl 1 rfl) ?_
                                  refine zi_le (tgt := 223) hx hb (ao z (rf (k / 3) (nI 0)) 4) f dX6_whyNot_215 (by decide) rfl rfl (by omega) (by omega) (fun c_377 => ?_) (fun c_377 => ?_)
                                  · refine lv_iconst (v := 0) hx hb dX6_whyNot_223 (by decide) ?_
                                    subst hQ
                                    exact W.iret (v := 0) hx hb hr (fun t ht hW => ⟨⟨0, nI 0, rfl, ⟨by rw [mwn, if_neg (show ¬ z k = 35 by rw [ea]; decide), if_neg (fun h => h.2 c_361), if_neg (show ¬ tgtM z (k / 3) (z k) cn = -6 by rw [etn]; exact nI_neg (by omega) (by decide)), etn, nI_clamp (show 0 < 2 ^ 31 by omega), if_neg hmb, show mow z (k / 3) 0 = f by rw [hf3, show i2 = 3 by omega]; rfl, if_neg (by omega), if_neg (fun h => absurd h.2.2 (by omega))], by rw [mgo, if_neg (show ¬ z k = 35 by rw [ea]; decide), if_neg (fun h => h.2 c_361), ea, tgtM, if_pos rfl]; rfl⟩, by rw [ht]; exact hP, hD⟩, hS.F ht⟩) hS.2.2 dX6_whyNot_224
                                  · refine lv_bipush (v := 6) hx hb dX6_whyNot_218 (by decide) ?_
                                    refine lv_goto (tgt := 224) hx hb dX6_whyNot_220 (by decide) ?_
                                    subst hQ
                                    exact W.iret (v := 6) hx hb hr (fun t ht hW => ⟨⟨6, nI 0, rfl, ⟨by rw [mwn, if_neg (show ¬ z k = 35 by rw [ea]; decide), if_neg (fun h => h.2 c_361), if_neg (show ¬ tgtM z (k / 3) (z k) cn = -6 by rw [etn]; exact nI_neg (by omega) (by decide)), etn, nI_clamp (show 0 < 2 ^ 31 by omega), if_neg hmb, show mow z (k / 3) 0 = f by rw [hf3, show i2 = 3 by omega]; rfl, if_neg (by omega), if_pos ⟨c_372, c_374, by omega⟩], by rw [mgo, if_neg (show ¬ z k = 35 by rw [ea]; decide), if_neg (fun h => h.2 c_361), ea, tgtM, if_pos rfl]; rfl⟩, by rw [ht]; exact hP, hD⟩, hS.F ht⟩) hS.2.2 dX6_whyNot_224
                            · refine lv_iconst (v := 5) hx hb dX6_whyNot_182 (by decide) ?_
                              subst hQ
                              exact W.iret (v := 5) hx hb hr (fun t ht hW => ⟨⟨5, nI 0, rfl, ⟨by rw [mwn, if_neg (show ¬ z k = 35 by rw [ea]; decide), if_neg (fun h => h.2 c_361), if_neg (show ¬ tgtM z (k / 3) (z k) cn = -6 by rw [etn]; exact nI_neg (by omega) (by decide)), etn, nI_clamp (show 0 < 2 ^ 31 by omega), if_neg hmb, show mow z (k / 3) 0 = f by rw [hf3, show i2 = 3 by omega]; rfl, if_pos (by omega)], by rw [mgo, if_neg (show ¬ z k = 35 by rw [ea]; decide), if_neg (fun h => h.2 c_361), ea, tgtM, if_pos rfl]; rfl⟩, by rw [ht]; exact hP, hD⟩, hS.F ht⟩) hS.2.2 dX6_whyNot_183
                          · refine lv_iload hx hb dX6_whyNot_133 (lv_at hl 1 rfl) ?_
                            refine lv_aload_n hx hb dX6_whyNot_135 rfl (lv_at hl 4 rfl) ?_
                            refine va_get (D := G) (ci := 6) (v := .ref qz) (C := RX6) (T := TX6) (N := 10) hx hb hts inlX6 hown hK.1 hP 0 rfl rfl 0 (by decide) (hts _ wd78) (fun _ h9 => h9) rfl dX6_whyNot_136 ?_
                            refine lv_iconst (v := 3) hx hb dX6_whyNot_139 (by decide) ?_
                            refine lv_iload_n hx hb dX6_whyNot_140 rfl (lv_at hl 3 rfl) ?_
                            refine zi_mul hx hb 3 (k / 3) dX6_whyNot_141 rfl rfl ?_
                            refine lv_iload hx hb dX6_whyNot_142 (lv_at hl 0 rfl) ?_
                            refine zi_add hx hb (3 * (k / 3)) i2 dX6_whyNot_144 rfl rfl ?_
                            refine za_ld hx hb hK.1 hP 1 0 rfl rfl ((3 * (k / 3)) + i2) rfl (by omega) (by decide) dX6_whyNot_145 ?_
                            refine lv_aload_n hx hb dX6_whyNot_146 rfl (lv_at hl 4 rfl) ?_
                            refine va_get (D := G) (ci := 6) (v := .int (nI 0)) (C := RX6) (T := TX6) (N := 10) hx hb hts inlX6 hown hK.1 hP 0 rfl rfl 8 (by decide) (hts _ wd267) (fun _ h9 => h9) rfl dX6_whyNot_147 ?_
                            refine lv_icmp_ne (tgt := 166) hx hb dX6_whyNot_150 (by decide) (fun c_378 => ?_) (fun c_378 => ?_)
                            · refine lv_iconst (v := 0) hx hb dX6_whyNot_166 (by decide) ?_
                              refine zi_add hx hb f 0 dX6_whyNot_167 rfl rfl ?_
                              refine lv_istore (lv' := [(5, .int (nI (f + 0))), (6, .int (nI i2)), (4, .int (-6)), (3, .int (nI (k / 3))), (0, .ref qm), (1, .int (nI k)), (2, .int (nI cn))]) hx hb dX6_whyNot_168 hl (by decide) rfl (fun ls hl => ?_)
                              refine lv_iinc (v := nI (i2 + 1)) (lv' := [(6, .int (nI (i2 + 1))), (5, .int (nI (f + 0))), (4, .int (-6)), (3, .int (nI (k / 3))), (0, .ref qm), (1, .int (nI k)), (2, .int (nI cn))]) hx hb dX6_whyNot_170 hl (k := 1) rfl (nI_inc i2) (by decide) rfl (fun ls hl => ?_)
                              refine lv_goto (tgt := 127) hx hb dX6_whyNot_173 (by decide) ?_
                              exact ih2 (i2 + 1) (f + 0) (by omega) (by first | (exfalso; omega) | rw [Nat.add_zero, cnt_f (by simp [moP, c_369, c_378]), hf3]) (by omega) _ (lv_sub hl [0, 1, 2, 3, 4, 5, 6] rfl)
                            · refine lv_aload_n hx hb dX6_whyNot_153 rfl (lv_at hl 4 rfl) ?_
                              refine va_get (D := G) (ci := 6) (v := .int (nI 0)) (C := RX6) (T := TX6) (N := 10) hx hb hts inlX6 hown hK.1 hP 0 rfl rfl 8 (by decide) (hts _ wd267) (fun _ h9 => h9) rfl dX6_whyNot_154 ?_
                              refine lv_bipush (v := 35) hx hb dX6_whyNot_157 (by decide) ?_
                              refine zi_ge (tgt := 166) hx hb 0 35 dX6_whyNot_159 (by decide) rfl rfl (by decide) (by decide) (fun c_379 => ?_) (fun c_379 => ?_)
                              · exact absurd c_379 (by decide)
                              · refine lv_iconst (v := 1) hx hb dX6_whyNot_162 (by decide) ?_
                                refine lv_goto (tgt := 167) hx hb dX6_whyNot_163 (by decide) ?_
                                refine zi_add hx hb f 1 dX6_whyNot_167 rfl rfl ?_
                                refine lv_istore (lv' := [(5, .int (nI (f + 1))), (6, .int (nI i2)), (4, .int (-6)), (3, .int (nI (k / 3))), (0, .ref qm), (1, .int (nI k)), (2, .int (nI cn))]) hx hb dX6_whyNot_168 hl (by decide) rfl (fun ls hl => ?_)
                                refine lv_iinc (v := nI (i2 + 1)) (lv' := [(6, .int (nI (i2 + 1))), (5, .int (nI (f + 1))), (4, .int (-6)), (3, .int (nI (k / 3))), (0, .ref qm), (1, .int (nI k)), (2, .int (nI cn))]) hx hb dX6_whyNot_170 hl (k := 1) rfl (nI_inc i2) (by decide) rfl (fun ls hl => ?_)
                                refine lv_goto (tgt := 127) hx hb dX6_whyNot_173 (by decide) ?_
                                exact ih2 (i2 + 1) (f + 1) (by omega) (by first | (exfalso; omega) | rw [cnt_t (by simp [moP, c_369, c_378, c_379]), hf3]) (by omega) _ (lv_sub hl [0, 1, 2, 3, 4, 5, 6] rfl)
                      exact L2 4 0 0 (by decide) rfl (by decide) _ (lv_sub hl [0, 1, 2, 3, 4, 5, 6] rfl)
                    · refine lv_aload_n hx hb dX6_whyNot_99 rfl (lv_at hl 3 rfl) ?_
                      refine lv_iload_n hx hb dX6_whyNot_100 rfl (lv_at hl 2 rfl) ?_
                      refine lv_iload_n hx hb dX6_whyNot_101 rfl (lv_at hl 2 rfl) ?_
                      refine lv_iload hx hb dX6_whyNot_102 (lv_at hl 0 rfl) ?_
                      refine vp_callSi (va_Run.run (va_runS (As := [.int (nI (k / 3)), .int (nI i)]) (rest := [.int (nI (k / 3)), .ref qm]) ⟨hx, hb, hml, hown, hts⟩ (c_X6_fieldAt l (k / 3) (nI i) (by omega)) (cf_RX6_36 hts ⟨Nat.le_of_ble_eq_true rfl, Nat.le_of_ble_eq_true rfl⟩) pre_P rfl rfl hl.1 rfl (lv_room (Nat.le_of_ble_eq_true rfl)) dX6_whyNot_104 ⟨Nat.le_of_ble_eq_true rfl, Nat.le_of_ble_eq_true rfl⟩)) (fun r380 hr380 => ?_)
                      subst hr380
                      have hPc : va_P G vwCl [(qm, .inr (6, [.ref qz, .ref qa, .ref qe, .int (nI sts), .ref qs, .ref qv, .ref qp, .int (nI len), .int (nI 0), .ref qn])), (qz, .inl (cI, 46, .inl z)), (qa, .inl (cI, 46, .inl as)), (qe, .inl (cI, 276, .inl be)), (qs, .inl (cI, 92, .inl sl)), (qv, .inl (cZ, 2, .inl sv)), (qp, .inl (cI, 60, .inl pd)), (qn, .inl (cI, 36, .inl nd))] H363 := hP
                      have hDc := hD.tt
                      refine vp_callSi (va_Run.run (va_runV (As := [.int (nI (k / 3)), .int (rf (k / 3) (nI i))]) (rest := []) ⟨hx, hb, hml, hown, hts⟩ (c_X6_isBlocked l G cI cC cZ cG H363.size qm qz qa qe qs qv qp qn z as be sl sv pd nd sts len (nI 0) (k / 3) (rf (k / 3) (nI i)) (by omega)) (cf_RX6_81 hts ⟨Nat.le_of_ble_eq_true rfl, Nat.le_of_ble_eq_true rfl⟩) (pre_V hK hPc hDc (ci := 6) (q0 := 0) rfl rfl) rfl rfl hl.1 rfl (lv_room (Nat.le_of_ble_eq_true rfl)) dX6_whyNot_107 ⟨Nat.le_of_ble_eq_true rfl, Nat.le_of_ble_eq_true rfl⟩)) (fun r381 hr381 => ?_)
                      subst hr381
                      refine zb_eq (tgt := 115) hx hb dX6_whyNot_110 (by decide) (fun c_382 => ?_) (fun c_382 => ?_)
                      · refine lv_iinc (v := nI (i + 1)) (lv' := [(5, .int (nI (i + 1))), (4, .int (-6)), (3, .int (nI (k / 3))), (0, .ref qm), (1, .int (nI k)), (2, .int (nI cn))]) hx hb dX6_whyNot_115 hl (k := 0) rfl (nI_inc i) (by decide) rfl (fun ls hl => ?_)
                        refine lv_goto (tgt := 90) hx hb dX6_whyNot_118 (by decide) ?_
                        exact ih1 (i + 1) (by omega) (by omega) (by rw [hf2, hew c_367]; simp [anyp, mbP, c_382]) (by omega) _ (lv_sub hl [0, 1, 2, 3, 4, 5] rfl)
                      · refine lv_iconst (v := 4) hx hb dX6_whyNot_113 (by decide) ?_
                        subst hQ
                        exact W.iret (v := 4) hx hb hr (fun t ht hW => ⟨⟨4, nI 0, rfl, ⟨by rw [mwn, if_neg (show ¬ z k = 35 by rw [ea]; decide), if_neg (fun h => h.2 c_361), if_neg (show ¬ tgtM z (k / 3) (z k) cn = -6 by rw [etn]; exact nI_neg (by omega) (by decide)), etn, nI_clamp (show 0 < 2 ^ 31 by omega), if_pos (by rw [hf2, hew c_367]; simp [anyp, mbP, c_382])], by rw [mgo, if_neg (show ¬ z k = 35 by rw [ea]; decide), if_neg (fun h => h.2 c_361), ea, tgtM, if_pos rfl]; rfl⟩, by rw [ht]; exact hP, hD⟩, hS.F ht⟩) hS.2.2 dX6_whyNot_114
                exact L1 (0 + 2) 0 (Nat.le_refl _) (by omega) (by rw [mbQ, ea]; first | rfl | rw [fst_n (by omega)]) (by omega) _ (lv_sub hl [0, 1, 2, 3, 4, 5] rfl)
            · exact absurd c_364 (by decide)
        · refine lv_iconst (v := 2) hx hb dX6_whyNot_39 (by decide) ?_
          subst hQ
          exact W.iret (v := 2) hx hb hr (fun t ht hW => ⟨⟨2, go, rfl, ⟨by rw [mwn, if_neg (show ¬ z k = 35 by rw [ea]; decide), if_pos ⟨ea, c_361⟩], by rw [mgo, if_neg (show ¬ z k = 35 by rw [ea]; decide), if_pos ⟨ea, c_361⟩]⟩, by rw [ht]; exact hP, hD⟩, hS.F ht⟩) hS.2.2 dX6_whyNot_40
    · exact absurd c_359 (by decide)
  · rw [ea] at hl
    refine lv_iload hx hb dX6_whyNot_12 (lv_at hl 0 rfl) ?_
    refine lv_bipush (v := 35) hx hb dX6_whyNot_14 (by decide) ?_
    refine zi_ne (tgt := 21) hx hb a 35 dX6_whyNot_16 (by decide) rfl rfl (by omega) (by decide) (fun c_383 => ?_) (fun c_383 => ?_)
    · refine lv_iload hx hb dX6_whyNot_21 (lv_at hl 0 rfl) ?_
      refine lv_bipush (v := (-6)) hx hb dX6_whyNot_23 (by decide) ?_
      refine lv_icmp_ne (tgt := 41) hx hb dX6_whyNot_25 (by decide) (fun c_384 => ?_) (fun c_384 => ?_)
      · refine lv_aload_n hx hb dX6_whyNot_41 rfl (lv_at hl 2 rfl) ?_
        refine lv_iload hx hb dX6_whyNot_42 (lv_at hl 0 rfl) ?_
        refine lv_bipush (v := (-6)) hx hb dX6_whyNot_44 (by decide) ?_
        refine lv_icmp_ne (tgt := 53) hx hb dX6_whyNot_46 (by decide) (fun c_385 => ?_) (fun c_385 => ?_)
        · refine lv_aload_n hx hb dX6_whyNot_53 rfl (lv_at hl 2 rfl) ?_
          refine lv_iload_n hx hb dX6_whyNot_54 rfl (lv_at hl 1 rfl) ?_
          refine lv_iload hx hb dX6_whyNot_55 (lv_at hl 0 rfl) ?_
          refine lv_iload_n hx hb dX6_whyNot_57 rfl (lv_at hl 4 rfl) ?_
          have hPc : va_P G vwCl [(qm, .inr (6, [.ref qz, .ref qa, .ref qe, .int (nI sts), .ref qs, .ref qv, .ref qp, .int (nI len), .int go, .ref qn])), (qz, .inl (cI, 46, .inl z)), (qa, .inl (cI, 46, .inl as)), (qe, .inl (cI, 276, .inl be)), (qs, .inl (cI, 92, .inl sl)), (qv, .inl (cZ, 2, .inl sv)), (qp, .inl (cI, 60, .inl pd)), (qn, .inl (cI, 36, .inl nd))] s.heap := hP
          have hDc := hD.tt
          refine vp_callSi (va_Run.run (va_runV (As := [.int (nI (k / 3)), .int (nI a), .int (nI cn)]) (rest := [.ref qm]) ⟨hx, hb, hml, hown, hts⟩ (c_X6_stepOn l G cI cC cZ cG s.heap.size qm qz qa qe qs qv qp qn z as be sl sv pd nd sts len go (k / 3) a cn (by omega) ha hc1 hc) (cf_RX6_74 hts ⟨Nat.le_of_ble_eq_true rfl, Nat.le_of_ble_eq_true rfl⟩) (pre_V hK hPc hDc (ci := 6) (q0 := 0) rfl rfl) rfl rfl hl.1 rfl (lv_room (Nat.le_of_ble_eq_true rfl)) dX6_whyNot_58 ⟨Nat.le_of_ble_eq_true rfl, Nat.le_of_ble_eq_true rfl⟩)) (fun r386 hr386 => ?_)
          subst hr386
          refine va_put (D := G) (ci := 6) (v := .int (tgI (tg (mfN z (k / 3)) a cn))) (ty := .int) (C := RX6) (T := TX6) (N := 10) hx hb hts inlX6 tyX6 tyX6_ok nmX6 hown hK.1 hP hD hS 0 rfl rfl 8 (by decide) (hts _ wd267) (fun _ h9 => h9) rfl (by decide +kernel) rfl rfl (Nat.le_of_ble_eq_true rfl) dX6_whyNot_61 (fun H387 locs387 hP hD hS => ?_)
          have hP : va_P G vwCl [(qm, .inr (6, [.ref qz, .ref qa, .ref qe, .int (nI sts), .ref qs, .ref qv, .ref qp, .int (nI len), .int (tgI (tg (mfN z (k / 3)) a cn)), .ref qn])), (qz, .inl (cI, 46, .inl z)), (qa, .inl (cI, 46, .inl as)), (qe, .inl (cI, 276, .inl be)), (qs, .inl (cI, 92, .inl sl)), (qv, .inl (cZ, 2, .inl sv)), (qp, .inl (cI, 60, .inl pd)), (qn, .inl (cI, 36, .inl nd))] H387 := hP
          have hD : va_D A [(qm, .inr (6, [.ref qz, .ref qa, .ref qe, .int (nI sts), .ref qs, .ref qv, .ref qp, .int (nI len), .int (tgI (tg (mfN z (k / 3)) a cn)), .ref qn])), (qz, .inl (cI, 46, .inl z)), (qa, .inl (cI, 46, .inl as)), (qe, .inl (cI, 276, .inl be)), (qs, .inl (cI, 92, .inl sl)), (qv, .inl (cZ, 2, .inl sv)), (qp, .inl (cI, 60, .inl pd)), (qn, .inl (cI, 36, .inl nd))] := hD
          refine lv_aload_n hx hb dX6_whyNot_64 rfl (lv_at hl 2 rfl) ?_
          refine va_get (D := G) (ci := 6) (v := .int (tgI (tg (mfN z (k / 3)) a cn))) (C := RX6) (T := TX6) (N := 10) hx hb hts inlX6 hown hK.1 hP 0 rfl rfl 8 (by decide) (hts _ wd267) (fun _ h9 => h9) rfl dX6_whyNot_65 ?_
          refine lv_if_ge (tgt := 73) hx hb dX6_whyNot_68 (by decide) (fun c_388 => ?_) (fun c_388 => ?_)
          · have emt : tgI (tg (mfN z (k / 3)) a cn) = tgtM z (k / 3) (z k) cn := by rw [ea, tgtM, if_neg (nI_neg (by omega) (by decide)), nI_clamp (by omega)]
            obtain ⟨tn, htn, etg⟩ := okv_nn (tgI_ok _) c_388
            have etn : tgtM z (k / 3) (z k) cn = nI tn := by rw [← emt]; exact etg
            have hgt : a < tn := tgI_gt etg hc1 htn
            rw [etg] at hP hD
            refine lv_iload hx hb dX6_whyNot_73 (lv_at hl 0 rfl) ?_
            refine lv_bipush (v := (-6)) hx hb dX6_whyNot_75 (by decide) ?_
            refine lv_icmp_ne (tgt := 84) hx hb dX6_whyNot_77 (by decide) (fun c_389 => ?_) (fun c_389 => ?_)
            · refine lv_iload hx hb dX6_whyNot_84 (lv_at hl 0 rfl) ?_
              refine lv_iconst (v := 1) hx hb dX6_whyNot_86 (by decide) ?_
              refine zi_add hx hb a 1 dX6_whyNot_87 rfl rfl ?_
              refine lv_istore (lv' := [(5, .int (nI (a + 1))), (4, .int (nI a)), (3, .int (nI (k / 3))), (0, .ref qm), (1, .int (nI k)), (2, .int (nI cn))]) hx hb dX6_whyNot_88 hl (by decide) rfl (fun ls hl => ?_)
              have L3 : ∀ (n : Nat), ∀ (i : Nat), ∀ (hi0 : (a + 1) ≤ i), ∀ (hi : i ≤ tn + 1), ∀ (hf2 : mbQ z (k / 3) (z k) tn = anyp (mbP z (k / 3)) i (tn + 1 - i)), ∀ (hn : tn + 2 ≤ i + n), ∀ (ls : Array Slot), lv_has ls 7 [(5, .int (nI i)), (4, .int (nI a)), (3, .int (nI (k / 3))), (0, .ref qm), (1, .int (nI k)), (2, .int (nI cn))] → W p l e rm_X6_whyNot s m ag below meth c H387 locs387 0 0 Q (F0 m 90 ls []) := by
                intro n
                induction n with
                | zero =>
                  intro i hi0 hi hf2 hn ls hl
                  omega
                | succ n ih3 =>
                  intro i hi0 hi hf2 hn ls hl
                  have hew : i ≤ tn → tn + 1 - i = (tn + 1 - (i + 1)) + 1 := fun h => by omega
                  refine lv_iload hx hb dX6_whyNot_90 (lv_at hl 0 rfl) ?_
                  refine lv_aload_n hx hb dX6_whyNot_92 rfl (lv_at hl 3 rfl) ?_
                  refine va_get (D := G) (ci := 6) (v := .int (nI tn)) (C := RX6) (T := TX6) (N := 10) hx hb hts inlX6 hown hK.1 hP 0 rfl rfl 8 (by decide) (hts _ wd267) (fun _ h9 => h9) rfl dX6_whyNot_93 ?_
                  refine zi_gt (tgt := 121) hx hb i tn dX6_whyNot_96 (by decide) rfl rfl (by omega) (by omega) (fun c_391 => ?_) (fun c_391 => ?_)
                  · refine lv_iconst (v := 0) hx hb dX6_whyNot_121 (by decide) ?_
                    refine lv_istore (lv' := [(5, .int 0), (4, .int (nI a)), (3, .int (nI (k / 3))), (0, .ref qm), (1, .int (nI k)), (2, .int (nI cn))]) hx hb dX6_whyNot_122 hl (by decide) rfl (fun ls hl => ?_)
                    refine lv_iconst (v := 0) hx hb dX6_whyNot_124 (by decide) ?_
                    refine lv_istore (lv' := [(6, .int 0), (5, .int 0), (4, .int (nI a)), (3, .int (nI (k / 3))), (0, .ref qm), (1, .int (nI k)), (2, .int (nI cn))]) hx hb dX6_whyNot_125 hl (by decide) rfl (fun ls hl => ?_)
                    have hmb : ¬ mbQ z (k / 3) (z k) tn = true := by rw [hf2, show tn + 1 - i = 0 by omega]; simp [anyp]
                    have L4 : ∀ (n : Nat), ∀ (i2 : Nat), ∀ (f : Nat), ∀ (hi2 : i2 ≤ 3), ∀ (hf3 : f = cnt (moP z (k / 3) tn) i2), ∀ (hn2 : 4 ≤ i2 + n), ∀ (ls : Array Slot), lv_has ls 7 [(6, .int (nI i2)), (5, .int (nI f)), (4, .int (nI a)), (3, .int (nI (k / 3))), (0, .ref qm), (1, .int (nI k)), (2, .int (nI cn))] → W p l e rm_X6_whyNot s m ag below meth c H387 locs387 0 0 Q (F0 m 127 ls []) := by
                      intro n
                      induction n with
                      | zero =>
                        intro i2 f hi2 hf3 hn2 ls hl
                        omega
                      | succ n ih4 =>
                        intro i2 f hi2 hf3 hn2 ls hl
                        have hfl : f ≤ 3 := by rw [hf3]; exact Nat.le_trans (cnt_le _ _) hi2
                        refine lv_iload hx hb dX6_whyNot_127 (lv_at hl 0 rfl) ?_
                        refine lv_iconst (v := 3) hx hb dX6_whyNot_129 (by decide) ?_
                        refine zi_ge (tgt := 176) hx hb i2 3 dX6_whyNot_130 (by decide) rfl rfl (by omega) (by decide) (fun c_393 => ?_) (fun c_393 => ?_)
                        · refine lv_iload hx hb dX6_whyNot_176 (lv_at hl 1 rfl) ?_
                          refine lv_iconst (v := 1) hx hb dX6_whyNot_178 (by decide) ?_
                          refine zi_le (tgt := 184) hx hb f 1 dX6_whyNot_179 (by decide) rfl rfl (by omega) (by decide) (fun c_394 => ?_) (fun c_394 => ?_)
                          · refine lv_iload_n hx hb dX6_whyNot_184 rfl (lv_at hl 3 rfl) ?_
                            refine lv_aload_n hx hb dX6_whyNot_185 rfl (lv_at hl 4 rfl) ?_
                            refine va_get (D := G) (ci := 6) (v := .int (nI tn)) (C := RX6) (T := TX6) (N := 10) hx hb hts inlX6 hown hK.1 hP 0 rfl rfl 8 (by decide) (hts _ wd267) (fun _ h9 => h9) rfl dX6_whyNot_186 ?_
                            refine vp_callSi (va_Run.run (va_runS (As := [.int (nI (k / 3)), .int (nI tn)]) (rest := []) ⟨hx, hb, hml, hown, hts⟩ (c_X6_fieldAt l (k / 3) (nI tn) (by omega)) (cf_RX6_36 hts ⟨Nat.le_of_ble_eq_true rfl, Nat.le_of_ble_eq_true rfl⟩) pre_P rfl rfl hl.1 rfl (lv_room (Nat.le_of_ble_eq_true rfl)) dX6_whyNot_189 ⟨Nat.le_of_ble_eq_true rfl, Nat.le_of_ble_eq_true rfl⟩)) (fun r395 hr395 => ?_)
                            subst hr395
                            refine lv_istore (lv' := [(6, .int (rf (k / 3) (nI tn))), (5, .int (nI f)), (4, .int (nI a)), (3, .int (nI (k / 3))), (0, .ref qm), (1, .int (nI k)), (2, .int (nI cn))]) hx hb dX6_whyNot_192 hl (by decide) rfl (fun ls hl => ?_)
                            refine lv_iload hx hb dX6_whyNot_194 (lv_at hl 0 rfl) ?_
                            refine lv_if_lt (tgt := 223) hx hb dX6_whyNot_196 (by decide) (fun c_396 => ?_) (fun c_396 => ?_)
                            · refine lv_iconst (v := 0) hx hb dX6_whyNot_223 (by decide) ?_
                              subst hQ
                              exact W.iret (v := 0) hx hb hr (fun t ht hW => ⟨⟨0, nI tn, rfl, ⟨by rw [mwn, if_neg (show ¬ z k = 35 by rw [ea]; exact fun h => c_383 ((nI_eq (b := 35) (by omega) (by decide)).mp h)), if_neg (fun h => absurd (ea.symm.trans h.1) (nI_neg (by omega) (by decide))), if_neg (show ¬ tgtM z (k / 3) (z k) cn = -6 by rw [etn]; exact nI_neg (by omega) (by decide)), etn, nI_clamp (show tn < 2 ^ 31 by omega), if_neg hmb, show mow z (k / 3) tn = f by rw [hf3, show i2 = 3 by omega]; rfl, if_neg (by omega), if_neg (fun h => h.1 c_396)], by rw [mgo, if_neg (show ¬ z k = 35 by rw [ea]; exact fun h => c_383 ((nI_eq (b := 35) (by omega) (by decide)).mp h)), if_neg (fun h => absurd (ea.symm.trans h.1) (nI_neg (by omega) (by decide))), etn]⟩, by rw [ht]; exact hP, hD⟩, hS.F ht⟩) hS.2.2 dX6_whyNot_224
                            · refine lv_iload hx hb dX6_whyNot_199 (lv_at hl 0 rfl) ?_
                              refine vp_callSi (va_Run.run (va_runS (As := [.int (rf (k / 3) (nI tn))]) (rest := []) ⟨hx, hb, hml, hown, hts⟩ (c_X6_isSafe l (rf (k / 3) (nI tn))) (cf_RX6_85 hts ⟨Nat.le_of_ble_eq_true rfl, Nat.le_of_ble_eq_true rfl⟩) pre_P rfl rfl hl.1 rfl (lv_room (Nat.le_of_ble_eq_true rfl)) dX6_whyNot_201 ⟨Nat.le_of_ble_eq_true rfl, Nat.le_of_ble_eq_true rfl⟩)) (fun r397 hr397 => ?_)
                              subst hr397
                              refine zb_eq (tgt := 223) hx hb dX6_whyNot_204 (by decide) (fun c_398 => ?_) (fun c_398 => ?_)
                              · refine lv_iconst (v := 0) hx hb dX6_whyNot_223 (by decide) ?_
                                subst hQ
                                exact W.iret (v := 0) hx hb hr (fun t ht hW => ⟨⟨0, nI tn, rfl, ⟨by rw [mwn, if_neg (show ¬ z k = 35 by rw [ea]; exact fun h => c_383 ((nI_eq (b := 35) (by omega) (by decide)).mp h)), if_neg (fun h => absurd (ea.symm.trans h.1) (nI_neg (by omega) (by decide))), if_neg (show ¬ tgtM z (k / 3) (z k) cn = -6 by rw [etn]; exact nI_neg (by omega) (by decide)), etn, nI_clamp (show tn < 2 ^ 31 by omega), if_neg hmb, show mow z (k / 3) tn = f by rw [hf3, show i2 = 3 by omega]; rfl, if_neg (by omega), if_neg (fun h => c_398 h.2.1)], by rw [mgo, if_neg (show ¬ z k = 35 by rw [ea]; exact fun h => c_383 ((nI_eq (b := 35) (by omega) (by decide)).mp h)), if_neg (fun h => absurd (ea.symm.trans h.1) (nI_neg (by omega) (by decide))), etn]⟩, by rw [ht]; exact hP, hD⟩, hS.F ht⟩) hS.2.2 dX6_whyNot_224
                              · refine lv_aload_n hx hb dX6_whyNot_207 rfl (lv_at hl 4 rfl) ?_
                                refine lv_iload hx hb dX6_whyNot_208 (lv_at hl 0 rfl) ?_
                                have hPc : va_P G vwCl [(qm, .inr (6, [.ref qz, .ref qa, .ref qe, .int (nI sts), .ref qs, .ref qv, .ref qp, .int (nI len), .int (nI tn), .ref qn])), (qz, .inl (cI, 46, .inl z)), (qa, .inl (cI, 46, .inl as)), (qe, .inl (cI, 276, .inl be)), (qs, .inl (cI, 92, .inl sl)), (qv, .inl (cZ, 2, .inl sv)), (qp, .inl (cI, 60, .inl pd)), (qn, .inl (cI, 36, .inl nd))] H387 := hP
                                have hDc := hD.tt
                                refine vp_callSi (va_Run.run (va_runV (As := [.int (rf (k / 3) (nI tn))]) (rest := []) ⟨hx, hb, hml, hown, hts⟩ (c_X6_allOn l G cI cC cZ cG H387.size qm qz qa qe qs qv qp qn z as be sl sv pd nd sts len (nI tn) (rf (k / 3) (nI tn))) (cf_RX6_61 hts ⟨Nat.le_of_ble_eq_true rfl, Nat.le_of_ble_eq_true rfl⟩) (pre_V hK hPc hDc (ci := 6) (q0 := 0) rfl rfl) rfl rfl hl.1 rfl (lv_room (Nat.le_of_ble_eq_true rfl)) dX6_whyNot_210 ⟨Nat.le_of_ble_eq_true rfl, Nat.le_of_ble_eq_true rfl⟩)) (fun r399 hr399 => ?_)
                                subst hr399
                                have hf400 := (@ao_le z (rf (k / 3) (nI tn)) 4)
                                refine lv_iload hx hb dX6_whyNot_213 (lv_at hl 1 rfl) ?_
                                refine zi_le (tgt := 223) hx hb (ao z (rf (k / 3) (nI tn)) 4) f dX6_whyNot_215 (by decide) rfl rfl (by omega) (by omega) (fun c_401 => ?_) (fun c_401 => ?_)
                                · refine lv_iconst (v := 0) hx hb dX6_whyNot_223 (by decide) ?_
                                  subst hQ
                                  exact W.iret (v := 0) hx hb hr (fun t ht hW => ⟨⟨0, nI tn, rfl, ⟨by rw [mwn, if_neg (show ¬ z k = 35 by rw [ea]; exact fun h => c_383 ((nI_eq (b := 35) (by omega) (by decide)).mp h)), if_neg (fun h => absurd (ea.symm.trans h.1) (nI_neg (by omega) (by decide))), if_neg (show ¬ tgtM z (k / 3) (z k) cn = -6 by rw [etn]; exact nI_neg (by omega) (by decide)), etn, nI_clamp (show tn < 2 ^ 31 by omega), if_neg hmb, show mow z (k / 3) tn = f by rw [hf3, show i2 = 3 by omega]; rfl, if_neg (by omega), if_neg (fun h => absurd h.2.2 (by omega))], by rw [mgo, if_neg (show ¬ z k = 35 by rw [ea]; exact fun h => c_383 ((nI_eq (b := 35) (by omega) (by decide)).mp h)), if_neg (fun h => absurd (ea.symm.trans h.1) (nI_neg (by omega) (by decide))), etn]⟩, by rw [ht]; exact hP, hD⟩, hS.F ht⟩) hS.2.2 dX6_whyNot_224
                                · refine lv_bipush (v := 6) hx hb dX6_whyNot_218 (by decide) ?_
                                  refine lv_goto (tgt := 224) hx hb dX6_whyNot_220 (by decide) ?_
                                  subst hQ
                                  exact W.iret (v := 6) hx hb hr (fun t ht hW => ⟨⟨6, nI tn, rfl, ⟨by rw [mwn, if_neg (show ¬ z k = 35 by rw [ea]; exact fun h => c_383 ((nI_eq (b := 35) (by omega) (by decide)).mp h)), if_neg (fun h => absurd (ea.symm.trans h.1) (nI_neg (by omega) (by decide))), if_neg (show ¬ tgtM z (k / 3) (z k) cn = -6 by rw [etn]; exact nI_neg (by omega) (by decide)), etn, nI_clamp (show tn < 2 ^ 31 by omega), if_neg hmb, show mow z (k / 3) tn = f by rw [hf3, show i2 = 3 by omega]; rfl, if_neg (by omega), if_pos ⟨c_396, c_398, by omega⟩], by rw [mgo, if_neg (show ¬ z k = 35 by rw [ea]; exact fun h => c_383 ((nI_eq (b := 35) (by omega) (by decide)).mp h)), if_neg (fun h => absurd (ea.symm.trans h.1) (nI_neg (by omega) (by decide))), etn]⟩, by rw [ht]; exact hP, hD⟩, hS.F ht⟩) hS.2.2 dX6_whyNot_224
                          · refine lv_iconst (v := 5) hx hb dX6_whyNot_182 (by decide) ?_
                            subst hQ
                            exact W.iret (v := 5) hx hb hr (fun t ht hW => ⟨⟨5, nI tn, rfl, ⟨by rw [mwn, if_neg (show ¬ z k = 35 by rw [ea]; exact fun h => c_383 ((nI_eq (b := 35) (by omega) (by decide)).mp h)), if_neg (fun h => absurd (ea.symm.trans h.1) (nI_neg (by omega) (by decide))), if_neg (show ¬ tgtM z (k / 3) (z k) cn = -6 by rw [etn]; exact nI_neg (by omega) (by decide)), etn, nI_clamp (show tn < 2 ^ 31 by omega), if_neg hmb, show mow z (k / 3) tn = f by rw [hf3, show i2 = 3 by omega]; rfl, if_pos (by omega)], by rw [mgo, if_neg (show ¬ z k = 35 by rw [ea]; exact fun h => c_383 ((nI_eq (b := 35) (by omega) (by decide)).mp h)), if_neg (fun h => absurd (ea.symm.trans h.1) (nI_neg (by omega) (by decide))), etn]⟩, by rw [ht]; exact hP, hD⟩, hS.F ht⟩) hS.2.2 dX6_whyNot_183
                        · refine lv_iload hx hb dX6_whyNot_133 (lv_at hl 1 rfl) ?_
                          refine lv_aload_n hx hb dX6_whyNot_135 rfl (lv_at hl 4 rfl) ?_
                          refine va_get (D := G) (ci := 6) (v := .ref qz) (C := RX6) (T := TX6) (N := 10) hx hb hts inlX6 hown hK.1 hP 0 rfl rfl 0 (by decide) (hts _ wd78) (fun _ h9 => h9) rfl dX6_whyNot_136 ?_
                          refine lv_iconst (v := 3) hx hb dX6_whyNot_139 (by decide) ?_
                          refine lv_iload_n hx hb dX6_whyNot_140 rfl (lv_at hl 3 rfl) ?_
                          refine zi_mul hx hb 3 (k / 3) dX6_whyNot_141 rfl rfl ?_
                          refine lv_iload hx hb dX6_whyNot_142 (lv_at hl 0 rfl) ?_
                          refine zi_add hx hb (3 * (k / 3)) i2 dX6_whyNot_144 rfl rfl ?_
                          refine za_ld hx hb hK.1 hP 1 0 rfl rfl ((3 * (k / 3)) + i2) rfl (by omega) (by decide) dX6_whyNot_145 ?_
                          refine lv_aload_n hx hb dX6_whyNot_146 rfl (lv_at hl 4 rfl) ?_
                          refine va_get (D := G) (ci := 6) (v := .int (nI tn)) (C := RX6) (T := TX6) (N := 10) hx hb hts inlX6 hown hK.1 hP 0 rfl rfl 8 (by decide) (hts _ wd267) (fun _ h9 => h9) rfl dX6_whyNot_147 ?_
                          refine lv_icmp_ne (tgt := 166) hx hb dX6_whyNot_150 (by decide) (fun c_402 => ?_) (fun c_402 => ?_)
                          · refine lv_iconst (v := 0) hx hb dX6_whyNot_166 (by decide) ?_
                            refine zi_add hx hb f 0 dX6_whyNot_167 rfl rfl ?_
                            refine lv_istore (lv' := [(5, .int (nI (f + 0))), (6, .int (nI i2)), (4, .int (nI a)), (3, .int (nI (k / 3))), (0, .ref qm), (1, .int (nI k)), (2, .int (nI cn))]) hx hb dX6_whyNot_168 hl (by decide) rfl (fun ls hl => ?_)
                            refine lv_iinc (v := nI (i2 + 1)) (lv' := [(6, .int (nI (i2 + 1))), (5, .int (nI (f + 0))), (4, .int (nI a)), (3, .int (nI (k / 3))), (0, .ref qm), (1, .int (nI k)), (2, .int (nI cn))]) hx hb dX6_whyNot_170 hl (k := 1) rfl (nI_inc i2) (by decide) rfl (fun ls hl => ?_)
                            refine lv_goto (tgt := 127) hx hb dX6_whyNot_173 (by decide) ?_
                            exact ih4 (i2 + 1) (f + 0) (by omega) (by first | (exfalso; omega) | rw [Nat.add_zero, cnt_f (by simp [moP, c_393, c_402]), hf3]) (by omega) _ (lv_sub hl [0, 1, 2, 3, 4, 5, 6] rfl)
                          · refine lv_aload_n hx hb dX6_whyNot_153 rfl (lv_at hl 4 rfl) ?_
                            refine va_get (D := G) (ci := 6) (v := .int (nI tn)) (C := RX6) (T := TX6) (N := 10) hx hb hts inlX6 hown hK.1 hP 0 rfl rfl 8 (by decide) (hts _ wd267) (fun _ h9 => h9) rfl dX6_whyNot_154 ?_
                            refine lv_bipush (v := 35) hx hb dX6_whyNot_157 (by decide) ?_
                            refine zi_ge (tgt := 166) hx hb tn 35 dX6_whyNot_159 (by decide) rfl rfl (by omega) (by decide) (fun c_403 => ?_) (fun c_403 => ?_)
                            · refine lv_iconst (v := 0) hx hb dX6_whyNot_166 (by decide) ?_
                              refine zi_add hx hb f 0 dX6_whyNot_167 rfl rfl ?_
                              refine lv_istore (lv' := [(5, .int (nI (f + 0))), (6, .int (nI i2)), (4, .int (nI a)), (3, .int (nI (k / 3))), (0, .ref qm), (1, .int (nI k)), (2, .int (nI cn))]) hx hb dX6_whyNot_168 hl (by decide) rfl (fun ls hl => ?_)
                              refine lv_iinc (v := nI (i2 + 1)) (lv' := [(6, .int (nI (i2 + 1))), (5, .int (nI (f + 0))), (4, .int (nI a)), (3, .int (nI (k / 3))), (0, .ref qm), (1, .int (nI k)), (2, .int (nI cn))]) hx hb dX6_whyNot_170 hl (k := 1) rfl (nI_inc i2) (by decide) rfl (fun ls hl => ?_)
                              refine lv_goto (tgt := 127) hx hb dX6_whyNot_173 (by decide) ?_
                              exact ih4 (i2 + 1) (f + 0) (by omega) (by first | (exfalso; omega) | rw [Nat.add_zero, cnt_f (by simp [moP, c_393, c_402, c_403]), hf3]) (by omega) _ (lv_sub hl [0, 1, 2, 3, 4, 5, 6] rfl)
                            · refine lv_iconst (v := 1) hx hb dX6_whyNot_162 (by decide) ?_
                              refine lv_goto (tgt := 167) hx hb dX6_whyNot_163 (by decide) ?_
                              refine zi_add hx hb f 1 dX6_whyNot_167 rfl rfl ?_
                              refine lv_istore (lv' := [(5, .int (nI (f + 1))), (6, .int (nI i2)), (4, .int (nI a)), (3, .int (nI (k / 3))), (0, .ref qm), (1, .int (nI k)), (2, .int (nI cn))]) hx hb dX6_whyNot_168 hl (by decide) rfl (fun ls hl => ?_)
                              refine lv_iinc (v := nI (i2 + 1)) (lv' := [(6, .int (nI (i2 + 1))), (5, .int (nI (f + 1))), (4, .int (nI a)), (3, .int (nI (k / 3))), (0, .ref qm), (1, .int (nI k)), (2, .int (nI cn))]) hx hb dX6_whyNot_170 hl (k := 1) rfl (nI_inc i2) (by decide) rfl (fun ls hl => ?_)
                              refine lv_goto (tgt := 127) hx hb dX6_whyNot_173 (by decide) ?_
                              exact ih4 (i2 + 1) (f + 1) (by omega) (by first | (exfalso; omega) | rw [cnt_t (by simp [moP, c_393, c_402, c_403]), hf3]) (by omega) _ (lv_sub hl [0, 1, 2, 3, 4, 5, 6] rfl)
                    exact L4 4 0 0 (by decide) rfl (by decide) _ (lv_sub hl [0, 1, 2, 3, 4, 5, 6] rfl)
                  · refine lv_aload_n hx hb dX6_whyNot_99 rfl (lv_at hl 3 rfl) ?_
                    refine lv_iload_n hx hb dX6_whyNot_100 rfl (lv_at hl 2 rfl) ?_
                    refine lv_iload_n hx hb dX6_whyNot_101 rfl (lv_at hl 2 rfl) ?_
                    refine lv_iload hx hb dX6_whyNot_102 (lv_at hl 0 rfl) ?_
                    refine vp_callSi (va_Run.run (va_runS (As := [.int (nI (k / 3)), .int (nI i)]) (rest := [.int (nI (k / 3)), .ref qm]) ⟨hx, hb, hml, hown, hts⟩ (c_X6_fieldAt l (k / 3) (nI i) (by omega)) (cf_RX6_36 hts ⟨Nat.le_of_ble_eq_true rfl, Nat.le_of_ble_eq_true rfl⟩) pre_P rfl rfl hl.1 rfl (lv_room (Nat.le_of_ble_eq_true rfl)) dX6_whyNot_104 ⟨Nat.le_of_ble_eq_true rfl, Nat.le_of_ble_eq_true rfl⟩)) (fun r404 hr404 => ?_)
                    subst hr404
                    have hPc : va_P G vwCl [(qm, .inr (6, [.ref qz, .ref qa, .ref qe, .int (nI sts), .ref qs, .ref qv, .ref qp, .int (nI len), .int (nI tn), .ref qn])), (qz, .inl (cI, 46, .inl z)), (qa, .inl (cI, 46, .inl as)), (qe, .inl (cI, 276, .inl be)), (qs, .inl (cI, 92, .inl sl)), (qv, .inl (cZ, 2, .inl sv)), (qp, .inl (cI, 60, .inl pd)), (qn, .inl (cI, 36, .inl nd))] H387 := hP
                    have hDc := hD.tt
                    refine vp_callSi (va_Run.run (va_runV (As := [.int (nI (k / 3)), .int (rf (k / 3) (nI i))]) (rest := []) ⟨hx, hb, hml, hown, hts⟩ (c_X6_isBlocked l G cI cC cZ cG H387.size qm qz qa qe qs qv qp qn z as be sl sv pd nd sts len (nI tn) (k / 3) (rf (k / 3) (nI i)) (by omega)) (cf_RX6_81 hts ⟨Nat.le_of_ble_eq_true rfl, Nat.le_of_ble_eq_true rfl⟩) (pre_V hK hPc hDc (ci := 6) (q0 := 0) rfl rfl) rfl rfl hl.1 rfl (lv_room (Nat.le_of_ble_eq_true rfl)) dX6_whyNot_107 ⟨Nat.le_of_ble_eq_true rfl, Nat.le_of_ble_eq_true rfl⟩)) (fun r405 hr405 => ?_)
                    subst hr405
                    refine zb_eq (tgt := 115) hx hb dX6_whyNot_110 (by decide) (fun c_406 => ?_) (fun c_406 => ?_)
                    · refine lv_iinc (v := nI (i + 1)) (lv' := [(5, .int (nI (i + 1))), (4, .int (nI a)), (3, .int (nI (k / 3))), (0, .ref qm), (1, .int (nI k)), (2, .int (nI cn))]) hx hb dX6_whyNot_115 hl (k := 0) rfl (nI_inc i) (by decide) rfl (fun ls hl => ?_)
                      refine lv_goto (tgt := 90) hx hb dX6_whyNot_118 (by decide) ?_
                      exact ih3 (i + 1) (by omega) (by omega) (by rw [hf2, hew c_391]; simp [anyp, mbP, c_406]) (by omega) _ (lv_sub hl [0, 1, 2, 3, 4, 5] rfl)
                    · refine lv_iconst (v := 4) hx hb dX6_whyNot_113 (by decide) ?_
                      subst hQ
                      exact W.iret (v := 4) hx hb hr (fun t ht hW => ⟨⟨4, nI tn, rfl, ⟨by rw [mwn, if_neg (show ¬ z k = 35 by rw [ea]; exact fun h => c_383 ((nI_eq (b := 35) (by omega) (by decide)).mp h)), if_neg (fun h => absurd (ea.symm.trans h.1) (nI_neg (by omega) (by decide))), if_neg (show ¬ tgtM z (k / 3) (z k) cn = -6 by rw [etn]; exact nI_neg (by omega) (by decide)), etn, nI_clamp (show tn < 2 ^ 31 by omega), if_pos (by rw [hf2, hew c_391]; simp [anyp, mbP, c_406])], by rw [mgo, if_neg (show ¬ z k = 35 by rw [ea]; exact fun h => c_383 ((nI_eq (b := 35) (by omega) (by decide)).mp h)), if_neg (fun h => absurd (ea.symm.trans h.1) (nI_neg (by omega) (by decide))), etn]⟩, by rw [ht]; exact hP, hD⟩, hS.F ht⟩) hS.2.2 dX6_whyNot_114
              exact L3 (tn + 2) (a + 1) (Nat.le_refl _) (by omega) (by rw [mbQ, ea]; first | rfl | rw [fst_n (by omega)]) (by omega) _ (lv_sub hl [0, 1, 2, 3, 4, 5] rfl)
            · exact absurd c_389 (nI_neg (by omega) (by decide))
          · refine lv_iconst (v := 3) hx hb dX6_whyNot_71 (by decide) ?_
            subst hQ
            exact W.iret (v := 3) hx hb hr (fun t ht hW => ⟨⟨3, tgI (tg (mfN z (k / 3)) a cn), rfl, ⟨by rw [mwn, if_neg (show ¬ z k = 35 by rw [ea]; exact fun h => c_383 ((nI_eq (b := 35) (by omega) (by decide)).mp h)), if_neg (fun h => absurd (ea.symm.trans h.1) (nI_neg (by omega) (by decide))), if_pos (show tgtM z (k / 3) (z k) cn = -6 by rw [ea, tgtM, if_neg (nI_neg (by omega) (by decide)), nI_clamp (by omega)]; exact okv_neg (tgI_ok _) c_388)], by rw [mgo, if_neg (show ¬ z k = 35 by rw [ea]; exact fun h => c_383 ((nI_eq (b := 35) (by omega) (by decide)).mp h)), if_neg (fun h => absurd (ea.symm.trans h.1) (nI_neg (by omega) (by decide))), ea, tgtM, if_neg (nI_neg (by omega) (by decide)), nI_clamp (by omega)]⟩, by rw [ht]; exact hP, hD⟩, hS.F ht⟩) hS.2.2 dX6_whyNot_72
        · exact absurd c_385 (nI_neg (by omega) (by decide))
      · exact absurd c_384 (nI_neg (by omega) (by decide))
    · refine lv_iconst (v := 1) hx hb dX6_whyNot_19 (by decide) ?_
      subst hQ
      exact W.iret (v := 1) hx hb hr (fun t ht hW => ⟨⟨1, go, rfl, ⟨by rw [mwn, if_pos (show z k = 35 by rw [ea, c_383]; rfl)], by rw [mgo, if_pos (show z k = 35 by rw [ea, c_383]; rfl)]⟩, by rw [ht]; exact hP, hD⟩, hS.F ht⟩) hS.2.2 dX6_whyNot_20

abbrev rm_X6_otherOn : Room := { frames := 3, cells := 0, slots := 0, locals := 64 }
set_option maxHeartbeats 1000000 in
set_option maxRecDepth 100000 in
theorem c_X6_otherOn (l : Launch) (G : va_G) (cI cC cZ cG : ClassId) (sz : Nat) (qm qz qa qe qs qv qp qn : Nat) (z as be sl sv pd nd : IA) (sts len : Nat) (go : Int32) (pn : Nat) (f0 : Int32) (hp : pn < 4) : Met l yX6_otherOn (.code yX6_otherOn cX6_otherOn 5 (some .int) :: wsL_law) rm_X6_otherOn (va_Pc [.ref qm, .int (nI pn), .int f0] (bw G cI cC cZ cG false sz [(qm, .inr (6, [.ref qz, .ref qa, .ref qe, .int (nI sts), .ref qs, .ref qv, .ref qp, .int (nI len), .int go, .ref qn])), (qz, .inl (cI, 46, .inl z)), (qa, .inl (cI, 46, .inl as)), (qe, .inl (cI, 276, .inl be)), (qs, .inl (cI, 92, .inl sl)), (qv, .inl (cZ, 2, .inl sv)), (qp, .inl (cI, 60, .inl pd)), (qn, .inl (cI, 36, .inl nd))])) (vp_Si (fun r => r = ot z pn f0)) 0 0 (fun _ => False) := by
  refine met_bw rfl (Nat.le_of_ble_eq_true rfl) ?_
  intro p e s m below meth c ls hx hb hr hml hown hts hlocks hin hsz hP hK hD0 hX0 hl
  have hown : s.vm.findClass RX6 = some m.cls := hown
  have hl : lv_has ls 5 [(0, .ref qm), (1, .int (nI pn)), (2, .int f0)] := hl
  generalize hQ : MQ below (vp_Si (fun r => r = ot z pn f0)) ([.ref qm, .int (nI pn), .int f0] : List Value).toArray s 0 0 (fun _ => False) = Q
  generalize hag : ([.ref qm, .int (nI pn), .int f0] : List Value).toArray = ag at hts hQ ⊢
  refine lv_bipush (v := (-6)) hx hb dX6_otherOn_0 (by decide) ?_
  refine lv_istore_n (lv' := [(3, .int (-6)), (0, .ref qm), (1, .int (nI pn)), (2, .int f0)]) hx hb dX6_otherOn_2 rfl hl (by decide) rfl (fun ls hl => ?_)
  refine lv_iconst (v := 0) hx hb dX6_otherOn_3 (by decide) ?_
  refine lv_istore (lv' := [(4, .int 0), (3, .int (-6)), (0, .ref qm), (1, .int (nI pn)), (2, .int f0)]) hx hb dX6_otherOn_4 hl (by decide) rfl (fun ls hl => ?_)
  have L1 : ∀ (n : Nat), ∀ (i : Nat), ∀ (f : Int32), ∀ (hi : i ≤ 12), ∀ (hf2 : f = hip (otP z pn f0) i), ∀ (hn : 13 ≤ i + n), ∀ (ls : Array Slot), lv_has ls 5 [(4, .int (nI i)), (3, .int f), (0, .ref qm), (1, .int (nI pn)), (2, .int f0)] → W p l e rm_X6_otherOn s m ag below meth c s.heap [] 0 0 Q (F0 m 6 ls []) := by
    intro n
    induction n with
    | zero =>
      intro i f hi hf2 hn ls hl
      omega
    | succ n ih1 =>
      intro i f hi hf2 hn ls hl
      refine lv_iload hx hb dX6_otherOn_6 (lv_at hl 0 rfl) ?_
      refine lv_bipush (v := 12) hx hb dX6_otherOn_8 (by decide) ?_
      refine zi_ge (tgt := 48) hx hb i 12 dX6_otherOn_10 (by decide) rfl rfl (by omega) (by decide) (fun c_408 => ?_) (fun c_408 => ?_)
      · refine lv_iload_n hx hb dX6_otherOn_48 rfl (lv_at hl 1 rfl) ?_
        subst hQ
        exact W.iret (v := f) hx hb hr (fun t ht hW => ⟨f, rfl, by rw [hf2, show i = 12 by omega]; rfl, ht⟩) (fun _ h => absurd h List.not_mem_nil) dX6_otherOn_49
      · refine lv_iload hx hb dX6_otherOn_13 (lv_at hl 0 rfl) ?_
        refine lv_iconst (v := 3) hx hb dX6_otherOn_15 (by decide) ?_
        refine zi_div hx hb i 3 dX6_otherOn_16 rfl rfl (by omega) (by decide) (by decide) ?_
        refine lv_iload_n hx hb dX6_otherOn_17 rfl (lv_at hl 3 rfl) ?_
        refine zi_eq (tgt := 40) hx hb (i / 3) pn dX6_otherOn_18 (by decide) rfl rfl (by omega) (by omega) (fun c_409 => ?_) (fun c_409 => ?_)
        · refine lv_iload_n hx hb dX6_otherOn_40 rfl (lv_at hl 1 rfl) ?_
          refine lv_istore_n (lv' := [(3, .int f), (4, .int (nI i)), (0, .ref qm), (1, .int (nI pn)), (2, .int f0)]) hx hb dX6_otherOn_41 rfl hl (by decide) rfl (fun ls hl => ?_)
          refine lv_iinc (v := nI (i + 1)) (lv' := [(4, .int (nI (i + 1))), (3, .int f), (0, .ref qm), (1, .int (nI pn)), (2, .int f0)]) hx hb dX6_otherOn_42 hl (k := 1) rfl (nI_inc i) (by decide) rfl (fun ls hl => ?_)
          refine lv_goto (tgt := 6) hx hb dX6_otherOn_45 (by decide) ?_
          exact ih1 (i + 1) f (by omega) (by rw [hip, ← hf2]; simp [otP, c_408, c_409]) (by omega) _ (lv_sub hl [0, 1, 2, 3, 4] rfl)
        · refine lv_iload_n hx hb dX6_otherOn_21 rfl (lv_at hl 4 rfl) ?_
          refine lv_if_lt (tgt := 40) hx hb dX6_otherOn_22 (by decide) (fun c_410 => ?_) (fun c_410 => ?_)
          · refine lv_iload_n hx hb dX6_otherOn_40 rfl (lv_at hl 1 rfl) ?_
            refine lv_istore_n (lv' := [(3, .int f), (4, .int (nI i)), (0, .ref qm), (1, .int (nI pn)), (2, .int f0)]) hx hb dX6_otherOn_41 rfl hl (by decide) rfl (fun ls hl => ?_)
            refine lv_iinc (v := nI (i + 1)) (lv' := [(4, .int (nI (i + 1))), (3, .int f), (0, .ref qm), (1, .int (nI pn)), (2, .int f0)]) hx hb dX6_otherOn_42 hl (k := 1) rfl (nI_inc i) (by decide) rfl (fun ls hl => ?_)
            refine lv_goto (tgt := 6) hx hb dX6_otherOn_45 (by decide) ?_
            exact ih1 (i + 1) f (by omega) (by rw [hip, ← hf2]; simp [otP, c_408, c_409, c_410]) (by omega) _ (lv_sub hl [0, 1, 2, 3, 4] rfl)
          · refine lv_aload_n hx hb dX6_otherOn_25 rfl (lv_at hl 2 rfl) ?_
            refine lv_iload hx hb dX6_otherOn_26 (lv_at hl 0 rfl) ?_
            have hPc : va_P G vwCl [(qm, .inr (6, [.ref qz, .ref qa, .ref qe, .int (nI sts), .ref qs, .ref qv, .ref qp, .int (nI len), .int go, .ref qn])), (qz, .inl (cI, 46, .inl z)), (qa, .inl (cI, 46, .inl as)), (qe, .inl (cI, 276, .inl be)), (qs, .inl (cI, 92, .inl sl)), (qv, .inl (cZ, 2, .inl sv)), (qp, .inl (cI, 60, .inl pd)), (qn, .inl (cI, 36, .inl nd))] s.heap := hP
            have hDc := hD0
            refine vp_callSi (va_Run.run (va_runV (As := [.int (nI i)]) (rest := []) ⟨hx, hb, hml, hown, hts⟩ (c_X6_fieldOf l G cI cC cZ cG s.heap.size qm qz qa qe qs qv qp qn z as be sl sv pd nd sts len go i (by omega)) (cf_RX6_44 hts ⟨Nat.le_of_ble_eq_true rfl, Nat.le_of_ble_eq_true rfl⟩) (pre_V hK hPc hDc (ci := 6) (q0 := 0) rfl rfl) rfl rfl hl.1 rfl (lv_room (Nat.le_of_ble_eq_true rfl)) dX6_otherOn_28 ⟨Nat.le_of_ble_eq_true rfl, Nat.le_of_ble_eq_true rfl⟩)) (fun r411 hr411 => ?_)
            subst hr411
            refine lv_iload_n hx hb dX6_otherOn_31 rfl (lv_at hl 4 rfl) ?_
            refine lv_icmp_ne (tgt := 40) hx hb dX6_otherOn_32 (by decide) (fun c_412 => ?_) (fun c_412 => ?_)
            · refine lv_iload_n hx hb dX6_otherOn_40 rfl (lv_at hl 1 rfl) ?_
              refine lv_istore_n (lv' := [(3, .int f), (4, .int (nI i)), (0, .ref qm), (1, .int (nI pn)), (2, .int f0)]) hx hb dX6_otherOn_41 rfl hl (by decide) rfl (fun ls hl => ?_)
              refine lv_iinc (v := nI (i + 1)) (lv' := [(4, .int (nI (i + 1))), (3, .int f), (0, .ref qm), (1, .int (nI pn)), (2, .int f0)]) hx hb dX6_otherOn_42 hl (k := 1) rfl (nI_inc i) (by decide) rfl (fun ls hl => ?_)
              refine lv_goto (tgt := 6) hx hb dX6_otherOn_45 (by decide) ?_
              exact ih1 (i + 1) f (by omega) (by rw [hip, ← hf2]; simp [otP, c_408, c_409, c_410, c_412]) (by omega) _ (lv_sub hl [0, 1, 2, 3, 4] rfl)
            · refine lv_iload hx hb dX6_otherOn_35 (lv_at hl 0 rfl) ?_
              refine lv_goto (tgt := 41) hx hb dX6_otherOn_37 (by decide) ?_
              refine lv_istore_n (lv' := [(3, .int (nI i)), (4, .int (nI i)), (0, .ref qm), (1, .int (nI pn)), (2, .int f0)]) hx hb dX6_otherOn_41 rfl hl (by decide) rfl (fun ls hl => ?_)
              refine lv_iinc (v := nI (i + 1)) (lv' := [(4, .int (nI (i + 1))), (3, .int (nI i)), (0, .ref qm), (1, .int (nI pn)), (2, .int f0)]) hx hb dX6_otherOn_42 hl (k := 1) rfl (nI_inc i) (by decide) rfl (fun ls hl => ?_)
              refine lv_goto (tgt := 6) hx hb dX6_otherOn_45 (by decide) ?_
              exact ih1 (i + 1) (nI i) (by omega) (by rw [hip, ← hf2]; simp [otP, c_408, c_409, c_410, c_412]) (by omega) _ (lv_sub hl [0, 1, 2, 3, 4] rfl)
  exact L1 13 0 (-6) (by decide) rfl (by decide) _ (lv_sub hl [0, 1, 2, 3, 4] rfl)

abbrev rm_X6_doMove : Room := { frames := 6, cells := 0, slots := 0, locals := 138 }
theorem cf_RX6_88 {R : Room} {s : State} {args : Array Value} (ht : ∀ w ∈ wsL_law, w.before args s = true) (hR : rm_X6_whyNot.frames + 1 ≤ R.frames ∧ 8 + (7 + 11) + rm_X6_whyNot.locals ≤ R.locals) : CallW R s args RX6 RX6 88 yX6_whyNot cX6_whyNot 7 (some .int) (.code yX6_whyNot cX6_whyNot 7 (some .int) :: wsL_law) rm_X6_whyNot 0 0 2 := ⟨cw_B 2 ht wd263 wd5 wd266 (by decide +kernel) rfl rfl hR, ht _ wd264, ht _ wd265⟩
theorem cf_RX6_91 {R : Room} {s : State} {args : Array Value} (ht : ∀ w ∈ wsL_law, w.before args s = true) (hR : rm_X6_otherOn.frames + 1 ≤ R.frames ∧ 8 + (5 + 11) + rm_X6_otherOn.locals ≤ R.locals) : CallW R s args RX6 RX6 91 yX6_otherOn cX6_otherOn 5 (some .int) (.code yX6_otherOn cX6_otherOn 5 (some .int) :: wsL_law) rm_X6_otherOn 0 0 2 := ⟨cw_B 2 ht wd305 wd5 wd308 (by decide +kernel) rfl rfl hR, ht _ wd306, ht _ wd307⟩
theorem cf_RX6_94 {R : Room} {s : State} {args : Array Value} (ht : ∀ w ∈ wsL_law, w.before args s = true) (hR : rm_X6_lookAtBridges.frames + 1 ≤ R.frames ∧ 8 + (3 + 11) + rm_X6_lookAtBridges.locals ≤ R.locals) : CallW R s args RX6 RX6 94 yX6_lookAtBridges cX6_lookAtBridges 3 none (.code yX6_lookAtBridges cX6_lookAtBridges 3 none :: wsL_law) rm_X6_lookAtBridges 0 0 0 := ⟨cw_B 0 ht wd309 wd5 wd312 (by decide +kernel) rfl rfl hR, ht _ wd310, ht _ wd311⟩
set_option maxHeartbeats 1000000 in
set_option maxRecDepth 100000 in
theorem c_X6_doMove (l : Launch) (G : va_G) (cI cC cZ cG : ClassId) (sz : Nat) (qm qz qa qe qs qv qp qn : Nat) (z as be sl sv pd nd : IA) (sts len : Nat) (go : Int32) (k cn : Nat) (hz : ∀ k, k < 12 → okv (z k)) (hk : k < 12) (hc1 : 1 ≤ cn) (hc : cn ≤ 6) (h0 : mwn z k cn = 0) : Met l yX6_doMove (.code yX6_doMove cX6_doMove 4 none :: wsL_law) rm_X6_doMove (va_Pc [.ref qm, .int (nI k), .int (nI cn)] (bw G cI cC cZ cG false sz [(qm, .inr (6, [.ref qz, .ref qa, .ref qe, .int (nI sts), .ref qs, .ref qv, .ref qp, .int (nI len), .int go, .ref qn])), (qz, .inl (cI, 46, .inl z)), (qa, .inl (cI, 46, .inl as)), (qe, .inl (cI, 276, .inl be)), (qs, .inl (cI, 92, .inl sl)), (qv, .inl (cZ, 2, .inl sv)), (qp, .inl (cI, 60, .inl pd)), (qn, .inl (cI, 36, .inl nd))])) (va_Qv (fun (u : IA × Int32) => u.1 = mvM z k (tgtM z (k / 3) (z k) cn)) (fun (u : IA × Int32) t => va_P G vwCl [(qm, .inr (6, [.ref qz, .ref qa, .ref qe, .int (nI sts), .ref qs, .ref qv, .ref qp, .int (nI len), .int u.2, .ref qn])), (qz, .inl (cI, 46, .inl u.1)), (qa, .inl (cI, 46, .inl as)), (qe, .inl (cI, 276, .inl be)), (qs, .inl (cI, 92, .inl sl)), (qv, .inl (cZ, 2, .inl sv)), (qp, .inl (cI, 60, .inl pd)), (qn, .inl (cI, 36, .inl nd))] t.heap ∧ va_D (va_A [(qm, .inr (6, [.ref qz, .ref qa, .ref qe, .int (nI sts), .ref qs, .ref qv, .ref qp, .int (nI len), .int go, .ref qn])), (qz, .inl (cI, 46, .inl z)), (qa, .inl (cI, 46, .inl as)), (qe, .inl (cI, 276, .inl be)), (qs, .inl (cI, 92, .inl sl)), (qv, .inl (cZ, 2, .inl sv)), (qp, .inl (cI, 60, .inl pd)), (qn, .inl (cI, 36, .inl nd))] sz) [(qm, .inr (6, [.ref qz, .ref qa, .ref qe, .int (nI sts), .ref qs, .ref qv, .ref qp, .int (nI len), .int u.2, .ref qn])), (qz, .inl (cI, 46, .inl u.1)), (qa, .inl (cI, 46, .inl as)), (qe, .inl (cI, 276, .inl be)), (qs, .inl (cI, 92, .inl sl)), (qv, .inl (cZ, 2, .inl sv)), (qp, .inl (cI, 60, .inl pd)), (qn, .inl (cI, 36, .inl nd))]) (va_A [(qm, .inr (6, [.ref qz, .ref qa, .ref qe, .int (nI sts), .ref qs, .ref qv, .ref qp, .int (nI len), .int go, .ref qn])), (qz, .inl (cI, 46, .inl z)), (qa, .inl (cI, 46, .inl as)), (qe, .inl (cI, 276, .inl be)), (qs, .inl (cI, 92, .inl sl)), (qv, .inl (cZ, 2, .inl sv)), (qp, .inl (cI, 60, .inl pd)), (qn, .inl (cI, 36, .inl nd))] sz)) 0 0 (va_A [(qm, .inr (6, [.ref qz, .ref qa, .ref qe, .int (nI sts), .ref qs, .ref qv, .ref qp, .int (nI len), .int go, .ref qn])), (qz, .inl (cI, 46, .inl z)), (qa, .inl (cI, 46, .inl as)), (qe, .inl (cI, 276, .inl be)), (qs, .inl (cI, 92, .inl sl)), (qv, .inl (cZ, 2, .inl sv)), (qp, .inl (cI, 60, .inl pd)), (qn, .inl (cI, 36, .inl nd))] sz) := by
  refine met_bw rfl (Nat.le_of_ble_eq_true rfl) ?_
  intro p e s m below meth c ls hx hb hr hml hown hts hlocks hin hsz hP hK hD0 hX0 hl
  have hown : s.vm.findClass RX6 = some m.cls := hown
  have hl : lv_has ls 4 [(0, .ref qm), (1, .int (nI k)), (2, .int (nI cn))] := hl
  subst hsz
  have hD := hD0.self (sz := s.heap.size)
  generalize hAe : va_A [(qm, .inr (6, [.ref qz, .ref qa, .ref qe, .int (nI sts), .ref qs, .ref qv, .ref qp, .int (nI len), .int go, .ref qn])), (qz, .inl (cI, 46, .inl z)), (qa, .inl (cI, 46, .inl as)), (qe, .inl (cI, 276, .inl be)), (qs, .inl (cI, 92, .inl sl)), (qv, .inl (cZ, 2, .inl sv)), (qp, .inl (cI, 60, .inl pd)), (qn, .inl (cI, 36, .inl nd))] s.heap.size = A at hD ⊢
  have hA : ∀ q : Nat, s.heap.size ≤ q → A q := fun q h => by rw [← hAe]; exact Or.inr h
  have hS : va_S A s.heap s.heap [] := va_S.rf
  refine lv_aload_n hx hb dX6_doMove_0 rfl (lv_at hl 0 rfl) ?_
  refine lv_iload_n hx hb dX6_doMove_1 rfl (lv_at hl 1 rfl) ?_
  refine lv_iload_n hx hb dX6_doMove_2 rfl (lv_at hl 2 rfl) ?_
  have hPc : va_P G vwCl [(qm, .inr (6, [.ref qz, .ref qa, .ref qe, .int (nI sts), .ref qs, .ref qv, .ref qp, .int (nI len), .int go, .ref qn])), (qz, .inl (cI, 46, .inl z)), (qa, .inl (cI, 46, .inl as)), (qe, .inl (cI, 276, .inl be)), (qs, .inl (cI, 92, .inl sl)), (qv, .inl (cZ, 2, .inl sv)), (qp, .inl (cI, 60, .inl pd)), (qn, .inl (cI, 36, .inl nd))] s.heap := hP
  have hDc := hD.tt
  have hFc := va_free (wc := [(qm, .inr (6, [.ref qz, .ref qa, .ref qe, .int (nI sts), .ref qs, .ref qv, .ref qp, .int (nI len), .int go, .ref qn])), (qz, .inl (cI, 46, .inl z)), (qa, .inl (cI, 46, .inl as)), (qe, .inl (cI, 276, .inl be)), (qs, .inl (cI, 92, .inl sl)), (qv, .inl (cZ, 2, .inl sv)), (qp, .inl (cI, 60, .inl pd)), (qn, .inl (cI, 36, .inl nd))]) hD hS hA [0, 1, 2, 3, 4, 5, 6, 7] rfl
  refine va_calli (va_runV (As := [.int (nI k), .int (nI cn)]) (rest := []) ⟨hx, hb, hml, hown, hts⟩ (c_X6_whyNot l G cI cC cZ cG s.heap.size qm qz qa qe qs qv qp qn z as be sl sv pd nd sts len go k cn hz (by omega) hc1 hc) (cf_RX6_88 hts ⟨Nat.le_of_ble_eq_true rfl, Nat.le_of_ble_eq_true rfl⟩) (pre_V hK hPc hDc (ci := 6) (q0 := 0) rfl rfl) rfl rfl hl.1 rfl (lv_room (Nat.le_of_ble_eq_true rfl)) dX6_doMove_3 ⟨Nat.le_of_ble_eq_true rfl, Nat.le_of_ble_eq_true rfl⟩) hS (fun q _ h => hFc q h) hFc (fun r413 u413 t413 H413 locs413 ht413 hvm413 hw413 hB413 hz413 hk413 hS => ?_)
  obtain ⟨go413, rfl⟩ : ∃ z, z = u413 := ⟨_, rfl⟩
  obtain ⟨hP1, hD1⟩ := hB413
  rw [ht413] at hP1
  try dsimp only at hw413
  obtain ⟨hr413, hw413⟩ := hw413
  subst hr413
  obtain ⟨hP, hD⟩ := va_join (wr := []) (w1 := [(qm, .inr (6, [.ref qz, .ref qa, .ref qe, .int (nI sts), .ref qs, .ref qv, .ref qp, .int (nI len), .int go413, .ref qn])), (qz, .inl (cI, 46, .inl z)), (qa, .inl (cI, 46, .inl as)), (qe, .inl (cI, 276, .inl be)), (qs, .inl (cI, 92, .inl sl)), (qv, .inl (cZ, 2, .inl sv)), (qp, .inl (cI, 60, .inl pd)), (qn, .inl (cI, 36, .inl nd))]) hP hD [0, 1, 2, 3, 4, 5, 6, 7] [] rfl rfl (by decide) (by decide) hk413 hFc hP1 hD1
  have hP : va_P G vwCl [(qm, .inr (6, [.ref qz, .ref qa, .ref qe, .int (nI sts), .ref qs, .ref qv, .ref qp, .int (nI len), .int go413, .ref qn])), (qz, .inl (cI, 46, .inl z)), (qa, .inl (cI, 46, .inl as)), (qe, .inl (cI, 276, .inl be)), (qs, .inl (cI, 92, .inl sl)), (qv, .inl (cZ, 2, .inl sv)), (qp, .inl (cI, 60, .inl pd)), (qn, .inl (cI, 36, .inl nd))] H413 := hP
  have hD : va_D A [(qm, .inr (6, [.ref qz, .ref qa, .ref qe, .int (nI sts), .ref qs, .ref qv, .ref qp, .int (nI len), .int go413, .ref qn])), (qz, .inl (cI, 46, .inl z)), (qa, .inl (cI, 46, .inl as)), (qe, .inl (cI, 276, .inl be)), (qs, .inl (cI, 92, .inl sl)), (qv, .inl (cZ, 2, .inl sv)), (qp, .inl (cI, 60, .inl pd)), (qn, .inl (cI, 36, .inl nd))] := hD
  have ego : go413 = tgtM z (k / 3) (z k) cn := hw413.trans (mgo_free h0)
  rw [ego] at hP hD
  refine lv_pop hx hb dX6_doMove_6 rfl ?_
  refine lv_aload_n hx hb dX6_doMove_7 rfl (lv_at hl 0 rfl) ?_
  refine lv_iload_n hx hb dX6_doMove_8 rfl (lv_at hl 1 rfl) ?_
  refine lv_iconst (v := 3) hx hb dX6_doMove_9 (by decide) ?_
  refine zi_div hx hb k 3 dX6_doMove_10 rfl rfl (by omega) (by decide) (by decide) ?_
  refine lv_iload_n hx hb dX6_doMove_11 rfl (lv_at hl 1 rfl) ?_
  refine lv_iconst (v := 3) hx hb dX6_doMove_12 (by decide) ?_
  refine zi_div hx hb k 3 dX6_doMove_13 rfl rfl (by omega) (by decide) (by decide) ?_
  refine lv_aload_n hx hb dX6_doMove_14 rfl (lv_at hl 0 rfl) ?_
  refine va_get (D := G) (ci := 6) (v := .int (tgtM z (k / 3) (z k) cn)) (C := RX6) (T := TX6) (N := 10) hx hb hts inlX6 hown hK.1 hP 0 rfl rfl 8 (by decide) (hts _ wd267) (fun _ h9 => h9) rfl dX6_doMove_15 ?_
  refine vp_callSi (va_Run.run (va_runS (As := [.int (nI (k / 3)), .int (tgtM z (k / 3) (z k) cn)]) (rest := [.int (nI (k / 3)), .ref qm]) ⟨hx, hb, hml, hown, hts⟩ (c_X6_fieldAt l (k / 3) (tgtM z (k / 3) (z k) cn) (by omega)) (cf_RX6_36 hts ⟨Nat.le_of_ble_eq_true rfl, Nat.le_of_ble_eq_true rfl⟩) pre_P rfl rfl hl.1 rfl (lv_room (Nat.le_of_ble_eq_true rfl)) dX6_doMove_18 ⟨Nat.le_of_ble_eq_true rfl, Nat.le_of_ble_eq_true rfl⟩)) (fun r414 hr414 => ?_)
  subst hr414
  have hPc : va_P G vwCl [(qm, .inr (6, [.ref qz, .ref qa, .ref qe, .int (nI sts), .ref qs, .ref qv, .ref qp, .int (nI len), .int (tgtM z (k / 3) (z k) cn), .ref qn])), (qz, .inl (cI, 46, .inl z)), (qa, .inl (cI, 46, .inl as)), (qe, .inl (cI, 276, .inl be)), (qs, .inl (cI, 92, .inl sl)), (qv, .inl (cZ, 2, .inl sv)), (qp, .inl (cI, 60, .inl pd)), (qn, .inl (cI, 36, .inl nd))] H413 := hP
  have hDc := hD.tt
  refine vp_callSi (va_Run.run (va_runV (As := [.int (nI (k / 3)), .int (rf (k / 3) (tgtM z (k / 3) (z k) cn))]) (rest := []) ⟨hx, hb, hml, hown, hts⟩ (c_X6_otherOn l G cI cC cZ cG H413.size qm qz qa qe qs qv qp qn z as be sl sv pd nd sts len (tgtM z (k / 3) (z k) cn) (k / 3) (rf (k / 3) (tgtM z (k / 3) (z k) cn)) (by omega)) (cf_RX6_91 hts ⟨Nat.le_of_ble_eq_true rfl, Nat.le_of_ble_eq_true rfl⟩) (pre_V hK hPc hDc (ci := 6) (q0 := 0) rfl rfl) rfl rfl hl.1 rfl (lv_room (Nat.le_of_ble_eq_true rfl)) dX6_doMove_21 ⟨Nat.le_of_ble_eq_true rfl, Nat.le_of_ble_eq_true rfl⟩)) (fun r415 hr415 => ?_)
  subst hr415
  refine lv_istore_n (lv' := [(3, .int (ot z (k / 3) (rf (k / 3) (tgtM z (k / 3) (z k) cn)))), (0, .ref qm), (1, .int (nI k)), (2, .int (nI cn))]) hx hb dX6_doMove_24 rfl hl (by decide) rfl (fun ls hl => ?_)
  refine lv_iload_n hx hb dX6_doMove_25 rfl (lv_at hl 0 rfl) ?_
  refine lv_if_lt (tgt := 61) hx hb dX6_doMove_26 (by decide) (fun c_416 => ?_) (fun c_416 => ?_)
  · refine lv_aload_n hx hb dX6_doMove_61 rfl (lv_at hl 1 rfl) ?_
    refine va_get (D := G) (ci := 6) (v := .ref qz) (C := RX6) (T := TX6) (N := 10) hx hb hts inlX6 hown hK.1 hP 0 rfl rfl 0 (by decide) (hts _ wd78) (fun _ h9 => h9) rfl dX6_doMove_62 ?_
    refine lv_iload_n hx hb dX6_doMove_65 rfl (lv_at hl 2 rfl) ?_
    refine lv_aload_n hx hb dX6_doMove_66 rfl (lv_at hl 1 rfl) ?_
    refine va_get (D := G) (ci := 6) (v := .int (tgtM z (k / 3) (z k) cn)) (C := RX6) (T := TX6) (N := 10) hx hb hts inlX6 hown hK.1 hP 0 rfl rfl 8 (by decide) (hts _ wd267) (fun _ h9 => h9) rfl dX6_doMove_67 ?_
    refine za_st hx hb hK.1 hP hD hS 1 0 rfl rfl k rfl (by omega) (by decide) dX6_doMove_70 (fun H417 locs417 hP hD hS => ?_)
    have hP : va_P G vwCl [(qm, .inr (6, [.ref qz, .ref qa, .ref qe, .int (nI sts), .ref qs, .ref qv, .ref qp, .int (nI len), .int (tgtM z (k / 3) (z k) cn), .ref qn])), (qz, .inl (cI, 46, .inl (upd z k (tgtM z (k / 3) (z k) cn)))), (qa, .inl (cI, 46, .inl as)), (qe, .inl (cI, 276, .inl be)), (qs, .inl (cI, 92, .inl sl)), (qv, .inl (cZ, 2, .inl sv)), (qp, .inl (cI, 60, .inl pd)), (qn, .inl (cI, 36, .inl nd))] H417 := hP
    have hD : va_D A [(qm, .inr (6, [.ref qz, .ref qa, .ref qe, .int (nI sts), .ref qs, .ref qv, .ref qp, .int (nI len), .int (tgtM z (k / 3) (z k) cn), .ref qn])), (qz, .inl (cI, 46, .inl (upd z k (tgtM z (k / 3) (z k) cn)))), (qa, .inl (cI, 46, .inl as)), (qe, .inl (cI, 276, .inl be)), (qs, .inl (cI, 92, .inl sl)), (qv, .inl (cZ, 2, .inl sv)), (qp, .inl (cI, 60, .inl pd)), (qn, .inl (cI, 36, .inl nd))] := hD
    refine lv_aload_n hx hb dX6_doMove_71 rfl (lv_at hl 1 rfl) ?_
    have hPc : va_P G vwCl [(qm, .inr (6, [.ref qz, .ref qa, .ref qe, .int (nI sts), .ref qs, .ref qv, .ref qp, .int (nI len), .int (tgtM z (k / 3) (z k) cn), .ref qn])), (qz, .inl (cI, 46, .inl (upd z k (tgtM z (k / 3) (z k) cn)))), (qa, .inl (cI, 46, .inl as)), (qe, .inl (cI, 276, .inl be)), (qs, .inl (cI, 92, .inl sl)), (qv, .inl (cZ, 2, .inl sv)), (qp, .inl (cI, 60, .inl pd)), (qn, .inl (cI, 36, .inl nd))] H417 := hP
    have hDc := hD.tt
    have hFc := va_free (wc := [(qm, .inr (6, [.ref qz, .ref qa, .ref qe, .int (nI sts), .ref qs, .ref qv, .ref qp, .int (nI len), .int (tgtM z (k / 3) (z k) cn), .ref qn])), (qz, .inl (cI, 46, .inl (upd z k (tgtM z (k / 3) (z k) cn)))), (qa, .inl (cI, 46, .inl as)), (qe, .inl (cI, 276, .inl be)), (qs, .inl (cI, 92, .inl sl)), (qv, .inl (cZ, 2, .inl sv)), (qp, .inl (cI, 60, .inl pd)), (qn, .inl (cI, 36, .inl nd))]) hD hS hA [0, 1, 2, 3, 4, 5, 6, 7] rfl
    refine va_callv (va_runV (As := []) (rest := []) ⟨hx, hb, hml, hown, hts⟩ (c_X6_lookAtBridges l G cI cC cZ cG H417.size qm qz qa qe qs qv qp qn (upd z k (tgtM z (k / 3) (z k) cn)) as be sl sv pd nd sts len (tgtM z (k / 3) (z k) cn)) (cf_RX6_94 hts ⟨Nat.le_of_ble_eq_true rfl, Nat.le_of_ble_eq_true rfl⟩) (pre_V hK hPc hDc (ci := 6) (q0 := 0) rfl rfl) rfl rfl hl.1 rfl (lv_room (Nat.le_of_ble_eq_true rfl)) dX6_doMove_72 ⟨Nat.le_of_ble_eq_true rfl, Nat.le_of_ble_eq_true rfl⟩) hS (fun q _ h => hFc q h) hFc (fun u418 t418 H418 locs418 ht418 hvm418 hw418 hB418 hz418 hk418 hS => ?_)
    obtain ⟨z418, rfl⟩ : ∃ z, z = u418 := ⟨_, rfl⟩
    obtain ⟨hP1, hD1⟩ := hB418
    rw [ht418] at hP1
    try dsimp only at hw418
    obtain ⟨hP, hD⟩ := va_join (wr := []) (w1 := [(qm, .inr (6, [.ref qz, .ref qa, .ref qe, .int (nI sts), .ref qs, .ref qv, .ref qp, .int (nI len), .int (tgtM z (k / 3) (z k) cn), .ref qn])), (qz, .inl (cI, 46, .inl z418)), (qa, .inl (cI, 46, .inl as)), (qe, .inl (cI, 276, .inl be)), (qs, .inl (cI, 92, .inl sl)), (qv, .inl (cZ, 2, .inl sv)), (qp, .inl (cI, 60, .inl pd)), (qn, .inl (cI, 36, .inl nd))]) hP hD [0, 1, 2, 3, 4, 5, 6, 7] [] rfl rfl (by decide) (by decide) hk418 hFc hP1 hD1
    have hP : va_P G vwCl [(qm, .inr (6, [.ref qz, .ref qa, .ref qe, .int (nI sts), .ref qs, .ref qv, .ref qp, .int (nI len), .int (tgtM z (k / 3) (z k) cn), .ref qn])), (qz, .inl (cI, 46, .inl z418)), (qa, .inl (cI, 46, .inl as)), (qe, .inl (cI, 276, .inl be)), (qs, .inl (cI, 92, .inl sl)), (qv, .inl (cZ, 2, .inl sv)), (qp, .inl (cI, 60, .inl pd)), (qn, .inl (cI, 36, .inl nd))] H418 := hP
    have hD : va_D A [(qm, .inr (6, [.ref qz, .ref qa, .ref qe, .int (nI sts), .ref qs, .ref qv, .ref qp, .int (nI len), .int (tgtM z (k / 3) (z k) cn), .ref qn])), (qz, .inl (cI, 46, .inl z418)), (qa, .inl (cI, 46, .inl as)), (qe, .inl (cI, 276, .inl be)), (qs, .inl (cI, 92, .inl sl)), (qv, .inl (cZ, 2, .inl sv)), (qp, .inl (cI, 60, .inl pd)), (qn, .inl (cI, 36, .inl nd))] := hD
    exact W.vret hx hb hr (fun t ht hW => ⟨⟨(z418, tgtM z (k / 3) (z k) cn), rfl, by rw [mvM, if_pos c_416]; exact hw418, by rw [ht]; exact hP, hD⟩, hS.F ht⟩) hS.2.2 dX6_doMove_75
  · obtain ⟨o, ho, eo, -⟩ := ot_ok c_416
    rw [eo] at hl
    refine lv_aload_n hx hb dX6_doMove_29 rfl (lv_at hl 1 rfl) ?_
    refine va_get (D := G) (ci := 6) (v := .ref qz) (C := RX6) (T := TX6) (N := 10) hx hb hts inlX6 hown hK.1 hP 0 rfl rfl 0 (by decide) (hts _ wd78) (fun _ h9 => h9) rfl dX6_doMove_30 ?_
    refine lv_iload_n hx hb dX6_doMove_33 rfl (lv_at hl 0 rfl) ?_
    refine lv_bipush (v := (-6)) hx hb dX6_doMove_34 (by decide) ?_
    refine za_st hx hb hK.1 hP hD hS 1 0 rfl rfl o rfl (by omega) (by decide) dX6_doMove_36 (fun H419 locs419 hP hD hS => ?_)
    have hP : va_P G vwCl [(qm, .inr (6, [.ref qz, .ref qa, .ref qe, .int (nI sts), .ref qs, .ref qv, .ref qp, .int (nI len), .int (tgtM z (k / 3) (z k) cn), .ref qn])), (qz, .inl (cI, 46, .inl (upd z o (-6)))), (qa, .inl (cI, 46, .inl as)), (qe, .inl (cI, 276, .inl be)), (qs, .inl (cI, 92, .inl sl)), (qv, .inl (cZ, 2, .inl sv)), (qp, .inl (cI, 60, .inl pd)), (qn, .inl (cI, 36, .inl nd))] H419 := hP
    have hD : va_D A [(qm, .inr (6, [.ref qz, .ref qa, .ref qe, .int (nI sts), .ref qs, .ref qv, .ref qp, .int (nI len), .int (tgtM z (k / 3) (z k) cn), .ref qn])), (qz, .inl (cI, 46, .inl (upd z o (-6)))), (qa, .inl (cI, 46, .inl as)), (qe, .inl (cI, 276, .inl be)), (qs, .inl (cI, 92, .inl sl)), (qv, .inl (cZ, 2, .inl sv)), (qp, .inl (cI, 60, .inl pd)), (qn, .inl (cI, 36, .inl nd))] := hD
    refine lv_aload_n hx hb dX6_doMove_37 rfl (lv_at hl 1 rfl) ?_
    refine va_get (D := G) (ci := 6) (v := .ref qz) (C := RX6) (T := TX6) (N := 10) hx hb hts inlX6 hown hK.1 hP 0 rfl rfl 0 (by decide) (hts _ wd78) (fun _ h9 => h9) rfl dX6_doMove_38 ?_
    refine lv_bipush (v := 12) hx hb dX6_doMove_41 (by decide) ?_
    refine lv_iload_n hx hb dX6_doMove_43 rfl (lv_at hl 0 rfl) ?_
    refine zi_add hx hb 12 o dX6_doMove_44 rfl rfl ?_
    refine lv_dup2_11 hx hb dX6_doMove_45 rfl rfl ?_
    refine za_ld hx hb hK.1 hP 1 0 rfl rfl (12 + o) rfl (by omega) (by decide) dX6_doMove_46 ?_
    refine lv_iconst (v := 1) hx hb dX6_doMove_47 (by decide) ?_
    refine lv_iadd hx hb dX6_doMove_48 ?_
    refine za_st hx hb hK.1 hP hD hS 1 0 rfl rfl (12 + o) rfl (by omega) (by decide) dX6_doMove_49 (fun H420 locs420 hP hD hS => ?_)
    have hP : va_P G vwCl [(qm, .inr (6, [.ref qz, .ref qa, .ref qe, .int (nI sts), .ref qs, .ref qv, .ref qp, .int (nI len), .int (tgtM z (k / 3) (z k) cn), .ref qn])), (qz, .inl (cI, 46, .inl (upd (upd z o (-6)) (12 + o) (((upd z o (-6)) (12 + o)) + 1)))), (qa, .inl (cI, 46, .inl as)), (qe, .inl (cI, 276, .inl be)), (qs, .inl (cI, 92, .inl sl)), (qv, .inl (cZ, 2, .inl sv)), (qp, .inl (cI, 60, .inl pd)), (qn, .inl (cI, 36, .inl nd))] H420 := hP
    have hD : va_D A [(qm, .inr (6, [.ref qz, .ref qa, .ref qe, .int (nI sts), .ref qs, .ref qv, .ref qp, .int (nI len), .int (tgtM z (k / 3) (z k) cn), .ref qn])), (qz, .inl (cI, 46, .inl (upd (upd z o (-6)) (12 + o) (((upd z o (-6)) (12 + o)) + 1)))), (qa, .inl (cI, 46, .inl as)), (qe, .inl (cI, 276, .inl be)), (qs, .inl (cI, 92, .inl sl)), (qv, .inl (cZ, 2, .inl sv)), (qp, .inl (cI, 60, .inl pd)), (qn, .inl (cI, 36, .inl nd))] := hD
    refine lv_aload_n hx hb dX6_doMove_50 rfl (lv_at hl 1 rfl) ?_
    refine va_get (D := G) (ci := 6) (v := .ref qz) (C := RX6) (T := TX6) (N := 10) hx hb hts inlX6 hown hK.1 hP 0 rfl rfl 0 (by decide) (hts _ wd78) (fun _ h9 => h9) rfl dX6_doMove_51 ?_
    refine lv_bipush (v := 44) hx hb dX6_doMove_54 (by decide) ?_
    refine lv_dup2_11 hx hb dX6_doMove_56 rfl rfl ?_
    refine za_ld hx hb hK.1 hP 1 0 rfl rfl 44 rfl (by decide) (by decide) dX6_doMove_57 ?_
    refine lv_iconst (v := 1) hx hb dX6_doMove_58 (by decide) ?_
    refine lv_iadd hx hb dX6_doMove_59 ?_
    refine za_st hx hb hK.1 hP hD hS 1 0 rfl rfl 44 rfl (by decide) (by decide) dX6_doMove_60 (fun H421 locs421 hP hD hS => ?_)
    have hP : va_P G vwCl [(qm, .inr (6, [.ref qz, .ref qa, .ref qe, .int (nI sts), .ref qs, .ref qv, .ref qp, .int (nI len), .int (tgtM z (k / 3) (z k) cn), .ref qn])), (qz, .inl (cI, 46, .inl (upd (upd (upd z o (-6)) (12 + o) (((upd z o (-6)) (12 + o)) + 1)) 44 (((upd (upd z o (-6)) (12 + o) (((upd z o (-6)) (12 + o)) + 1)) 44) + 1)))), (qa, .inl (cI, 46, .inl as)), (qe, .inl (cI, 276, .inl be)), (qs, .inl (cI, 92, .inl sl)), (qv, .inl (cZ, 2, .inl sv)), (qp, .inl (cI, 60, .inl pd)), (qn, .inl (cI, 36, .inl nd))] H421 := hP
    have hD : va_D A [(qm, .inr (6, [.ref qz, .ref qa, .ref qe, .int (nI sts), .ref qs, .ref qv, .ref qp, .int (nI len), .int (tgtM z (k / 3) (z k) cn), .ref qn])), (qz, .inl (cI, 46, .inl (upd (upd (upd z o (-6)) (12 + o) (((upd z o (-6)) (12 + o)) + 1)) 44 (((upd (upd z o (-6)) (12 + o) (((upd z o (-6)) (12 + o)) + 1)) 44) + 1)))), (qa, .inl (cI, 46, .inl as)), (qe, .inl (cI, 276, .inl be)), (qs, .inl (cI, 92, .inl sl)), (qv, .inl (cZ, 2, .inl sv)), (qp, .inl (cI, 60, .inl pd)), (qn, .inl (cI, 36, .inl nd))] := hD
    refine lv_aload_n hx hb dX6_doMove_61 rfl (lv_at hl 1 rfl) ?_
    refine va_get (D := G) (ci := 6) (v := .ref qz) (C := RX6) (T := TX6) (N := 10) hx hb hts inlX6 hown hK.1 hP 0 rfl rfl 0 (by decide) (hts _ wd78) (fun _ h9 => h9) rfl dX6_doMove_62 ?_
    refine lv_iload_n hx hb dX6_doMove_65 rfl (lv_at hl 2 rfl) ?_
    refine lv_aload_n hx hb dX6_doMove_66 rfl (lv_at hl 1 rfl) ?_
    refine va_get (D := G) (ci := 6) (v := .int (tgtM z (k / 3) (z k) cn)) (C := RX6) (T := TX6) (N := 10) hx hb hts inlX6 hown hK.1 hP 0 rfl rfl 8 (by decide) (hts _ wd267) (fun _ h9 => h9) rfl dX6_doMove_67 ?_
    refine za_st hx hb hK.1 hP hD hS 1 0 rfl rfl k rfl (by omega) (by decide) dX6_doMove_70 (fun H422 locs422 hP hD hS => ?_)
    have hP : va_P G vwCl [(qm, .inr (6, [.ref qz, .ref qa, .ref qe, .int (nI sts), .ref qs, .ref qv, .ref qp, .int (nI len), .int (tgtM z (k / 3) (z k) cn), .ref qn])), (qz, .inl (cI, 46, .inl (upd (upd (upd (upd z o (-6)) (12 + o) (((upd z o (-6)) (12 + o)) + 1)) 44 (((upd (upd z o (-6)) (12 + o) (((upd z o (-6)) (12 + o)) + 1)) 44) + 1)) k (tgtM z (k / 3) (z k) cn)))), (qa, .inl (cI, 46, .inl as)), (qe, .inl (cI, 276, .inl be)), (qs, .inl (cI, 92, .inl sl)), (qv, .inl (cZ, 2, .inl sv)), (qp, .inl (cI, 60, .inl pd)), (qn, .inl (cI, 36, .inl nd))] H422 := hP
    have hD : va_D A [(qm, .inr (6, [.ref qz, .ref qa, .ref qe, .int (nI sts), .ref qs, .ref qv, .ref qp, .int (nI len), .int (tgtM z (k / 3) (z k) cn), .ref qn])), (qz, .inl (cI, 46, .inl (upd (upd (upd (upd z o (-6)) (12 + o) (((upd z o (-6)) (12 + o)) + 1)) 44 (((upd (upd z o (-6)) (12 + o) (((upd z o (-6)) (12 + o)) + 1)) 44) + 1)) k (tgtM z (k / 3) (z k) cn)))), (qa, .inl (cI, 46, .inl as)), (qe, .inl (cI, 276, .inl be)), (qs, .inl (cI, 92, .inl sl)), (qv, .inl (cZ, 2, .inl sv)), (qp, .inl (cI, 60, .inl pd)), (qn, .inl (cI, 36, .inl nd))] := hD
    refine lv_aload_n hx hb dX6_doMove_71 rfl (lv_at hl 1 rfl) ?_
    have hPc : va_P G vwCl [(qm, .inr (6, [.ref qz, .ref qa, .ref qe, .int (nI sts), .ref qs, .ref qv, .ref qp, .int (nI len), .int (tgtM z (k / 3) (z k) cn), .ref qn])), (qz, .inl (cI, 46, .inl (upd (upd (upd (upd z o (-6)) (12 + o) (((upd z o (-6)) (12 + o)) + 1)) 44 (((upd (upd z o (-6)) (12 + o) (((upd z o (-6)) (12 + o)) + 1)) 44) + 1)) k (tgtM z (k / 3) (z k) cn)))), (qa, .inl (cI, 46, .inl as)), (qe, .inl (cI, 276, .inl be)), (qs, .inl (cI, 92, .inl sl)), (qv, .inl (cZ, 2, .inl sv)), (qp, .inl (cI, 60, .inl pd)), (qn, .inl (cI, 36, .inl nd))] H422 := hP
    have hDc := hD.tt
    have hFc := va_free (wc := [(qm, .inr (6, [.ref qz, .ref qa, .ref qe, .int (nI sts), .ref qs, .ref qv, .ref qp, .int (nI len), .int (tgtM z (k / 3) (z k) cn), .ref qn])), (qz, .inl (cI, 46, .inl (upd (upd (upd (upd z o (-6)) (12 + o) (((upd z o (-6)) (12 + o)) + 1)) 44 (((upd (upd z o (-6)) (12 + o) (((upd z o (-6)) (12 + o)) + 1)) 44) + 1)) k (tgtM z (k / 3) (z k) cn)))), (qa, .inl (cI, 46, .inl as)), (qe, .inl (cI, 276, .inl be)), (qs, .inl (cI, 92, .inl sl)), (qv, .inl (cZ, 2, .inl sv)), (qp, .inl (cI, 60, .inl pd)), (qn, .inl (cI, 36, .inl nd))]) hD hS hA [0, 1, 2, 3, 4, 5, 6, 7] rfl
    refine va_callv (va_runV (As := []) (rest := []) ⟨hx, hb, hml, hown, hts⟩ (c_X6_lookAtBridges l G cI cC cZ cG H422.size qm qz qa qe qs qv qp qn (upd (upd (upd (upd z o (-6)) (12 + o) (((upd z o (-6)) (12 + o)) + 1)) 44 (((upd (upd z o (-6)) (12 + o) (((upd z o (-6)) (12 + o)) + 1)) 44) + 1)) k (tgtM z (k / 3) (z k) cn)) as be sl sv pd nd sts len (tgtM z (k / 3) (z k) cn)) (cf_RX6_94 hts ⟨Nat.le_of_ble_eq_true rfl, Nat.le_of_ble_eq_true rfl⟩) (pre_V hK hPc hDc (ci := 6) (q0 := 0) rfl rfl) rfl rfl hl.1 rfl (lv_room (Nat.le_of_ble_eq_true rfl)) dX6_doMove_72 ⟨Nat.le_of_ble_eq_true rfl, Nat.le_of_ble_eq_true rfl⟩) hS (fun q _ h => hFc q h) hFc (fun u423 t423 H423 locs423 ht423 hvm423 hw423 hB423 hz423 hk423 hS => ?_)
    obtain ⟨z423, rfl⟩ : ∃ z, z = u423 := ⟨_, rfl⟩
    obtain ⟨hP1, hD1⟩ := hB423
    rw [ht423] at hP1
    try dsimp only at hw423
    obtain ⟨hP, hD⟩ := va_join (wr := []) (w1 := [(qm, .inr (6, [.ref qz, .ref qa, .ref qe, .int (nI sts), .ref qs, .ref qv, .ref qp, .int (nI len), .int (tgtM z (k / 3) (z k) cn), .ref qn])), (qz, .inl (cI, 46, .inl z423)), (qa, .inl (cI, 46, .inl as)), (qe, .inl (cI, 276, .inl be)), (qs, .inl (cI, 92, .inl sl)), (qv, .inl (cZ, 2, .inl sv)), (qp, .inl (cI, 60, .inl pd)), (qn, .inl (cI, 36, .inl nd))]) hP hD [0, 1, 2, 3, 4, 5, 6, 7] [] rfl rfl (by decide) (by decide) hk423 hFc hP1 hD1
    have hP : va_P G vwCl [(qm, .inr (6, [.ref qz, .ref qa, .ref qe, .int (nI sts), .ref qs, .ref qv, .ref qp, .int (nI len), .int (tgtM z (k / 3) (z k) cn), .ref qn])), (qz, .inl (cI, 46, .inl z423)), (qa, .inl (cI, 46, .inl as)), (qe, .inl (cI, 276, .inl be)), (qs, .inl (cI, 92, .inl sl)), (qv, .inl (cZ, 2, .inl sv)), (qp, .inl (cI, 60, .inl pd)), (qn, .inl (cI, 36, .inl nd))] H423 := hP
    have hD : va_D A [(qm, .inr (6, [.ref qz, .ref qa, .ref qe, .int (nI sts), .ref qs, .ref qv, .ref qp, .int (nI len), .int (tgtM z (k / 3) (z k) cn), .ref qn])), (qz, .inl (cI, 46, .inl z423)), (qa, .inl (cI, 46, .inl as)), (qe, .inl (cI, 276, .inl be)), (qs, .inl (cI, 92, .inl sl)), (qv, .inl (cZ, 2, .inl sv)), (qp, .inl (cI, 60, .inl pd)), (qn, .inl (cI, 36, .inl nd))] := hD
    exact W.vret hx hb hr (fun t ht hW => ⟨⟨(z423, tgtM z (k / 3) (z k) cn), rfl, by rw [mvM, if_neg c_416, eo, nI_clamp (show o < 2 ^ 31 by omega)]; exact hw423, by rw [ht]; exact hP, hD⟩, hS.F ht⟩) hS.2.2 dX6_doMove_75
