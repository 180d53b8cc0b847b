abbrev rm_L_isBoard : Room := { frames := 6, cells := 0, slots := 0, locals := 141 }
theorem cf_RL_65 {R : Room} {s : State} {args : Array Value} (ht : ∀ w ∈ wsL_law, w.before args s = true) (hR : rm_X5_count.frames + 1 ≤ R.frames ∧ 8 + (2 + 11) + rm_X5_count.locals ≤ R.locals) : CallW R s args RL RX5 65 yX5_count cX5_count 2 (some .int) (.code yX5_count cX5_count 2 (some .int) :: wsL_law) rm_X5_count 0 0 1 := ⟨cw_B 1 ht wd129 wd2 wd132 (by decide +kernel) rfl rfl hR, ht _ wd130, ht _ wd131⟩
theorem cf_RL_69 {R : Room} {s : State} {args : Array Value} (ht : ∀ w ∈ wsL_law, w.before args s = true) (hR : rm_X5_best.frames + 1 ≤ R.frames ∧ 8 + (2 + 11) + rm_X5_best.locals ≤ R.locals) : CallW R s args RL RX5 69 yX5_best cX5_best 2 (some .int) (.code yX5_best cX5_best 2 (some .int) :: wsL_law) rm_X5_best 0 0 0 := ⟨cw_B 0 ht wd149 wd2 wd152 (by decide +kernel) rfl rfl hR, ht _ wd150, ht _ wd151⟩
theorem cf_RL_64 {R : Room} {s : State} {args : Array Value} (ht : ∀ w ∈ wsL_law, w.before args s = true) (hR : rm_X5_field.frames + 1 ≤ R.frames ∧ 8 + (3 + 11) + rm_X5_field.locals ≤ R.locals) : CallW R s args RL RX5 64 yX5_field cX5_field 3 (some .int) (.code yX5_field cX5_field 3 (some .int) :: wsL_law) rm_X5_field 0 0 2 := ⟨cw_B 2 ht wd101 wd2 wd104 (by decide +kernel) rfl rfl hR, ht _ wd102, ht _ wd103⟩
theorem cf_RL_61 {R : Room} {s : State} {args : Array Value} (ht : ∀ w ∈ wsL_law, w.before args s = true) (hR : rm_X5_piece.frames + 1 ≤ R.frames ∧ 8 + (3 + 11) + rm_X5_piece.locals ≤ R.locals) : CallW R s args RL RX5 61 yX5_piece cX5_piece 3 (some .int) (.code yX5_piece cX5_piece 3 (some .int) :: wsL_law) rm_X5_piece 0 0 2 := ⟨cw_B 2 ht wd77 wd2 wd80 (by decide +kernel) rfl rfl hR, ht _ wd78, ht _ wd79⟩
set_option maxHeartbeats 1000000 in
set_option maxRecDepth 100000 in
theorem c_L_isBoard (l : Launch) (G : va_G) (cI cC cZ cG : ClassId) (sz : Nat) (qX wg qR qd qh qk : Nat) (qg qt qb qp qs qr qf : Nat) (pr sb br fe se : IA) (fl x : Int32) (pl : Nat) (th tu ca : Int32) (qx qy : Nat) (ln nx0 sz0 : Nat) (yp ys yb yg : Nat) (vp vs vb vg : IA) (T : Nat) (hR : LR (pr, sb, br, fe, se, fl, x, pl, th, tu, ca) T vp vs vb vg) : Met l yL_isBoard (.code yL_isBoard cL_isBoard 12 (some .boolean) :: wsL_law) rm_L_isBoard (va_Pc [.ref qX, .ref yp, .ref ys, .ref yb, .ref yg] (bw G cI cC cZ cG false sz [(qX, .inr (5, [.ref qg, .ref wg, .ref qR, .ref qd, .ref qh, .ref qk])), (qg, .inr (1, [.ref qb, .ref qt, .int x, .int (nI pl), .int th, .int tu, .int ca])), (qt, .inl (cI, 3, .inl se)), (qb, .inr (0, [.ref qp, .ref qs, .ref qr, .ref qf, .int fl])), (qp, .inl (cI, 12, .inl pr)), (qs, .inl (cI, 12, .inl sb)), (qr, .inl (cI, 4, .inl br)), (qf, .inl (cI, 4, .inl fe)), (qd, .inr (3, [.ref qx, .int (nI ln)])), (qh, .inr (2, [.ref qy, .int (nI nx0), .int (nI sz0)])), (yp, .inl (cI, 12, .inl vp)), (ys, .inl (cI, 12, .inl vs)), (yb, .inl (cI, 12, .inl vb)), (yg, .inl (cI, 10, .inl vg))])) (vp_Si (fun r => r = 1)) 0 0 (fun _ => False) := by
  refine met_bw rfl (Nat.le_of_ble_eq_true rfl) ?_
  intro p e s m below meth c ls hx hb hr hml hown hts hlocks hin hsz hP hK hD0 hX0 hl
  have hown : s.vm.findClass RL = some m.cls := hown
  have hl : lv_has ls 12 [(0, .ref qX), (1, .ref yp), (2, .ref ys), (3, .ref yb), (4, .ref yg)] := hl
  generalize hQ : MQ below (vp_Si (fun r => r = 1)) ([.ref qX, .ref yp, .ref ys, .ref yb, .ref yg] : List Value).toArray s 0 0 (fun _ => False) = Q
  generalize hag : ([.ref qX, .ref yp, .ref ys, .ref yb, .ref yg] : List Value).toArray = ag at hts hQ ⊢
  have hv := LR_v hR
  obtain ⟨hpr, hx0, hpl, hth⟩ := LR_X5 hR
  refine lv_bipush (v := (-6)) hx hb dL_isBoard_0 (by decide) ?_
  refine lv_istore (lv' := [(5, .int (-6)), (0, .ref qX), (1, .ref yp), (2, .ref ys), (3, .ref yb), (4, .ref yg)]) hx hb dL_isBoard_2 hl (by decide) rfl (fun ls hl => ?_)
  refine lv_iconst (v := 0) hx hb dL_isBoard_4 (by decide) ?_
  refine lv_istore (lv' := [(6, .int 0), (5, .int (-6)), (0, .ref qX), (1, .ref yp), (2, .ref ys), (3, .ref yb), (4, .ref yg)]) hx hb dL_isBoard_5 hl (by decide) rfl (fun ls hl => ?_)
  refine lv_iconst (v := 0) hx hb dL_isBoard_7 (by decide) ?_
  refine lv_istore (lv' := [(7, .int 0), (6, .int 0), (5, .int (-6)), (0, .ref qX), (1, .ref yp), (2, .ref ys), (3, .ref yb), (4, .ref yg)]) hx hb dL_isBoard_8 hl (by decide) rfl (fun ls hl => ?_)
  have L1 : ∀ (n : Nat), ∀ (i : Nat), ∀ (hi : i ≤ 12), ∀ (hn : 13 ≤ i + n), ∀ (ls : Array Slot), lv_has ls 12 [(7, .int (nI i)), (6, .int 0), (5, .int (-6)), (0, .ref qX), (1, .ref yp), (2, .ref ys), (3, .ref yb), (4, .ref yg)] → W p l e rm_L_isBoard s m ag below meth c s.heap [] 0 0 Q (F0 m 10 ls []) := by
    intro n
    induction n with
    | zero =>
      intro i hi hn ls hl
      omega
    | succ n ih1 =>
      intro i hi hn ls hl
      refine lv_iload hx hb dL_isBoard_10 (lv_at hl 0 rfl) ?_
      refine lv_bipush (v := 12) hx hb dL_isBoard_12 (by decide) ?_
      refine zi_ge (tgt := 115) hx hb i 12 dL_isBoard_14 (by decide) rfl rfl (by omega) (by decide) (fun c_748 => ?_) (fun c_748 => ?_)
      · refine lv_iconst (v := 0) hx hb dL_isBoard_115 (by decide) ?_
        refine lv_istore (lv' := [(7, .int 0), (6, .int 0), (5, .int (-6)), (0, .ref qX), (1, .ref yp), (2, .ref ys), (3, .ref yb), (4, .ref yg)]) hx hb dL_isBoard_116 hl (by decide) rfl (fun ls hl => ?_)
        have L2 : ∀ (n : Nat), ∀ (f0 : Nat), ∀ (fs : Int32), ∀ (hf0 : f0 ≤ 32), ∀ (hfs : fs = lfs vb f0), ∀ (hn2 : 33 ≤ f0 + n), ∀ (ls : Array Slot), lv_has ls 12 [(7, .int (nI f0)), (6, .int fs), (5, .int (-6)), (0, .ref qX), (1, .ref yp), (2, .ref ys), (3, .ref yb), (4, .ref yg)] → W p l e rm_L_isBoard s m ag below meth c s.heap [] 0 0 Q (F0 m 118 ls []) := by
          intro n
          induction n with
          | zero =>
            intro f0 fs hf0 hfs hn2 ls hl
            omega
          | succ n ih2 =>
            intro f0 fs hf0 hfs hn2 ls hl
            refine lv_iload hx hb dL_isBoard_118 (lv_at hl 0 rfl) ?_
            refine lv_bipush (v := 32) hx hb dL_isBoard_120 (by decide) ?_
            refine zi_ge (tgt := 370) hx hb f0 32 dL_isBoard_122 (by decide) rfl rfl (by omega) (by decide) (fun c_750 => ?_) (fun c_750 => ?_)
            · refine lv_iconst (v := 0) hx hb dL_isBoard_370 (by decide) ?_
              refine lv_istore (lv' := [(7, .int 0), (6, .int fs), (5, .int (-6)), (0, .ref qX), (1, .ref yp), (2, .ref ys), (3, .ref yb), (4, .ref yg)]) hx hb dL_isBoard_371 hl (by decide) rfl (fun ls hl => ?_)
              have L3 : ∀ (n : Nat), ∀ (k0 : Nat), ∀ (hk0 : k0 ≤ 8), ∀ (hn4 : 9 ≤ k0 + n), ∀ (ls : Array Slot), lv_has ls 12 [(7, .int (nI k0)), (6, .int fs), (5, .int (-6)), (0, .ref qX), (1, .ref yp), (2, .ref ys), (3, .ref yb), (4, .ref yg)] → W p l e rm_L_isBoard s m ag below meth c s.heap [] 0 0 Q (F0 m 373 ls []) := by
                intro n
                induction n with
                | zero =>
                  intro k0 hk0 hn4 ls hl
                  omega
                | succ n ih3 =>
                  intro k0 hk0 hn4 ls hl
                  refine lv_iload hx hb dL_isBoard_373 (lv_at hl 0 rfl) ?_
                  refine lv_bipush (v := 8) hx hb dL_isBoard_375 (by decide) ?_
                  refine zi_ge (tgt := 402) hx hb k0 8 dL_isBoard_377 (by decide) rfl rfl (by omega) (by decide) (fun c_752 => ?_) (fun c_752 => ?_)
                  · refine lv_iconst (v := 0) hx hb dL_isBoard_402 (by decide) ?_
                    refine lv_istore (lv' := [(7, .int 0), (6, .int fs), (5, .int (-6)), (0, .ref qX), (1, .ref yp), (2, .ref ys), (3, .ref yb), (4, .ref yg)]) hx hb dL_isBoard_403 hl (by decide) rfl (fun ls hl => ?_)
                    have L4 : ∀ (n : Nat), ∀ (p0 : Nat), ∀ (hp0 : p0 ≤ 4), ∀ (hn5 : 5 ≤ p0 + n), ∀ (ls : Array Slot), lv_has ls 12 [(7, .int (nI p0)), (6, .int fs), (5, .int (-6)), (0, .ref qX), (1, .ref yp), (2, .ref ys), (3, .ref yb), (4, .ref yg)] → W p l e rm_L_isBoard s m ag below meth c s.heap [] 0 0 Q (F0 m 405 ls []) := by
                      intro n
                      induction n with
                      | zero =>
                        intro p0 hp0 hn5 ls hl
                        omega
                      | succ n ih4 =>
                        intro p0 hp0 hn5 ls hl
                        refine lv_iload hx hb dL_isBoard_405 (lv_at hl 0 rfl) ?_
                        refine lv_iconst (v := 4) hx hb dL_isBoard_407 (by decide) ?_
                        refine zi_ge (tgt := 475) hx hb p0 4 dL_isBoard_408 (by decide) rfl rfl (by omega) (by decide) (fun c_754 => ?_) (fun c_754 => ?_)
                        · refine lv_aload_n hx hb dL_isBoard_475 rfl (lv_at hl 3 rfl) ?_
                          refine lv_bipush (v := 8) hx hb dL_isBoard_476 (by decide) ?_
                          have hPc := hP.sub (ws' := [(qX, .inr (5, [.ref qg, .ref wg, .ref qR, .ref qd, .ref qh, .ref qk])), (qg, .inr (1, [.ref qb, .ref qt, .int x, .int (nI pl), .int th, .int tu, .int ca])), (qt, .inl (cI, 3, .inl se)), (qb, .inr (0, [.ref qp, .ref qs, .ref qr, .ref qf, .int fl])), (qp, .inl (cI, 12, .inl pr)), (qs, .inl (cI, 12, .inl sb)), (qr, .inl (cI, 4, .inl br)), (qf, .inl (cI, 4, .inl fe)), (qd, .inr (3, [.ref qx, .int (nI ln)])), (qh, .inr (2, [.ref qy, .int (nI nx0), .int (nI sz0)]))]) [0, 1, 2, 3, 4, 5, 6, 7, 8, 9] rfl
                          have hDc := (hD0.sub (ws' := [(qX, .inr (5, [.ref qg, .ref wg, .ref qR, .ref qd, .ref qh, .ref qk])), (qg, .inr (1, [.ref qb, .ref qt, .int x, .int (nI pl), .int th, .int tu, .int ca])), (qt, .inl (cI, 3, .inl se)), (qb, .inr (0, [.ref qp, .ref qs, .ref qr, .ref qf, .int fl])), (qp, .inl (cI, 12, .inl pr)), (qs, .inl (cI, 12, .inl sb)), (qr, .inl (cI, 4, .inl br)), (qf, .inl (cI, 4, .inl fe)), (qd, .inr (3, [.ref qx, .int (nI ln)])), (qh, .inr (2, [.ref qy, .int (nI nx0), .int (nI sz0)]))]) [0, 1, 2, 3, 4, 5, 6, 7, 8, 9] (by decide) rfl).tt
                          refine vp_callSi (va_Run.run (va_runV (As := [.int 8]) (rest := []) ⟨hx, hb, hml, hown, hts⟩ (c_X5_count l G cI cC cZ cG s.heap.size qX wg qR qd qh qk qg qt qb qp qs qr qf pr sb br fe se fl x pl th tu ca qx qy ln nx0 sz0 8) (cf_RL_65 hts ⟨Nat.le_of_ble_eq_true rfl, Nat.le_of_ble_eq_true rfl⟩) (pre_V hK hPc hDc (ci := 5) (q0 := 0) rfl rfl) rfl rfl hl.1 rfl (lv_room (Nat.le_of_ble_eq_true rfl)) dL_isBoard_478 ⟨Nat.le_of_ble_eq_true rfl, Nat.le_of_ble_eq_true rfl⟩)) (fun r755 hr755 => ?_)
                          rw [hr755]
                          refine lv_aload_n hx hb dL_isBoard_481 rfl (lv_at hl 4 rfl) ?_
                          have hPc := hP.sub (ws' := [(yp, .inl (cI, 12, .inl vp))]) [10] rfl
                          have hDc := (hD0.sub (ws' := [(yp, .inl (cI, 12, .inl vp))]) [10] (by decide) rfl).tt
                          refine vp_callSi (va_Run.run (va_runS (As := [.ref yp]) (rest := [.int (p_count 8 pr sb br se fl x pl th tu ca ln sz0)]) ⟨hx, hb, hml, hown, hts⟩ (c_L_winner l G cI cC cZ cG s.heap.size yp vp) (cf_RL_39 hts ⟨Nat.le_of_ble_eq_true rfl, Nat.le_of_ble_eq_true rfl⟩) (pre_S hK hPc hDc) rfl rfl hl.1 rfl (lv_room (Nat.le_of_ble_eq_true rfl)) dL_isBoard_482 ⟨Nat.le_of_ble_eq_true rfl, Nat.le_of_ble_eq_true rfl⟩)) (fun r756 hr756 => ?_)
                          subst hr756
                          have hq757 : p_count 8 pr sb br se fl x pl th tu ca ln sz0 = lwi vp := (bc_8 hR)
                          refine lv_icmp_ne (tgt := 557) hx hb dL_isBoard_485 (by decide) (fun c_758 => ?_) (fun c_758 => ?_)
                          · exact absurd hq757 c_758
                          · refine lv_aload_n hx hb dL_isBoard_488 rfl (lv_at hl 3 rfl) ?_
                            refine lv_bipush (v := 13) hx hb dL_isBoard_489 (by decide) ?_
                            have hPc := hP.sub (ws' := [(qX, .inr (5, [.ref qg, .ref wg, .ref qR, .ref qd, .ref qh, .ref qk])), (qg, .inr (1, [.ref qb, .ref qt, .int x, .int (nI pl), .int th, .int tu, .int ca])), (qt, .inl (cI, 3, .inl se)), (qb, .inr (0, [.ref qp, .ref qs, .ref qr, .ref qf, .int fl])), (qp, .inl (cI, 12, .inl pr)), (qs, .inl (cI, 12, .inl sb)), (qr, .inl (cI, 4, .inl br)), (qf, .inl (cI, 4, .inl fe)), (qd, .inr (3, [.ref qx, .int (nI ln)])), (qh, .inr (2, [.ref qy, .int (nI nx0), .int (nI sz0)]))]) [0, 1, 2, 3, 4, 5, 6, 7, 8, 9] rfl
                            have hDc := (hD0.sub (ws' := [(qX, .inr (5, [.ref qg, .ref wg, .ref qR, .ref qd, .ref qh, .ref qk])), (qg, .inr (1, [.ref qb, .ref qt, .int x, .int (nI pl), .int th, .int tu, .int ca])), (qt, .inl (cI, 3, .inl se)), (qb, .inr (0, [.ref qp, .ref qs, .ref qr, .ref qf, .int fl])), (qp, .inl (cI, 12, .inl pr)), (qs, .inl (cI, 12, .inl sb)), (qr, .inl (cI, 4, .inl br)), (qf, .inl (cI, 4, .inl fe)), (qd, .inr (3, [.ref qx, .int (nI ln)])), (qh, .inr (2, [.ref qy, .int (nI nx0), .int (nI sz0)]))]) [0, 1, 2, 3, 4, 5, 6, 7, 8, 9] (by decide) rfl).tt
                            refine vp_callSi (va_Run.run (va_runV (As := [.int 13]) (rest := []) ⟨hx, hb, hml, hown, hts⟩ (c_X5_count l G cI cC cZ cG s.heap.size qX wg qR qd qh qk qg qt qb qp qs qr qf pr sb br fe se fl x pl th tu ca qx qy ln nx0 sz0 13) (cf_RL_65 hts ⟨Nat.le_of_ble_eq_true rfl, Nat.le_of_ble_eq_true rfl⟩) (pre_V hK hPc hDc (ci := 5) (q0 := 0) rfl rfl) rfl rfl hl.1 rfl (lv_room (Nat.le_of_ble_eq_true rfl)) dL_isBoard_491 ⟨Nat.le_of_ble_eq_true rfl, Nat.le_of_ble_eq_true rfl⟩)) (fun r759 hr759 => ?_)
                            rw [hr759]
                            refine lv_aload hx hb dL_isBoard_494 (lv_at hl 7 rfl) ?_
                            refine lv_bipush (v := 8) hx hb dL_isBoard_496 (by decide) ?_
                            refine za_ld hx hb hK.1 hP 13 0 rfl rfl 8 rfl (by decide) (by decide) dL_isBoard_498 ?_
                            have hq760 : p_count 13 pr sb br se fl x pl th tu ca ln sz0 = vg 8 := (bc_13 hR)
                            refine lv_icmp_ne (tgt := 557) hx hb dL_isBoard_499 (by decide) (fun c_761 => ?_) (fun c_761 => ?_)
                            · exact absurd hq760 c_761
                            · refine lv_aload_n hx hb dL_isBoard_502 rfl (lv_at hl 3 rfl) ?_
                              refine lv_bipush (v := 14) hx hb dL_isBoard_503 (by decide) ?_
                              have hPc := hP.sub (ws' := [(qX, .inr (5, [.ref qg, .ref wg, .ref qR, .ref qd, .ref qh, .ref qk])), (qg, .inr (1, [.ref qb, .ref qt, .int x, .int (nI pl), .int th, .int tu, .int ca])), (qt, .inl (cI, 3, .inl se)), (qb, .inr (0, [.ref qp, .ref qs, .ref qr, .ref qf, .int fl])), (qp, .inl (cI, 12, .inl pr)), (qs, .inl (cI, 12, .inl sb)), (qr, .inl (cI, 4, .inl br)), (qf, .inl (cI, 4, .inl fe)), (qd, .inr (3, [.ref qx, .int (nI ln)])), (qh, .inr (2, [.ref qy, .int (nI nx0), .int (nI sz0)]))]) [0, 1, 2, 3, 4, 5, 6, 7, 8, 9] rfl
                              have hDc := (hD0.sub (ws' := [(qX, .inr (5, [.ref qg, .ref wg, .ref qR, .ref qd, .ref qh, .ref qk])), (qg, .inr (1, [.ref qb, .ref qt, .int x, .int (nI pl), .int th, .int tu, .int ca])), (qt, .inl (cI, 3, .inl se)), (qb, .inr (0, [.ref qp, .ref qs, .ref qr, .ref qf, .int fl])), (qp, .inl (cI, 12, .inl pr)), (qs, .inl (cI, 12, .inl sb)), (qr, .inl (cI, 4, .inl br)), (qf, .inl (cI, 4, .inl fe)), (qd, .inr (3, [.ref qx, .int (nI ln)])), (qh, .inr (2, [.ref qy, .int (nI nx0), .int (nI sz0)]))]) [0, 1, 2, 3, 4, 5, 6, 7, 8, 9] (by decide) rfl).tt
                              refine vp_callSi (va_Run.run (va_runV (As := [.int 14]) (rest := []) ⟨hx, hb, hml, hown, hts⟩ (c_X5_count l G cI cC cZ cG s.heap.size qX wg qR qd qh qk qg qt qb qp qs qr qf pr sb br fe se fl x pl th tu ca qx qy ln nx0 sz0 14) (cf_RL_65 hts ⟨Nat.le_of_ble_eq_true rfl, Nat.le_of_ble_eq_true rfl⟩) (pre_V hK hPc hDc (ci := 5) (q0 := 0) rfl rfl) rfl rfl hl.1 rfl (lv_room (Nat.le_of_ble_eq_true rfl)) dL_isBoard_505 ⟨Nat.le_of_ble_eq_true rfl, Nat.le_of_ble_eq_true rfl⟩)) (fun r762 hr762 => ?_)
                              rw [hr762]
                              refine lv_iload hx hb dL_isBoard_508 (lv_at hl 1 rfl) ?_
                              have hq763 : p_count 14 pr sb br se fl x pl th tu ca ln sz0 = fs := (by rw [bc_14 hR, hfs, show f0 = 32 by omega])
                              refine lv_icmp_ne (tgt := 557) hx hb dL_isBoard_510 (by decide) (fun c_764 => ?_) (fun c_764 => ?_)
                              · exact absurd hq763 c_764
                              · refine lv_aload_n hx hb dL_isBoard_513 rfl (lv_at hl 3 rfl) ?_
                                refine lv_bipush (v := 15) hx hb dL_isBoard_514 (by decide) ?_
                                have hPc := hP.sub (ws' := [(qX, .inr (5, [.ref qg, .ref wg, .ref qR, .ref qd, .ref qh, .ref qk])), (qg, .inr (1, [.ref qb, .ref qt, .int x, .int (nI pl), .int th, .int tu, .int ca])), (qt, .inl (cI, 3, .inl se)), (qb, .inr (0, [.ref qp, .ref qs, .ref qr, .ref qf, .int fl])), (qp, .inl (cI, 12, .inl pr)), (qs, .inl (cI, 12, .inl sb)), (qr, .inl (cI, 4, .inl br)), (qf, .inl (cI, 4, .inl fe)), (qd, .inr (3, [.ref qx, .int (nI ln)])), (qh, .inr (2, [.ref qy, .int (nI nx0), .int (nI sz0)]))]) [0, 1, 2, 3, 4, 5, 6, 7, 8, 9] rfl
                                have hDc := (hD0.sub (ws' := [(qX, .inr (5, [.ref qg, .ref wg, .ref qR, .ref qd, .ref qh, .ref qk])), (qg, .inr (1, [.ref qb, .ref qt, .int x, .int (nI pl), .int th, .int tu, .int ca])), (qt, .inl (cI, 3, .inl se)), (qb, .inr (0, [.ref qp, .ref qs, .ref qr, .ref qf, .int fl])), (qp, .inl (cI, 12, .inl pr)), (qs, .inl (cI, 12, .inl sb)), (qr, .inl (cI, 4, .inl br)), (qf, .inl (cI, 4, .inl fe)), (qd, .inr (3, [.ref qx, .int (nI ln)])), (qh, .inr (2, [.ref qy, .int (nI nx0), .int (nI sz0)]))]) [0, 1, 2, 3, 4, 5, 6, 7, 8, 9] (by decide) rfl).tt
                                refine vp_callSi (va_Run.run (va_runV (As := [.int 15]) (rest := []) ⟨hx, hb, hml, hown, hts⟩ (c_X5_count l G cI cC cZ cG s.heap.size qX wg qR qd qh qk qg qt qb qp qs qr qf pr sb br fe se fl x pl th tu ca qx qy ln nx0 sz0 15) (cf_RL_65 hts ⟨Nat.le_of_ble_eq_true rfl, Nat.le_of_ble_eq_true rfl⟩) (pre_V hK hPc hDc (ci := 5) (q0 := 0) rfl rfl) rfl rfl hl.1 rfl (lv_room (Nat.le_of_ble_eq_true rfl)) dL_isBoard_516 ⟨Nat.le_of_ble_eq_true rfl, Nat.le_of_ble_eq_true rfl⟩)) (fun r765 hr765 => ?_)
                                rw [hr765]
                                refine lv_aload hx hb dL_isBoard_519 (lv_at hl 7 rfl) ?_
                                refine lv_bipush (v := 9) hx hb dL_isBoard_521 (by decide) ?_
                                refine za_ld hx hb hK.1 hP 13 0 rfl rfl 9 rfl (by decide) (by decide) dL_isBoard_523 ?_
                                have hq766 : p_count 15 pr sb br se fl x pl th tu ca ln sz0 = vg 9 := (bc_15 hR)
                                refine lv_icmp_ne (tgt := 557) hx hb dL_isBoard_524 (by decide) (fun c_767 => ?_) (fun c_767 => ?_)
                                · exact absurd hq766 c_767
                                · rcases (LR_5 hR).2 with ev5 | ⟨cn, hc1, hc, ev5⟩
                                  · refine lv_aload_n hx hb dL_isBoard_527 rfl (lv_at hl 3 rfl) ?_
                                    have hPc := hP.sub (ws' := [(qX, .inr (5, [.ref qg, .ref wg, .ref qR, .ref qd, .ref qh, .ref qk])), (qg, .inr (1, [.ref qb, .ref qt, .int x, .int (nI pl), .int th, .int tu, .int ca])), (qt, .inl (cI, 3, .inl se)), (qb, .inr (0, [.ref qp, .ref qs, .ref qr, .ref qf, .int fl])), (qp, .inl (cI, 12, .inl pr)), (qs, .inl (cI, 12, .inl sb)), (qr, .inl (cI, 4, .inl br)), (qf, .inl (cI, 4, .inl fe))]) [0, 1, 2, 3, 4, 5, 6, 7] rfl
                                    have hDc := (hD0.sub (ws' := [(qX, .inr (5, [.ref qg, .ref wg, .ref qR, .ref qd, .ref qh, .ref qk])), (qg, .inr (1, [.ref qb, .ref qt, .int x, .int (nI pl), .int th, .int tu, .int ca])), (qt, .inl (cI, 3, .inl se)), (qb, .inr (0, [.ref qp, .ref qs, .ref qr, .ref qf, .int fl])), (qp, .inl (cI, 12, .inl pr)), (qs, .inl (cI, 12, .inl sb)), (qr, .inl (cI, 4, .inl br)), (qf, .inl (cI, 4, .inl fe))]) [0, 1, 2, 3, 4, 5, 6, 7] (by decide) rfl).tt
                                    refine vp_callSi (va_Run.run (va_runV (As := []) (rest := []) ⟨hx, hb, hml, hown, hts⟩ (c_X5_best l G cI cC cZ cG s.heap.size qX wg qR qd qh qk qg qt qb qp qs qr qf pr sb br fe se fl x pl th tu ca hpr hx0 hpl hth) (cf_RL_69 hts ⟨Nat.le_of_ble_eq_true rfl, Nat.le_of_ble_eq_true rfl⟩) (pre_V hK hPc hDc (ci := 5) (q0 := 0) rfl rfl) rfl rfl hl.1 rfl (lv_room (Nat.le_of_ble_eq_true rfl)) dL_isBoard_528 ⟨Nat.le_of_ble_eq_true rfl, Nat.le_of_ble_eq_true rfl⟩)) (fun r768 hr768 => ?_)
                                    subst hr768
                                    refine lv_aload hx hb dL_isBoard_531 (lv_at hl 7 rfl) ?_
                                    refine lv_iconst (v := 5) hx hb dL_isBoard_533 (by decide) ?_
                                    refine za_ld hx hb hK.1 hP 13 0 rfl rfl 5 rfl (by decide) (by decide) dL_isBoard_534 ?_
                                    refine lv_if_ge (tgt := 543) hx hb dL_isBoard_535 (by decide) (fun c_769 => ?_) (fun c_769 => ?_)
                                    · exact absurd c_769 (by rw [ev5]; decide)
                                    · refine lv_bipush (v := (-5)) hx hb dL_isBoard_538 (by decide) ?_
                                      refine lv_goto (tgt := 550) hx hb dL_isBoard_540 (by decide) ?_
                                      have hq770 : p_best pr br se pl th = (-5) := (bb_n hR ev5)
                                      refine lv_icmp_ne (tgt := 557) hx hb dL_isBoard_550 (by decide) (fun c_771 => ?_) (fun c_771 => ?_)
                                      · exact absurd hq770 c_771
                                      · refine lv_iconst (v := 1) hx hb dL_isBoard_553 (by decide) ?_
                                        refine lv_goto (tgt := 558) hx hb dL_isBoard_554 (by decide) ?_
                                        subst hQ
                                        exact W.zret (v := 1) hx hb hr rfl (fun t ht hW => ⟨1, rfl, rfl, ht⟩) (fun _ h => absurd h List.not_mem_nil) dL_isBoard_558
                                  · refine lv_aload_n hx hb dL_isBoard_527 rfl (lv_at hl 3 rfl) ?_
                                    have hPc := hP.sub (ws' := [(qX, .inr (5, [.ref qg, .ref wg, .ref qR, .ref qd, .ref qh, .ref qk])), (qg, .inr (1, [.ref qb, .ref qt, .int x, .int (nI pl), .int th, .int tu, .int ca])), (qt, .inl (cI, 3, .inl se)), (qb, .inr (0, [.ref qp, .ref qs, .ref qr, .ref qf, .int fl])), (qp, .inl (cI, 12, .inl pr)), (qs, .inl (cI, 12, .inl sb)), (qr, .inl (cI, 4, .inl br)), (qf, .inl (cI, 4, .inl fe))]) [0, 1, 2, 3, 4, 5, 6, 7] rfl
                                    have hDc := (hD0.sub (ws' := [(qX, .inr (5, [.ref qg, .ref wg, .ref qR, .ref qd, .ref qh, .ref qk])), (qg, .inr (1, [.ref qb, .ref qt, .int x, .int (nI pl), .int th, .int tu, .int ca])), (qt, .inl (cI, 3, .inl se)), (qb, .inr (0, [.ref qp, .ref qs, .ref qr, .ref qf, .int fl])), (qp, .inl (cI, 12, .inl pr)), (qs, .inl (cI, 12, .inl sb)), (qr, .inl (cI, 4, .inl br)), (qf, .inl (cI, 4, .inl fe))]) [0, 1, 2, 3, 4, 5, 6, 7] (by decide) rfl).tt
                                    refine vp_callSi (va_Run.run (va_runV (As := []) (rest := []) ⟨hx, hb, hml, hown, hts⟩ (c_X5_best l G cI cC cZ cG s.heap.size qX wg qR qd qh qk qg qt qb qp qs qr qf pr sb br fe se fl x pl th tu ca hpr hx0 hpl hth) (cf_RL_69 hts ⟨Nat.le_of_ble_eq_true rfl, Nat.le_of_ble_eq_true rfl⟩) (pre_V hK hPc hDc (ci := 5) (q0 := 0) rfl rfl) rfl rfl hl.1 rfl (lv_room (Nat.le_of_ble_eq_true rfl)) dL_isBoard_528 ⟨Nat.le_of_ble_eq_true rfl, Nat.le_of_ble_eq_true rfl⟩)) (fun r772 hr772 => ?_)
                                    subst hr772
                                    refine lv_aload hx hb dL_isBoard_531 (lv_at hl 7 rfl) ?_
                                    refine lv_iconst (v := 5) hx hb dL_isBoard_533 (by decide) ?_
                                    refine za_ld hx hb hK.1 hP 13 0 rfl rfl 5 rfl (by decide) (by decide) dL_isBoard_534 ?_
                                    refine z0_ge (tgt := 543) hx hb cn dL_isBoard_535 (by decide) ev5 (by omega) ?_
                                    refine lv_aload_n hx hb dL_isBoard_543 rfl (lv_at hl 4 rfl) ?_
                                    refine lv_aload_n hx hb dL_isBoard_544 rfl (lv_at hl 6 rfl) ?_
                                    refine lv_aload hx hb dL_isBoard_545 (lv_at hl 7 rfl) ?_
                                    have hPc := hP.sub (ws' := [(yp, .inl (cI, 12, .inl vp)), (yb, .inl (cI, 12, .inl vb)), (yg, .inl (cI, 10, .inl vg))]) [10, 12, 13] rfl
                                    have hDc := (hD0.sub (ws' := [(yp, .inl (cI, 12, .inl vp)), (yb, .inl (cI, 12, .inl vb)), (yg, .inl (cI, 10, .inl vg))]) [10, 12, 13] (by decide) rfl).tt
                                    refine vp_callSi (va_Run.run (va_runS (As := [.ref yp, .ref yb, .ref yg]) (rest := [.int (p_best pr br se pl th)]) ⟨hx, hb, hml, hown, hts⟩ (c_L_best l G cI cC cZ cG s.heap.size yp yb yg vp vb vg pl cn hv (LR_4 hR) hpl ev5 hc1 hc) (cf_RL_50 hts ⟨Nat.le_of_ble_eq_true rfl, Nat.le_of_ble_eq_true rfl⟩) (pre_S hK hPc hDc) rfl rfl hl.1 rfl (lv_room (Nat.le_of_ble_eq_true rfl)) dL_isBoard_547 ⟨Nat.le_of_ble_eq_true rfl, Nat.le_of_ble_eq_true rfl⟩)) (fun r774 hr774 => ?_)
                                    subst hr774
                                    have hq775 : p_best pr br se pl th = lbe vp vb vg pl cn := (bb_y hR hc1 hc ev5)
                                    refine lv_icmp_ne (tgt := 557) hx hb dL_isBoard_550 (by decide) (fun c_776 => ?_) (fun c_776 => ?_)
                                    · exact absurd hq775 c_776
                                    · refine lv_iconst (v := 1) hx hb dL_isBoard_553 (by decide) ?_
                                      refine lv_goto (tgt := 558) hx hb dL_isBoard_554 (by decide) ?_
                                      subst hQ
                                      exact W.zret (v := 1) hx hb hr rfl (fun t ht hW => ⟨1, rfl, rfl, ht⟩) (fun _ h => absurd h List.not_mem_nil) dL_isBoard_558
                        · refine lv_iconst (v := 0) hx hb dL_isBoard_411 (by decide) ?_
                          refine lv_istore (lv' := [(8, .int 0), (7, .int (nI p0)), (6, .int fs), (5, .int (-6)), (0, .ref qX), (1, .ref yp), (2, .ref ys), (3, .ref yb), (4, .ref yg)]) hx hb dL_isBoard_412 hl (by decide) rfl (fun ls hl => ?_)
                          refine lv_iconst (v := 0) hx hb dL_isBoard_414 (by decide) ?_
                          refine lv_istore (lv' := [(9, .int 0), (8, .int 0), (7, .int (nI p0)), (6, .int fs), (5, .int (-6)), (0, .ref qX), (1, .ref yp), (2, .ref ys), (3, .ref yb), (4, .ref yg)]) hx hb dL_isBoard_415 hl (by decide) rfl (fun ls hl => ?_)
                          have L5 : ∀ (n : Nat), ∀ (j0 : Nat), ∀ (hm0 : Nat), ∀ (hj0 : j0 ≤ 3), ∀ (hhm : hm0 = cnt (hmP vp p0) j0), ∀ (hn6 : 4 ≤ j0 + n), ∀ (ls : Array Slot), lv_has ls 12 [(9, .int (nI j0)), (8, .int (nI hm0)), (7, .int (nI p0)), (6, .int fs), (5, .int (-6)), (0, .ref qX), (1, .ref yp), (2, .ref ys), (3, .ref yb), (4, .ref yg)] → W p l e rm_L_isBoard s m ag below meth c s.heap [] 0 0 Q (F0 m 417 ls []) := by
                            intro n
                            induction n with
                            | zero =>
                              intro j0 hm0 hj0 hhm hn6 ls hl
                              omega
                            | succ n ih5 =>
                              intro j0 hm0 hj0 hhm hn6 ls hl
                              refine lv_iload hx hb dL_isBoard_417 (lv_at hl 0 rfl) ?_
                              refine lv_iconst (v := 3) hx hb dL_isBoard_419 (by decide) ?_
                              refine zi_ge (tgt := 453) hx hb j0 3 dL_isBoard_420 (by decide) rfl rfl (by omega) (by decide) (fun c_778 => ?_) (fun c_778 => ?_)
                              · refine lv_aload_n hx hb dL_isBoard_453 rfl (lv_at hl 5 rfl) ?_
                                refine lv_bipush (v := 9) hx hb dL_isBoard_454 (by decide) ?_
                                refine lv_iload hx hb dL_isBoard_456 (lv_at hl 2 rfl) ?_
                                refine zi_add hx hb 9 p0 dL_isBoard_458 rfl rfl ?_
                                have hPc := hP.sub (ws' := [(qX, .inr (5, [.ref qg, .ref wg, .ref qR, .ref qd, .ref qh, .ref qk])), (qg, .inr (1, [.ref qb, .ref qt, .int x, .int (nI pl), .int th, .int tu, .int ca])), (qt, .inl (cI, 3, .inl se)), (qb, .inr (0, [.ref qp, .ref qs, .ref qr, .ref qf, .int fl])), (qp, .inl (cI, 12, .inl pr)), (qs, .inl (cI, 12, .inl sb)), (qr, .inl (cI, 4, .inl br)), (qf, .inl (cI, 4, .inl fe)), (qd, .inr (3, [.ref qx, .int (nI ln)])), (qh, .inr (2, [.ref qy, .int (nI nx0), .int (nI sz0)]))]) [0, 1, 2, 3, 4, 5, 6, 7, 8, 9] rfl
                                have hDc := (hD0.sub (ws' := [(qX, .inr (5, [.ref qg, .ref wg, .ref qR, .ref qd, .ref qh, .ref qk])), (qg, .inr (1, [.ref qb, .ref qt, .int x, .int (nI pl), .int th, .int tu, .int ca])), (qt, .inl (cI, 3, .inl se)), (qb, .inr (0, [.ref qp, .ref qs, .ref qr, .ref qf, .int fl])), (qp, .inl (cI, 12, .inl pr)), (qs, .inl (cI, 12, .inl sb)), (qr, .inl (cI, 4, .inl br)), (qf, .inl (cI, 4, .inl fe)), (qd, .inr (3, [.ref qx, .int (nI ln)])), (qh, .inr (2, [.ref qy, .int (nI nx0), .int (nI sz0)]))]) [0, 1, 2, 3, 4, 5, 6, 7, 8, 9] (by decide) rfl).tt
                                refine vp_callSi (va_Run.run (va_runV (As := [.int (nI (9 + p0))]) (rest := []) ⟨hx, hb, hml, hown, hts⟩ (c_X5_count l G cI cC cZ cG s.heap.size qX wg qR qd qh qk qg qt qb qp qs qr qf pr sb br fe se fl x pl th tu ca qx qy ln nx0 sz0 (nI (9 + p0))) (cf_RL_65 hts ⟨Nat.le_of_ble_eq_true rfl, Nat.le_of_ble_eq_true rfl⟩) (pre_V hK hPc hDc (ci := 5) (q0 := 0) rfl rfl) rfl rfl hl.1 rfl (lv_room (Nat.le_of_ble_eq_true rfl)) dL_isBoard_459 ⟨Nat.le_of_ble_eq_true rfl, Nat.le_of_ble_eq_true rfl⟩)) (fun r779 hr779 => ?_)
                                rw [hr779]
                                refine lv_iload hx hb dL_isBoard_462 (lv_at hl 1 rfl) ?_
                                have hq780 : p_count (nI (9 + p0)) pr sb br se fl x pl th tu ca ln sz0 = nI hm0 := (by rw [bc_9 hR (by omega), hhm, show j0 = 3 by omega])
                                refine lv_icmp_eq (tgt := 469) hx hb dL_isBoard_464 (by decide) (fun c_781 => ?_) (fun c_781 => ?_)
                                · refine lv_iinc (v := nI (p0 + 1)) (lv' := [(7, .int (nI (p0 + 1))), (9, .int (nI j0)), (8, .int (nI hm0)), (6, .int fs), (5, .int (-6)), (0, .ref qX), (1, .ref yp), (2, .ref ys), (3, .ref yb), (4, .ref yg)]) hx hb dL_isBoard_469 hl (k := 2) rfl (nI_inc p0) (by decide) rfl (fun ls hl => ?_)
                                  refine lv_goto (tgt := 405) hx hb dL_isBoard_472 (by decide) ?_
                                  exact ih4 (p0 + 1) (by omega) (by omega) _ (lv_sub hl [0, 3, 4, 5, 6, 7, 8, 9] rfl)
                                · exact absurd hq780 c_781
                              · refine lv_iload hx hb dL_isBoard_423 (lv_at hl 1 rfl) ?_
                                refine lv_aload_n hx hb dL_isBoard_425 rfl (lv_at hl 6 rfl) ?_
                                refine lv_iconst (v := 3) hx hb dL_isBoard_426 (by decide) ?_
                                refine lv_iload hx hb dL_isBoard_427 (lv_at hl 2 rfl) ?_
                                refine zi_mul hx hb 3 p0 dL_isBoard_429 rfl rfl ?_
                                refine lv_iload hx hb dL_isBoard_430 (lv_at hl 0 rfl) ?_
                                refine zi_add hx hb (3 * p0) j0 dL_isBoard_432 rfl rfl ?_
                                refine za_ld hx hb hK.1 hP 10 0 rfl rfl ((3 * p0) + j0) rfl (by omega) (by decide) dL_isBoard_433 ?_
                                refine lv_bipush (v := 35) hx hb dL_isBoard_434 (by decide) ?_
                                refine lv_icmp_ne (tgt := 443) hx hb dL_isBoard_436 (by decide) (fun c_782 => ?_) (fun c_782 => ?_)
                                · refine lv_iconst (v := 0) hx hb dL_isBoard_443 (by decide) ?_
                                  refine zi_add hx hb hm0 0 dL_isBoard_444 rfl rfl ?_
                                  refine lv_istore (lv' := [(8, .int (nI (hm0 + 0))), (9, .int (nI j0)), (7, .int (nI p0)), (6, .int fs), (5, .int (-6)), (0, .ref qX), (1, .ref yp), (2, .ref ys), (3, .ref yb), (4, .ref yg)]) hx hb dL_isBoard_445 hl (by decide) rfl (fun ls hl => ?_)
                                  refine lv_iinc (v := nI (j0 + 1)) (lv' := [(9, .int (nI (j0 + 1))), (8, .int (nI (hm0 + 0))), (7, .int (nI p0)), (6, .int fs), (5, .int (-6)), (0, .ref qX), (1, .ref yp), (2, .ref ys), (3, .ref yb), (4, .ref yg)]) hx hb dL_isBoard_447 hl (k := 1) rfl (nI_inc j0) (by decide) rfl (fun ls hl => ?_)
                                  refine lv_goto (tgt := 417) hx hb dL_isBoard_450 (by decide) ?_
                                  exact ih5 (j0 + 1) (hm0 + 0) (by omega) (by rw [Nat.add_zero, cnt_f (show ¬ hmP vp p0 j0 = true from fun w => c_782 (of_decide_eq_true w)), hhm]) (by omega) _ (lv_sub hl [0, 1, 2, 3, 4, 5, 6, 7, 8, 9] rfl)
                                · refine lv_iconst (v := 1) hx hb dL_isBoard_439 (by decide) ?_
                                  refine lv_goto (tgt := 444) hx hb dL_isBoard_440 (by decide) ?_
                                  refine zi_add hx hb hm0 1 dL_isBoard_444 rfl rfl ?_
                                  refine lv_istore (lv' := [(8, .int (nI (hm0 + 1))), (9, .int (nI j0)), (7, .int (nI p0)), (6, .int fs), (5, .int (-6)), (0, .ref qX), (1, .ref yp), (2, .ref ys), (3, .ref yb), (4, .ref yg)]) hx hb dL_isBoard_445 hl (by decide) rfl (fun ls hl => ?_)
                                  refine lv_iinc (v := nI (j0 + 1)) (lv' := [(9, .int (nI (j0 + 1))), (8, .int (nI (hm0 + 1))), (7, .int (nI p0)), (6, .int fs), (5, .int (-6)), (0, .ref qX), (1, .ref yp), (2, .ref ys), (3, .ref yb), (4, .ref yg)]) hx hb dL_isBoard_447 hl (k := 1) rfl (nI_inc j0) (by decide) rfl (fun ls hl => ?_)
                                  refine lv_goto (tgt := 417) hx hb dL_isBoard_450 (by decide) ?_
                                  exact ih5 (j0 + 1) (hm0 + 1) (by omega) (by rw [cnt_t (show hmP vp p0 j0 = true from decide_eq_true c_782), hhm]) (by omega) _ (lv_sub hl [0, 1, 2, 3, 4, 5, 6, 7, 8, 9] rfl)
                          exact L5 4 0 0 (by decide) rfl (by decide) _ (lv_sub hl [0, 1, 2, 3, 4, 5, 6, 7, 8, 9] rfl)
                    exact L4 5 0 (by decide) (by decide) _ (lv_sub hl [0, 1, 2, 3, 4, 5, 6, 7] rfl)
                  · refine lv_aload_n hx hb dL_isBoard_380 rfl (lv_at hl 3 rfl) ?_
                    refine lv_iload hx hb dL_isBoard_381 (lv_at hl 0 rfl) ?_
                    have hPc := hP.sub (ws' := [(qX, .inr (5, [.ref qg, .ref wg, .ref qR, .ref qd, .ref qh, .ref qk])), (qg, .inr (1, [.ref qb, .ref qt, .int x, .int (nI pl), .int th, .int tu, .int ca])), (qt, .inl (cI, 3, .inl se)), (qb, .inr (0, [.ref qp, .ref qs, .ref qr, .ref qf, .int fl])), (qp, .inl (cI, 12, .inl pr)), (qs, .inl (cI, 12, .inl sb)), (qr, .inl (cI, 4, .inl br)), (qf, .inl (cI, 4, .inl fe)), (qd, .inr (3, [.ref qx, .int (nI ln)])), (qh, .inr (2, [.ref qy, .int (nI nx0), .int (nI sz0)]))]) [0, 1, 2, 3, 4, 5, 6, 7, 8, 9] rfl
                    have hDc := (hD0.sub (ws' := [(qX, .inr (5, [.ref qg, .ref wg, .ref qR, .ref qd, .ref qh, .ref qk])), (qg, .inr (1, [.ref qb, .ref qt, .int x, .int (nI pl), .int th, .int tu, .int ca])), (qt, .inl (cI, 3, .inl se)), (qb, .inr (0, [.ref qp, .ref qs, .ref qr, .ref qf, .int fl])), (qp, .inl (cI, 12, .inl pr)), (qs, .inl (cI, 12, .inl sb)), (qr, .inl (cI, 4, .inl br)), (qf, .inl (cI, 4, .inl fe)), (qd, .inr (3, [.ref qx, .int (nI ln)])), (qh, .inr (2, [.ref qy, .int (nI nx0), .int (nI sz0)]))]) [0, 1, 2, 3, 4, 5, 6, 7, 8, 9] (by decide) rfl).tt
                    refine vp_callSi (va_Run.run (va_runV (As := [.int (nI k0)]) (rest := []) ⟨hx, hb, hml, hown, hts⟩ (c_X5_count l G cI cC cZ cG s.heap.size qX wg qR qd qh qk qg qt qb qp qs qr qf pr sb br fe se fl x pl th tu ca qx qy ln nx0 sz0 (nI k0)) (cf_RL_65 hts ⟨Nat.le_of_ble_eq_true rfl, Nat.le_of_ble_eq_true rfl⟩) (pre_V hK hPc hDc (ci := 5) (q0 := 0) rfl rfl) rfl rfl hl.1 rfl (lv_room (Nat.le_of_ble_eq_true rfl)) dL_isBoard_383 ⟨Nat.le_of_ble_eq_true rfl, Nat.le_of_ble_eq_true rfl⟩)) (fun r783 hr783 => ?_)
                    rw [hr783]
                    refine lv_aload hx hb dL_isBoard_386 (lv_at hl 7 rfl) ?_
                    refine lv_iload hx hb dL_isBoard_388 (lv_at hl 0 rfl) ?_
                    refine za_ld hx hb hK.1 hP 13 0 rfl rfl k0 rfl (by omega) (by decide) dL_isBoard_390 ?_
                    have hq784 : p_count (nI k0) pr sb br se fl x pl th tu ca ln sz0 = vg k0 := (bc_k hR (by omega))
                    refine lv_icmp_eq (tgt := 396) hx hb dL_isBoard_391 (by decide) (fun c_785 => ?_) (fun c_785 => ?_)
                    · refine lv_iinc (v := nI (k0 + 1)) (lv' := [(7, .int (nI (k0 + 1))), (6, .int fs), (5, .int (-6)), (0, .ref qX), (1, .ref yp), (2, .ref ys), (3, .ref yb), (4, .ref yg)]) hx hb dL_isBoard_396 hl (k := 0) rfl (nI_inc k0) (by decide) rfl (fun ls hl => ?_)
                      refine lv_goto (tgt := 373) hx hb dL_isBoard_399 (by decide) ?_
                      exact ih3 (k0 + 1) (by omega) (by omega) _ (lv_sub hl [0, 1, 2, 3, 4, 5, 6, 7] rfl)
                    · exact absurd hq784 c_785
              exact L3 9 0 (by decide) (by decide) _ (lv_sub hl [0, 1, 2, 3, 4, 5, 6, 7] rfl)
            · refine lv_iload hx hb dL_isBoard_125 (lv_at hl 2 rfl) ?_
              refine lv_istore (lv' := [(8, .int (-6)), (7, .int (nI f0)), (6, .int fs), (5, .int (-6)), (0, .ref qX), (1, .ref yp), (2, .ref ys), (3, .ref yb), (4, .ref yg)]) hx hb dL_isBoard_127 hl (by decide) rfl (fun ls hl => ?_)
              refine lv_bipush (v := 11) hx hb dL_isBoard_129 (by decide) ?_
              refine lv_istore (lv' := [(9, .int 11), (8, .int (-6)), (7, .int (nI f0)), (6, .int fs), (5, .int (-6)), (0, .ref qX), (1, .ref yp), (2, .ref ys), (3, .ref yb), (4, .ref yg)]) hx hb dL_isBoard_131 hl (by decide) rfl (fun ls hl => ?_)
              have L6 : ∀ (n : Nat), ∀ (Ac : Nat), ∀ (xa : Int32), ∀ (lo : Int32), ∀ (hAc : Ac ≤ 12), ∀ (hxa : xa = nI Ac - 1), ∀ (hlo : lo = low (lqP vp f0) Ac (12 - Ac)), ∀ (hnA : Ac + 1 ≤ n), ∀ (ls : Array Slot), lv_has ls 12 [(9, .int xa), (8, .int lo), (7, .int (nI f0)), (6, .int fs), (5, .int (-6)), (0, .ref qX), (1, .ref yp), (2, .ref ys), (3, .ref yb), (4, .ref yg)] → W p l e rm_L_isBoard s m ag below meth c s.heap [] 0 0 Q (F0 m 133 ls []) := by
                intro n
                induction n with
                | zero =>
                  intro Ac xa lo hAc hxa hlo hnA ls hl
                  omega
                | succ n ih6 =>
                  intro Ac xa lo hAc hxa hlo hnA ls hl
                  rcases Ac with _ | b2
                  · obtain rfl : xa = -1 := by rw [hxa]; decide
                    refine lv_iload hx hb dL_isBoard_133 (lv_at hl 0 rfl) ?_
                    refine lv_if_lt (tgt := 167) hx hb dL_isBoard_135 (by decide) (fun c_787 => ?_) (fun c_787 => ?_)
                    · refine lv_iconst (v := 3) hx hb dL_isBoard_167 (by decide) ?_
                      refine lv_iload hx hb dL_isBoard_168 (lv_at hl 2 rfl) ?_
                      refine lv_bipush (v := 8) hx hb dL_isBoard_170 (by decide) ?_
                      refine zi_div hx hb f0 8 dL_isBoard_172 rfl rfl (by omega) (by decide) (by decide) ?_
                      refine zi_mul hx hb 3 (f0 / 8) dL_isBoard_173 rfl rfl ?_
                      refine lv_istore (lv' := [(9, .int (nI (3 * (f0 / 8)))), (8, .int lo), (7, .int (nI f0)), (6, .int fs), (5, .int (-6)), (0, .ref qX), (1, .ref yp), (2, .ref ys), (3, .ref yb), (4, .ref yg)]) hx hb dL_isBoard_174 hl (by decide) rfl (fun ls hl => ?_)
                      refine lv_iload hx hb dL_isBoard_176 (lv_at hl 2 rfl) ?_
                      refine lv_bipush (v := 8) hx hb dL_isBoard_178 (by decide) ?_
                      refine zi_rem hx hb f0 8 dL_isBoard_180 rfl rfl (by omega) (by decide) (by decide) ?_
                      refine lv_iconst (v := 4) hx hb dL_isBoard_181 (by decide) ?_
                      refine zi_eq (tgt := 189) hx hb (f0 % 8) 4 dL_isBoard_182 (by decide) rfl rfl (by omega) (by decide) (fun c_788 => ?_) (fun c_788 => ?_)
                      · refine lv_aload_n hx hb dL_isBoard_189 rfl (lv_at hl 8 rfl) ?_
                        refine lv_iload hx hb dL_isBoard_190 (lv_at hl 0 rfl) ?_
                        refine za_ld hx hb hK.1 hP 12 0 rfl rfl (3 * (f0 / 8)) rfl (by omega) (by decide) dL_isBoard_192 ?_
                        refine lv_iconst (v := 1) hx hb dL_isBoard_193 (by decide) ?_
                        refine lv_icmp_ne (tgt := 201) hx hb dL_isBoard_194 (by decide) (fun c_789 => ?_) (fun c_789 => ?_)
                        · refine lv_aload_n hx hb dL_isBoard_201 rfl (lv_at hl 8 rfl) ?_
                          refine lv_iload hx hb dL_isBoard_202 (lv_at hl 0 rfl) ?_
                          refine lv_iconst (v := 1) hx hb dL_isBoard_204 (by decide) ?_
                          refine zi_add hx hb (3 * (f0 / 8)) 1 dL_isBoard_205 rfl rfl ?_
                          refine za_ld hx hb hK.1 hP 12 0 rfl rfl ((3 * (f0 / 8)) + 1) rfl (by omega) (by decide) dL_isBoard_206 ?_
                          refine lv_iconst (v := 1) hx hb dL_isBoard_207 (by decide) ?_
                          refine lv_icmp_ne (tgt := 215) hx hb dL_isBoard_208 (by decide) (fun c_790 => ?_) (fun c_790 => ?_)
                          · refine lv_iconst (v := 1) hx hb dL_isBoard_215 (by decide) ?_
                            refine lv_istore (lv' := [(10, .int 1), (9, .int (nI (3 * (f0 / 8)))), (8, .int lo), (7, .int (nI f0)), (6, .int fs), (5, .int (-6)), (0, .ref qX), (1, .ref yp), (2, .ref ys), (3, .ref yb), (4, .ref yg)]) hx hb dL_isBoard_216 hl (by decide) rfl (fun ls hl => ?_)
                            refine lv_aload_n hx hb dL_isBoard_218 rfl (lv_at hl 9 rfl) ?_
                            refine lv_iload hx hb dL_isBoard_219 (lv_at hl 1 rfl) ?_
                            refine lv_iconst (v := 2) hx hb dL_isBoard_221 (by decide) ?_
                            refine zi_add hx hb (3 * (f0 / 8)) 2 dL_isBoard_222 rfl rfl ?_
                            refine za_ld hx hb hK.1 hP 12 0 rfl rfl ((3 * (f0 / 8)) + 2) rfl (by omega) (by decide) dL_isBoard_223 ?_
                            refine lv_aload hx hb dL_isBoard_224 (lv_at hl 10 rfl) ?_
                            refine lv_iconst (v := 1) hx hb dL_isBoard_226 (by decide) ?_
                            refine za_ld hx hb hK.1 hP 13 0 rfl rfl 1 rfl (by decide) (by decide) dL_isBoard_227 ?_
                            refine lv_iadd hx hb dL_isBoard_228 ?_
                            refine lv_aload hx hb dL_isBoard_229 (lv_at hl 10 rfl) ?_
                            refine lv_bipush (v := 6) hx hb dL_isBoard_231 (by decide) ?_
                            refine za_ld hx hb hK.1 hP 13 0 rfl rfl 6 rfl (by decide) (by decide) dL_isBoard_233 ?_
                            refine lv_isub hx hb dL_isBoard_234 ?_
                            refine lv_istore (lv' := [(11, .int (((vb ((3 * (f0 / 8)) + 2)) + (vg 1)) - (vg 6))), (10, .int 1), (9, .int (nI (3 * (f0 / 8)))), (8, .int lo), (7, .int (nI f0)), (6, .int fs), (5, .int (-6)), (0, .ref qX), (1, .ref yp), (2, .ref ys), (3, .ref yb), (4, .ref yg)]) hx hb dL_isBoard_235 hl (by decide) rfl (fun ls hl => ?_)
                            refine lv_aload_n hx hb dL_isBoard_237 rfl (lv_at hl 7 rfl) ?_
                            refine lv_iload hx hb dL_isBoard_238 (lv_at hl 4 rfl) ?_
                            refine lv_iconst (v := 0) hx hb dL_isBoard_240 (by decide) ?_
                            have hPc := hP.sub (ws' := [(qX, .inr (5, [.ref qg, .ref wg, .ref qR, .ref qd, .ref qh, .ref qk])), (qg, .inr (1, [.ref qb, .ref qt, .int x, .int (nI pl), .int th, .int tu, .int ca])), (qt, .inl (cI, 3, .inl se)), (qb, .inr (0, [.ref qp, .ref qs, .ref qr, .ref qf, .int fl])), (qp, .inl (cI, 12, .inl pr)), (qs, .inl (cI, 12, .inl sb)), (qr, .inl (cI, 4, .inl br)), (qf, .inl (cI, 4, .inl fe))]) [0, 1, 2, 3, 4, 5, 6, 7] rfl
                            have hDc := (hD0.sub (ws' := [(qX, .inr (5, [.ref qg, .ref wg, .ref qR, .ref qd, .ref qh, .ref qk])), (qg, .inr (1, [.ref qb, .ref qt, .int x, .int (nI pl), .int th, .int tu, .int ca])), (qt, .inl (cI, 3, .inl se)), (qb, .inr (0, [.ref qp, .ref qs, .ref qr, .ref qf, .int fl])), (qp, .inl (cI, 12, .inl pr)), (qs, .inl (cI, 12, .inl sb)), (qr, .inl (cI, 4, .inl br)), (qf, .inl (cI, 4, .inl fe))]) [0, 1, 2, 3, 4, 5, 6, 7] (by decide) rfl).tt
                            refine vp_callSi (va_Run.run (va_runV (As := [.int (nI f0), .int 0]) (rest := []) ⟨hx, hb, hml, hown, hts⟩ (c_X5_field l G cI cC cZ cG s.heap.size qX wg qR qd qh qk qg qt qb qp qs qr qf pr sb br fe se fl x pl th tu ca (nI f0) 0) (cf_RL_64 hts ⟨Nat.le_of_ble_eq_true rfl, Nat.le_of_ble_eq_true rfl⟩) (pre_V hK hPc hDc (ci := 5) (q0 := 0) rfl rfl) rfl rfl hl.1 rfl (lv_room (Nat.le_of_ble_eq_true rfl)) dL_isBoard_241 ⟨Nat.le_of_ble_eq_true rfl, Nat.le_of_ble_eq_true rfl⟩)) (fun r791 hr791 => ?_)
                            subst hr791
                            refine lv_aload_n hx hb dL_isBoard_244 rfl (lv_at hl 8 rfl) ?_
                            refine lv_iload hx hb dL_isBoard_245 (lv_at hl 4 rfl) ?_
                            have hPc := hP.sub (ws' := [(yp, .inl (cI, 12, .inl vp))]) [10] rfl
                            have hDc := (hD0.sub (ws' := [(yp, .inl (cI, 12, .inl vp))]) [10] (by decide) rfl).tt
                            refine vp_callSi (va_Run.run (va_runS (As := [.ref yp, .int (nI f0)]) (rest := [.int (p_field (nI f0) 0 pr br fe se tu)]) ⟨hx, hb, hml, hown, hts⟩ (c_L_all l G cI cC cZ cG s.heap.size yp vp (nI f0)) (cf_RL_29 hts ⟨Nat.le_of_ble_eq_true rfl, Nat.le_of_ble_eq_true rfl⟩) (pre_S hK hPc hDc) rfl rfl hl.1 rfl (lv_room (Nat.le_of_ble_eq_true rfl)) dL_isBoard_247 ⟨Nat.le_of_ble_eq_true rfl, Nat.le_of_ble_eq_true rfl⟩)) (fun r792 hr792 => ?_)
                            subst hr792
                            have hf793 := (@ao_le vp (nI f0) 4)
                            have hq794 : p_field (nI f0) 0 pr br fe se tu = nI (ao vp (nI f0) 4) := (bf_0 hR (by omega))
                            refine lv_icmp_ne (tgt := 340) hx hb dL_isBoard_250 (by decide) (fun c_795 => ?_) (fun c_795 => ?_)
                            · exact absurd hq794 c_795
                            · refine lv_aload_n hx hb dL_isBoard_253 rfl (lv_at hl 7 rfl) ?_
                              refine lv_iload hx hb dL_isBoard_254 (lv_at hl 4 rfl) ?_
                              refine lv_iconst (v := 1) hx hb dL_isBoard_256 (by decide) ?_
                              have hPc := hP.sub (ws' := [(qX, .inr (5, [.ref qg, .ref wg, .ref qR, .ref qd, .ref qh, .ref qk])), (qg, .inr (1, [.ref qb, .ref qt, .int x, .int (nI pl), .int th, .int tu, .int ca])), (qt, .inl (cI, 3, .inl se)), (qb, .inr (0, [.ref qp, .ref qs, .ref qr, .ref qf, .int fl])), (qp, .inl (cI, 12, .inl pr)), (qs, .inl (cI, 12, .inl sb)), (qr, .inl (cI, 4, .inl br)), (qf, .inl (cI, 4, .inl fe))]) [0, 1, 2, 3, 4, 5, 6, 7] rfl
                              have hDc := (hD0.sub (ws' := [(qX, .inr (5, [.ref qg, .ref wg, .ref qR, .ref qd, .ref qh, .ref qk])), (qg, .inr (1, [.ref qb, .ref qt, .int x, .int (nI pl), .int th, .int tu, .int ca])), (qt, .inl (cI, 3, .inl se)), (qb, .inr (0, [.ref qp, .ref qs, .ref qr, .ref qf, .int fl])), (qp, .inl (cI, 12, .inl pr)), (qs, .inl (cI, 12, .inl sb)), (qr, .inl (cI, 4, .inl br)), (qf, .inl (cI, 4, .inl fe))]) [0, 1, 2, 3, 4, 5, 6, 7] (by decide) rfl).tt
                              refine vp_callSi (va_Run.run (va_runV (As := [.int (nI f0), .int 1]) (rest := []) ⟨hx, hb, hml, hown, hts⟩ (c_X5_field l G cI cC cZ cG s.heap.size qX wg qR qd qh qk qg qt qb qp qs qr qf pr sb br fe se fl x pl th tu ca (nI f0) 1) (cf_RL_64 hts ⟨Nat.le_of_ble_eq_true rfl, Nat.le_of_ble_eq_true rfl⟩) (pre_V hK hPc hDc (ci := 5) (q0 := 0) rfl rfl) rfl rfl hl.1 rfl (lv_room (Nat.le_of_ble_eq_true rfl)) dL_isBoard_257 ⟨Nat.le_of_ble_eq_true rfl, Nat.le_of_ble_eq_true rfl⟩)) (fun r796 hr796 => ?_)
                              subst hr796
                              refine lv_iload hx hb dL_isBoard_260 (lv_at hl 3 rfl) ?_
                              have hq797 : p_field (nI f0) 1 pr br fe se tu = lo := (by rw [bf_1 hR (by omega), hlo])
                              refine lv_icmp_ne (tgt := 340) hx hb dL_isBoard_262 (by decide) (fun c_798 => ?_) (fun c_798 => ?_)
                              · exact absurd hq797 c_798
                              · refine lv_aload_n hx hb dL_isBoard_265 rfl (lv_at hl 7 rfl) ?_
                                refine lv_iload hx hb dL_isBoard_266 (lv_at hl 4 rfl) ?_
                                refine lv_iconst (v := 2) hx hb dL_isBoard_268 (by decide) ?_
                                have hPc := hP.sub (ws' := [(qX, .inr (5, [.ref qg, .ref wg, .ref qR, .ref qd, .ref qh, .ref qk])), (qg, .inr (1, [.ref qb, .ref qt, .int x, .int (nI pl), .int th, .int tu, .int ca])), (qt, .inl (cI, 3, .inl se)), (qb, .inr (0, [.ref qp, .ref qs, .ref qr, .ref qf, .int fl])), (qp, .inl (cI, 12, .inl pr)), (qs, .inl (cI, 12, .inl sb)), (qr, .inl (cI, 4, .inl br)), (qf, .inl (cI, 4, .inl fe))]) [0, 1, 2, 3, 4, 5, 6, 7] rfl
                                have hDc := (hD0.sub (ws' := [(qX, .inr (5, [.ref qg, .ref wg, .ref qR, .ref qd, .ref qh, .ref qk])), (qg, .inr (1, [.ref qb, .ref qt, .int x, .int (nI pl), .int th, .int tu, .int ca])), (qt, .inl (cI, 3, .inl se)), (qb, .inr (0, [.ref qp, .ref qs, .ref qr, .ref qf, .int fl])), (qp, .inl (cI, 12, .inl pr)), (qs, .inl (cI, 12, .inl sb)), (qr, .inl (cI, 4, .inl br)), (qf, .inl (cI, 4, .inl fe))]) [0, 1, 2, 3, 4, 5, 6, 7] (by decide) rfl).tt
                                refine vp_callSi (va_Run.run (va_runV (As := [.int (nI f0), .int 2]) (rest := []) ⟨hx, hb, hml, hown, hts⟩ (c_X5_field l G cI cC cZ cG s.heap.size qX wg qR qd qh qk qg qt qb qp qs qr qf pr sb br fe se fl x pl th tu ca (nI f0) 2) (cf_RL_64 hts ⟨Nat.le_of_ble_eq_true rfl, Nat.le_of_ble_eq_true rfl⟩) (pre_V hK hPc hDc (ci := 5) (q0 := 0) rfl rfl) rfl rfl hl.1 rfl (lv_room (Nat.le_of_ble_eq_true rfl)) dL_isBoard_269 ⟨Nat.le_of_ble_eq_true rfl, Nat.le_of_ble_eq_true rfl⟩)) (fun r799 hr799 => ?_)
                                subst hr799
                                refine lv_iload hx hb dL_isBoard_272 (lv_at hl 4 rfl) ?_
                                refine lv_bipush (v := 8) hx hb dL_isBoard_274 (by decide) ?_
                                refine zi_rem hx hb f0 8 dL_isBoard_276 rfl rfl (by omega) (by decide) (by decide) ?_
                                refine z0_ne (tgt := 284) hx hb (f0 % 8) dL_isBoard_277 (by decide) rfl (by omega) (fun c_800 => ?_) (fun c_800 => ?_)
                                · refine lv_iconst (v := 0) hx hb dL_isBoard_284 (by decide) ?_
                                  have hq801 : p_field (nI f0) 2 pr br fe se tu = 0 := (by rw [bf_2 hR (by omega), if_neg c_800])
                                  refine lv_icmp_ne (tgt := 340) hx hb dL_isBoard_285 (by decide) (fun c_802 => ?_) (fun c_802 => ?_)
                                  · exact absurd hq801 c_802
                                  · refine lv_aload_n hx hb dL_isBoard_288 rfl (lv_at hl 7 rfl) ?_
                                    refine lv_iload hx hb dL_isBoard_289 (lv_at hl 4 rfl) ?_
                                    refine lv_iconst (v := 3) hx hb dL_isBoard_291 (by decide) ?_
                                    have hPc := hP.sub (ws' := [(qX, .inr (5, [.ref qg, .ref wg, .ref qR, .ref qd, .ref qh, .ref qk])), (qg, .inr (1, [.ref qb, .ref qt, .int x, .int (nI pl), .int th, .int tu, .int ca])), (qt, .inl (cI, 3, .inl se)), (qb, .inr (0, [.ref qp, .ref qs, .ref qr, .ref qf, .int fl])), (qp, .inl (cI, 12, .inl pr)), (qs, .inl (cI, 12, .inl sb)), (qr, .inl (cI, 4, .inl br)), (qf, .inl (cI, 4, .inl fe))]) [0, 1, 2, 3, 4, 5, 6, 7] rfl
                                    have hDc := (hD0.sub (ws' := [(qX, .inr (5, [.ref qg, .ref wg, .ref qR, .ref qd, .ref qh, .ref qk])), (qg, .inr (1, [.ref qb, .ref qt, .int x, .int (nI pl), .int th, .int tu, .int ca])), (qt, .inl (cI, 3, .inl se)), (qb, .inr (0, [.ref qp, .ref qs, .ref qr, .ref qf, .int fl])), (qp, .inl (cI, 12, .inl pr)), (qs, .inl (cI, 12, .inl sb)), (qr, .inl (cI, 4, .inl br)), (qf, .inl (cI, 4, .inl fe))]) [0, 1, 2, 3, 4, 5, 6, 7] (by decide) rfl).tt
                                    refine vp_callSi (va_Run.run (va_runV (As := [.int (nI f0), .int 3]) (rest := []) ⟨hx, hb, hml, hown, hts⟩ (c_X5_field l G cI cC cZ cG s.heap.size qX wg qR qd qh qk qg qt qb qp qs qr qf pr sb br fe se fl x pl th tu ca (nI f0) 3) (cf_RL_64 hts ⟨Nat.le_of_ble_eq_true rfl, Nat.le_of_ble_eq_true rfl⟩) (pre_V hK hPc hDc (ci := 5) (q0 := 0) rfl rfl) rfl rfl hl.1 rfl (lv_room (Nat.le_of_ble_eq_true rfl)) dL_isBoard_292 ⟨Nat.le_of_ble_eq_true rfl, Nat.le_of_ble_eq_true rfl⟩)) (fun r803 hr803 => ?_)
                                    subst hr803
                                    refine lv_iload hx hb dL_isBoard_295 (lv_at hl 1 rfl) ?_
                                    have hq804 : p_field (nI f0) 3 pr br fe se tu = 1 := (by rw [bf_3 hR (by omega), if_neg (show ¬ ¬ f0 % 8 = 4 from fun w => w c_788), if_neg c_789, if_neg c_790])
                                    refine lv_icmp_ne (tgt := 340) hx hb dL_isBoard_297 (by decide) (fun c_805 => ?_) (fun c_805 => ?_)
                                    · exact absurd hq804 c_805
                                    · refine lv_aload_n hx hb dL_isBoard_300 rfl (lv_at hl 7 rfl) ?_
                                      refine lv_iload hx hb dL_isBoard_301 (lv_at hl 4 rfl) ?_
                                      refine lv_iconst (v := 4) hx hb dL_isBoard_303 (by decide) ?_
                                      have hPc := hP.sub (ws' := [(qX, .inr (5, [.ref qg, .ref wg, .ref qR, .ref qd, .ref qh, .ref qk])), (qg, .inr (1, [.ref qb, .ref qt, .int x, .int (nI pl), .int th, .int tu, .int ca])), (qt, .inl (cI, 3, .inl se)), (qb, .inr (0, [.ref qp, .ref qs, .ref qr, .ref qf, .int fl])), (qp, .inl (cI, 12, .inl pr)), (qs, .inl (cI, 12, .inl sb)), (qr, .inl (cI, 4, .inl br)), (qf, .inl (cI, 4, .inl fe))]) [0, 1, 2, 3, 4, 5, 6, 7] rfl
                                      have hDc := (hD0.sub (ws' := [(qX, .inr (5, [.ref qg, .ref wg, .ref qR, .ref qd, .ref qh, .ref qk])), (qg, .inr (1, [.ref qb, .ref qt, .int x, .int (nI pl), .int th, .int tu, .int ca])), (qt, .inl (cI, 3, .inl se)), (qb, .inr (0, [.ref qp, .ref qs, .ref qr, .ref qf, .int fl])), (qp, .inl (cI, 12, .inl pr)), (qs, .inl (cI, 12, .inl sb)), (qr, .inl (cI, 4, .inl br)), (qf, .inl (cI, 4, .inl fe))]) [0, 1, 2, 3, 4, 5, 6, 7] (by decide) rfl).tt
                                      refine vp_callSi (va_Run.run (va_runV (As := [.int (nI f0), .int 4]) (rest := []) ⟨hx, hb, hml, hown, hts⟩ (c_X5_field l G cI cC cZ cG s.heap.size qX wg qR qd qh qk qg qt qb qp qs qr qf pr sb br fe se fl x pl th tu ca (nI f0) 4) (cf_RL_64 hts ⟨Nat.le_of_ble_eq_true rfl, Nat.le_of_ble_eq_true rfl⟩) (pre_V hK hPc hDc (ci := 5) (q0 := 0) rfl rfl) rfl rfl hl.1 rfl (lv_room (Nat.le_of_ble_eq_true rfl)) dL_isBoard_304 ⟨Nat.le_of_ble_eq_true rfl, Nat.le_of_ble_eq_true rfl⟩)) (fun r806 hr806 => ?_)
                                      subst hr806
                                      refine lv_iload hx hb dL_isBoard_307 (lv_at hl 1 rfl) ?_
                                      refine lv_iconst (v := 3) hx hb dL_isBoard_309 (by decide) ?_
                                      refine lv_icmp_lt (tgt := 320) hx hb dL_isBoard_310 (by decide) (fun c_807 => ?_) (fun c_807 => ?_)
                                      · refine lv_iload hx hb dL_isBoard_320 (lv_at hl 6 rfl) ?_
                                        refine lv_goto (tgt := 337) hx hb dL_isBoard_322 (by decide) ?_
                                        have hq808 : p_field (nI f0) 4 pr br fe se tu = (-6) := (by rw [bf_4 hR (by omega), if_pos (fun w => c_789 w.2)])
                                        refine lv_icmp_eq (tgt := 342) hx hb dL_isBoard_337 (by decide) (fun c_809 => ?_) (fun c_809 => ?_)
                                        · refine lv_iload hx hb dL_isBoard_342 (lv_at hl 5 rfl) ?_
                                          refine lv_iload hx hb dL_isBoard_344 (lv_at hl 1 rfl) ?_
                                          refine lv_iconst (v := 3) hx hb dL_isBoard_346 (by decide) ?_
                                          refine lv_icmp_ne (tgt := 360) hx hb dL_isBoard_347 (by decide) (fun c_810 => ?_) (fun c_810 => ?_)
                                          · refine lv_iconst (v := 0) hx hb dL_isBoard_360 (by decide) ?_
                                            refine lv_ior hx hb dL_isBoard_361 ?_
                                            refine lv_istore (lv' := [(6, .int (fs ||| 0)), (11, .int (((vb ((3 * (f0 / 8)) + 2)) + (vg 1)) - (vg 6))), (10, .int 1), (9, .int (nI (3 * (f0 / 8)))), (8, .int lo), (7, .int (nI f0)), (5, .int (-6)), (0, .ref qX), (1, .ref yp), (2, .ref ys), (3, .ref yb), (4, .ref yg)]) hx hb dL_isBoard_362 hl (by decide) rfl (fun ls hl => ?_)
                                            refine lv_iinc (v := nI (f0 + 1)) (lv' := [(7, .int (nI (f0 + 1))), (6, .int (fs ||| 0)), (11, .int (((vb ((3 * (f0 / 8)) + 2)) + (vg 1)) - (vg 6))), (10, .int 1), (9, .int (nI (3 * (f0 / 8)))), (8, .int lo), (5, .int (-6)), (0, .ref qX), (1, .ref yp), (2, .ref ys), (3, .ref yb), (4, .ref yg)]) hx hb dL_isBoard_364 hl (k := 5) rfl (nI_inc f0) (by decide) rfl (fun ls hl => ?_)
                                            refine lv_goto (tgt := 118) hx hb dL_isBoard_367 (by decide) ?_
                                            exact ih2 (f0 + 1) (fs ||| 0) (by omega) (by rw [hfs, lfs_f (fun w => c_789 w.2)]) (by omega) _ (lv_sub hl [0, 1, 6, 7, 8, 9, 10, 11] rfl)
                                          · exact absurd c_810 (by decide)
                                        · exact absurd hq808 c_809
                                      · exact absurd c_807 (by decide)
                                · exact absurd c_800 (by omega)
                          · refine lv_iconst (v := 2) hx hb dL_isBoard_211 (by decide) ?_
                            refine lv_goto (tgt := 216) hx hb dL_isBoard_212 (by decide) ?_
                            refine lv_istore (lv' := [(10, .int 2), (9, .int (nI (3 * (f0 / 8)))), (8, .int lo), (7, .int (nI f0)), (6, .int fs), (5, .int (-6)), (0, .ref qX), (1, .ref yp), (2, .ref ys), (3, .ref yb), (4, .ref yg)]) hx hb dL_isBoard_216 hl (by decide) rfl (fun ls hl => ?_)
                            refine lv_aload_n hx hb dL_isBoard_218 rfl (lv_at hl 9 rfl) ?_
                            refine lv_iload hx hb dL_isBoard_219 (lv_at hl 1 rfl) ?_
                            refine lv_iconst (v := 2) hx hb dL_isBoard_221 (by decide) ?_
                            refine zi_add hx hb (3 * (f0 / 8)) 2 dL_isBoard_222 rfl rfl ?_
                            refine za_ld hx hb hK.1 hP 12 0 rfl rfl ((3 * (f0 / 8)) + 2) rfl (by omega) (by decide) dL_isBoard_223 ?_
                            refine lv_aload hx hb dL_isBoard_224 (lv_at hl 10 rfl) ?_
                            refine lv_iconst (v := 1) hx hb dL_isBoard_226 (by decide) ?_
                            refine za_ld hx hb hK.1 hP 13 0 rfl rfl 1 rfl (by decide) (by decide) dL_isBoard_227 ?_
                            refine lv_iadd hx hb dL_isBoard_228 ?_
                            refine lv_aload hx hb dL_isBoard_229 (lv_at hl 10 rfl) ?_
                            refine lv_bipush (v := 6) hx hb dL_isBoard_231 (by decide) ?_
                            refine za_ld hx hb hK.1 hP 13 0 rfl rfl 6 rfl (by decide) (by decide) dL_isBoard_233 ?_
                            refine lv_isub hx hb dL_isBoard_234 ?_
                            refine lv_istore (lv' := [(11, .int (((vb ((3 * (f0 / 8)) + 2)) + (vg 1)) - (vg 6))), (10, .int 2), (9, .int (nI (3 * (f0 / 8)))), (8, .int lo), (7, .int (nI f0)), (6, .int fs), (5, .int (-6)), (0, .ref qX), (1, .ref yp), (2, .ref ys), (3, .ref yb), (4, .ref yg)]) hx hb dL_isBoard_235 hl (by decide) rfl (fun ls hl => ?_)
                            refine lv_aload_n hx hb dL_isBoard_237 rfl (lv_at hl 7 rfl) ?_
                            refine lv_iload hx hb dL_isBoard_238 (lv_at hl 4 rfl) ?_
                            refine lv_iconst (v := 0) hx hb dL_isBoard_240 (by decide) ?_
                            have hPc := hP.sub (ws' := [(qX, .inr (5, [.ref qg, .ref wg, .ref qR, .ref qd, .ref qh, .ref qk])), (qg, .inr (1, [.ref qb, .ref qt, .int x, .int (nI pl), .int th, .int tu, .int ca])), (qt, .inl (cI, 3, .inl se)), (qb, .inr (0, [.ref qp, .ref qs, .ref qr, .ref qf, .int fl])), (qp, .inl (cI, 12, .inl pr)), (qs, .inl (cI, 12, .inl sb)), (qr, .inl (cI, 4, .inl br)), (qf, .inl (cI, 4, .inl fe))]) [0, 1, 2, 3, 4, 5, 6, 7] rfl
                            have hDc := (hD0.sub (ws' := [(qX, .inr (5, [.ref qg, .ref wg, .ref qR, .ref qd, .ref qh, .ref qk])), (qg, .inr (1, [.ref qb, .ref qt, .int x, .int (nI pl), .int th, .int tu, .int ca])), (qt, .inl (cI, 3, .inl se)), (qb, .inr (0, [.ref qp, .ref qs, .ref qr, .ref qf, .int fl])), (qp, .inl (cI, 12, .inl pr)), (qs, .inl (cI, 12, .inl sb)), (qr, .inl (cI, 4, .inl br)), (qf, .inl (cI, 4, .inl fe))]) [0, 1, 2, 3, 4, 5, 6, 7] (by decide) rfl).tt
                            refine vp_callSi (va_Run.run (va_runV (As := [.int (nI f0), .int 0]) (rest := []) ⟨hx, hb, hml, hown, hts⟩ (c_X5_field l G cI cC cZ cG s.heap.size qX wg qR qd qh qk qg qt qb qp qs qr qf pr sb br fe se fl x pl th tu ca (nI f0) 0) (cf_RL_64 hts ⟨Nat.le_of_ble_eq_true rfl, Nat.le_of_ble_eq_true rfl⟩) (pre_V hK hPc hDc (ci := 5) (q0 := 0) rfl rfl) rfl rfl hl.1 rfl (lv_room (Nat.le_of_ble_eq_true rfl)) dL_isBoard_241 ⟨Nat.le_of_ble_eq_true rfl, Nat.le_of_ble_eq_true rfl⟩)) (fun r811 hr811 => ?_)
                            subst hr811
                            refine lv_aload_n hx hb dL_isBoard_244 rfl (lv_at hl 8 rfl) ?_
                            refine lv_iload hx hb dL_isBoard_245 (lv_at hl 4 rfl) ?_
                            have hPc := hP.sub (ws' := [(yp, .inl (cI, 12, .inl vp))]) [10] rfl
                            have hDc := (hD0.sub (ws' := [(yp, .inl (cI, 12, .inl vp))]) [10] (by decide) rfl).tt
                            refine vp_callSi (va_Run.run (va_runS (As := [.ref yp, .int (nI f0)]) (rest := [.int (p_field (nI f0) 0 pr br fe se tu)]) ⟨hx, hb, hml, hown, hts⟩ (c_L_all l G cI cC cZ cG s.heap.size yp vp (nI f0)) (cf_RL_29 hts ⟨Nat.le_of_ble_eq_true rfl, Nat.le_of_ble_eq_true rfl⟩) (pre_S hK hPc hDc) rfl rfl hl.1 rfl (lv_room (Nat.le_of_ble_eq_true rfl)) dL_isBoard_247 ⟨Nat.le_of_ble_eq_true rfl, Nat.le_of_ble_eq_true rfl⟩)) (fun r812 hr812 => ?_)
                            subst hr812
                            have hf813 := (@ao_le vp (nI f0) 4)
                            have hq814 : p_field (nI f0) 0 pr br fe se tu = nI (ao vp (nI f0) 4) := (bf_0 hR (by omega))
                            refine lv_icmp_ne (tgt := 340) hx hb dL_isBoard_250 (by decide) (fun c_815 => ?_) (fun c_815 => ?_)
                            · exact absurd hq814 c_815
                            · refine lv_aload_n hx hb dL_isBoard_253 rfl (lv_at hl 7 rfl) ?_
                              refine lv_iload hx hb dL_isBoard_254 (lv_at hl 4 rfl) ?_
                              refine lv_iconst (v := 1) hx hb dL_isBoard_256 (by decide) ?_
                              have hPc := hP.sub (ws' := [(qX, .inr (5, [.ref qg, .ref wg, .ref qR, .ref qd, .ref qh, .ref qk])), (qg, .inr (1, [.ref qb, .ref qt, .int x, .int (nI pl), .int th, .int tu, .int ca])), (qt, .inl (cI, 3, .inl se)), (qb, .inr (0, [.ref qp, .ref qs, .ref qr, .ref qf, .int fl])), (qp, .inl (cI, 12, .inl pr)), (qs, .inl (cI, 12, .inl sb)), (qr, .inl (cI, 4, .inl br)), (qf, .inl (cI, 4, .inl fe))]) [0, 1, 2, 3, 4, 5, 6, 7] rfl
                              have hDc := (hD0.sub (ws' := [(qX, .inr (5, [.ref qg, .ref wg, .ref qR, .ref qd, .ref qh, .ref qk])), (qg, .inr (1, [.ref qb, .ref qt, .int x, .int (nI pl), .int th, .int tu, .int ca])), (qt, .inl (cI, 3, .inl se)), (qb, .inr (0, [.ref qp, .ref qs, .ref qr, .ref qf, .int fl])), (qp, .inl (cI, 12, .inl pr)), (qs, .inl (cI, 12, .inl sb)), (qr, .inl (cI, 4, .inl br)), (qf, .inl (cI, 4, .inl fe))]) [0, 1, 2, 3, 4, 5, 6, 7] (by decide) rfl).tt
                              refine vp_callSi (va_Run.run (va_runV (As := [.int (nI f0), .int 1]) (rest := []) ⟨hx, hb, hml, hown, hts⟩ (c_X5_field l G cI cC cZ cG s.heap.size qX wg qR qd qh qk qg qt qb qp qs qr qf pr sb br fe se fl x pl th tu ca (nI f0) 1) (cf_RL_64 hts ⟨Nat.le_of_ble_eq_true rfl, Nat.le_of_ble_eq_true rfl⟩) (pre_V hK hPc hDc (ci := 5) (q0 := 0) rfl rfl) rfl rfl hl.1 rfl (lv_room (Nat.le_of_ble_eq_true rfl)) dL_isBoard_257 ⟨Nat.le_of_ble_eq_true rfl, Nat.le_of_ble_eq_true rfl⟩)) (fun r816 hr816 => ?_)
                              subst hr816
                              refine lv_iload hx hb dL_isBoard_260 (lv_at hl 3 rfl) ?_
                              have hq817 : p_field (nI f0) 1 pr br fe se tu = lo := (by rw [bf_1 hR (by omega), hlo])
                              refine lv_icmp_ne (tgt := 340) hx hb dL_isBoard_262 (by decide) (fun c_818 => ?_) (fun c_818 => ?_)
                              · exact absurd hq817 c_818
                              · refine lv_aload_n hx hb dL_isBoard_265 rfl (lv_at hl 7 rfl) ?_
                                refine lv_iload hx hb dL_isBoard_266 (lv_at hl 4 rfl) ?_
                                refine lv_iconst (v := 2) hx hb dL_isBoard_268 (by decide) ?_
                                have hPc := hP.sub (ws' := [(qX, .inr (5, [.ref qg, .ref wg, .ref qR, .ref qd, .ref qh, .ref qk])), (qg, .inr (1, [.ref qb, .ref qt, .int x, .int (nI pl), .int th, .int tu, .int ca])), (qt, .inl (cI, 3, .inl se)), (qb, .inr (0, [.ref qp, .ref qs, .ref qr, .ref qf, .int fl])), (qp, .inl (cI, 12, .inl pr)), (qs, .inl (cI, 12, .inl sb)), (qr, .inl (cI, 4, .inl br)), (qf, .inl (cI, 4, .inl fe))]) [0, 1, 2, 3, 4, 5, 6, 7] rfl
                                have hDc := (hD0.sub (ws' := [(qX, .inr (5, [.ref qg, .ref wg, .ref qR, .ref qd, .ref qh, .ref qk])), (qg, .inr (1, [.ref qb, .ref qt, .int x, .int (nI pl), .int th, .int tu, .int ca])), (qt, .inl (cI, 3, .inl se)), (qb, .inr (0, [.ref qp, .ref qs, .ref qr, .ref qf, .int fl])), (qp, .inl (cI, 12, .inl pr)), (qs, .inl (cI, 12, .inl sb)), (qr, .inl (cI, 4, .inl br)), (qf, .inl (cI, 4, .inl fe))]) [0, 1, 2, 3, 4, 5, 6, 7] (by decide) rfl).tt
                                refine vp_callSi (va_Run.run (va_runV (As := [.int (nI f0), .int 2]) (rest := []) ⟨hx, hb, hml, hown, hts⟩ (c_X5_field l G cI cC cZ cG s.heap.size qX wg qR qd qh qk qg qt qb qp qs qr qf pr sb br fe se fl x pl th tu ca (nI f0) 2) (cf_RL_64 hts ⟨Nat.le_of_ble_eq_true rfl, Nat.le_of_ble_eq_true rfl⟩) (pre_V hK hPc hDc (ci := 5) (q0 := 0) rfl rfl) rfl rfl hl.1 rfl (lv_room (Nat.le_of_ble_eq_true rfl)) dL_isBoard_269 ⟨Nat.le_of_ble_eq_true rfl, Nat.le_of_ble_eq_true rfl⟩)) (fun r819 hr819 => ?_)
                                subst hr819
                                refine lv_iload hx hb dL_isBoard_272 (lv_at hl 4 rfl) ?_
                                refine lv_bipush (v := 8) hx hb dL_isBoard_274 (by decide) ?_
                                refine zi_rem hx hb f0 8 dL_isBoard_276 rfl rfl (by omega) (by decide) (by decide) ?_
                                refine z0_ne (tgt := 284) hx hb (f0 % 8) dL_isBoard_277 (by decide) rfl (by omega) (fun c_820 => ?_) (fun c_820 => ?_)
                                · refine lv_iconst (v := 0) hx hb dL_isBoard_284 (by decide) ?_
                                  have hq821 : p_field (nI f0) 2 pr br fe se tu = 0 := (by rw [bf_2 hR (by omega), if_neg c_820])
                                  refine lv_icmp_ne (tgt := 340) hx hb dL_isBoard_285 (by decide) (fun c_822 => ?_) (fun c_822 => ?_)
                                  · exact absurd hq821 c_822
                                  · refine lv_aload_n hx hb dL_isBoard_288 rfl (lv_at hl 7 rfl) ?_
                                    refine lv_iload hx hb dL_isBoard_289 (lv_at hl 4 rfl) ?_
                                    refine lv_iconst (v := 3) hx hb dL_isBoard_291 (by decide) ?_
                                    have hPc := hP.sub (ws' := [(qX, .inr (5, [.ref qg, .ref wg, .ref qR, .ref qd, .ref qh, .ref qk])), (qg, .inr (1, [.ref qb, .ref qt, .int x, .int (nI pl), .int th, .int tu, .int ca])), (qt, .inl (cI, 3, .inl se)), (qb, .inr (0, [.ref qp, .ref qs, .ref qr, .ref qf, .int fl])), (qp, .inl (cI, 12, .inl pr)), (qs, .inl (cI, 12, .inl sb)), (qr, .inl (cI, 4, .inl br)), (qf, .inl (cI, 4, .inl fe))]) [0, 1, 2, 3, 4, 5, 6, 7] rfl
                                    have hDc := (hD0.sub (ws' := [(qX, .inr (5, [.ref qg, .ref wg, .ref qR, .ref qd, .ref qh, .ref qk])), (qg, .inr (1, [.ref qb, .ref qt, .int x, .int (nI pl), .int th, .int tu, .int ca])), (qt, .inl (cI, 3, .inl se)), (qb, .inr (0, [.ref qp, .ref qs, .ref qr, .ref qf, .int fl])), (qp, .inl (cI, 12, .inl pr)), (qs, .inl (cI, 12, .inl sb)), (qr, .inl (cI, 4, .inl br)), (qf, .inl (cI, 4, .inl fe))]) [0, 1, 2, 3, 4, 5, 6, 7] (by decide) rfl).tt
                                    refine vp_callSi (va_Run.run (va_runV (As := [.int (nI f0), .int 3]) (rest := []) ⟨hx, hb, hml, hown, hts⟩ (c_X5_field l G cI cC cZ cG s.heap.size qX wg qR qd qh qk qg qt qb qp qs qr qf pr sb br fe se fl x pl th tu ca (nI f0) 3) (cf_RL_64 hts ⟨Nat.le_of_ble_eq_true rfl, Nat.le_of_ble_eq_true rfl⟩) (pre_V hK hPc hDc (ci := 5) (q0 := 0) rfl rfl) rfl rfl hl.1 rfl (lv_room (Nat.le_of_ble_eq_true rfl)) dL_isBoard_292 ⟨Nat.le_of_ble_eq_true rfl, Nat.le_of_ble_eq_true rfl⟩)) (fun r823 hr823 => ?_)
                                    subst hr823
                                    refine lv_iload hx hb dL_isBoard_295 (lv_at hl 1 rfl) ?_
                                    have hq824 : p_field (nI f0) 3 pr br fe se tu = 2 := (by rw [bf_3 hR (by omega), if_neg (show ¬ ¬ f0 % 8 = 4 from fun w => w c_788), if_neg c_789, if_pos c_790])
                                    refine lv_icmp_ne (tgt := 340) hx hb dL_isBoard_297 (by decide) (fun c_825 => ?_) (fun c_825 => ?_)
                                    · exact absurd hq824 c_825
                                    · refine lv_aload_n hx hb dL_isBoard_300 rfl (lv_at hl 7 rfl) ?_
                                      refine lv_iload hx hb dL_isBoard_301 (lv_at hl 4 rfl) ?_
                                      refine lv_iconst (v := 4) hx hb dL_isBoard_303 (by decide) ?_
                                      have hPc := hP.sub (ws' := [(qX, .inr (5, [.ref qg, .ref wg, .ref qR, .ref qd, .ref qh, .ref qk])), (qg, .inr (1, [.ref qb, .ref qt, .int x, .int (nI pl), .int th, .int tu, .int ca])), (qt, .inl (cI, 3, .inl se)), (qb, .inr (0, [.ref qp, .ref qs, .ref qr, .ref qf, .int fl])), (qp, .inl (cI, 12, .inl pr)), (qs, .inl (cI, 12, .inl sb)), (qr, .inl (cI, 4, .inl br)), (qf, .inl (cI, 4, .inl fe))]) [0, 1, 2, 3, 4, 5, 6, 7] rfl
                                      have hDc := (hD0.sub (ws' := [(qX, .inr (5, [.ref qg, .ref wg, .ref qR, .ref qd, .ref qh, .ref qk])), (qg, .inr (1, [.ref qb, .ref qt, .int x, .int (nI pl), .int th, .int tu, .int ca])), (qt, .inl (cI, 3, .inl se)), (qb, .inr (0, [.ref qp, .ref qs, .ref qr, .ref qf, .int fl])), (qp, .inl (cI, 12, .inl pr)), (qs, .inl (cI, 12, .inl sb)), (qr, .inl (cI, 4, .inl br)), (qf, .inl (cI, 4, .inl fe))]) [0, 1, 2, 3, 4, 5, 6, 7] (by decide) rfl).tt
                                      refine vp_callSi (va_Run.run (va_runV (As := [.int (nI f0), .int 4]) (rest := []) ⟨hx, hb, hml, hown, hts⟩ (c_X5_field l G cI cC cZ cG s.heap.size qX wg qR qd qh qk qg qt qb qp qs qr qf pr sb br fe se fl x pl th tu ca (nI f0) 4) (cf_RL_64 hts ⟨Nat.le_of_ble_eq_true rfl, Nat.le_of_ble_eq_true rfl⟩) (pre_V hK hPc hDc (ci := 5) (q0 := 0) rfl rfl) rfl rfl hl.1 rfl (lv_room (Nat.le_of_ble_eq_true rfl)) dL_isBoard_304 ⟨Nat.le_of_ble_eq_true rfl, Nat.le_of_ble_eq_true rfl⟩)) (fun r826 hr826 => ?_)
                                      subst hr826
                                      refine lv_iload hx hb dL_isBoard_307 (lv_at hl 1 rfl) ?_
                                      refine lv_iconst (v := 3) hx hb dL_isBoard_309 (by decide) ?_
                                      refine lv_icmp_lt (tgt := 320) hx hb dL_isBoard_310 (by decide) (fun c_827 => ?_) (fun c_827 => ?_)
                                      · refine lv_iload hx hb dL_isBoard_320 (lv_at hl 6 rfl) ?_
                                        refine lv_goto (tgt := 337) hx hb dL_isBoard_322 (by decide) ?_
                                        have hq828 : p_field (nI f0) 4 pr br fe se tu = (-6) := (by rw [bf_4 hR (by omega), if_pos (fun w => c_789 w.2)])
                                        refine lv_icmp_eq (tgt := 342) hx hb dL_isBoard_337 (by decide) (fun c_829 => ?_) (fun c_829 => ?_)
                                        · refine lv_iload hx hb dL_isBoard_342 (lv_at hl 5 rfl) ?_
                                          refine lv_iload hx hb dL_isBoard_344 (lv_at hl 1 rfl) ?_
                                          refine lv_iconst (v := 3) hx hb dL_isBoard_346 (by decide) ?_
                                          refine lv_icmp_ne (tgt := 360) hx hb dL_isBoard_347 (by decide) (fun c_830 => ?_) (fun c_830 => ?_)
                                          · refine lv_iconst (v := 0) hx hb dL_isBoard_360 (by decide) ?_
                                            refine lv_ior hx hb dL_isBoard_361 ?_
                                            refine lv_istore (lv' := [(6, .int (fs ||| 0)), (11, .int (((vb ((3 * (f0 / 8)) + 2)) + (vg 1)) - (vg 6))), (10, .int 2), (9, .int (nI (3 * (f0 / 8)))), (8, .int lo), (7, .int (nI f0)), (5, .int (-6)), (0, .ref qX), (1, .ref yp), (2, .ref ys), (3, .ref yb), (4, .ref yg)]) hx hb dL_isBoard_362 hl (by decide) rfl (fun ls hl => ?_)
                                            refine lv_iinc (v := nI (f0 + 1)) (lv' := [(7, .int (nI (f0 + 1))), (6, .int (fs ||| 0)), (11, .int (((vb ((3 * (f0 / 8)) + 2)) + (vg 1)) - (vg 6))), (10, .int 2), (9, .int (nI (3 * (f0 / 8)))), (8, .int lo), (5, .int (-6)), (0, .ref qX), (1, .ref yp), (2, .ref ys), (3, .ref yb), (4, .ref yg)]) hx hb dL_isBoard_364 hl (k := 5) rfl (nI_inc f0) (by decide) rfl (fun ls hl => ?_)
                                            refine lv_goto (tgt := 118) hx hb dL_isBoard_367 (by decide) ?_
                                            exact ih2 (f0 + 1) (fs ||| 0) (by omega) (by rw [hfs, lfs_f (fun w => c_789 w.2)]) (by omega) _ (lv_sub hl [0, 1, 6, 7, 8, 9, 10, 11] rfl)
                                          · exact absurd c_830 (by decide)
                                        · exact absurd hq828 c_829
                                      · exact absurd c_827 (by decide)
                                · exact absurd c_820 (by omega)
                        · refine lv_iconst (v := 3) hx hb dL_isBoard_197 (by decide) ?_
                          refine lv_goto (tgt := 216) hx hb dL_isBoard_198 (by decide) ?_
                          refine lv_istore (lv' := [(10, .int 3), (9, .int (nI (3 * (f0 / 8)))), (8, .int lo), (7, .int (nI f0)), (6, .int fs), (5, .int (-6)), (0, .ref qX), (1, .ref yp), (2, .ref ys), (3, .ref yb), (4, .ref yg)]) hx hb dL_isBoard_216 hl (by decide) rfl (fun ls hl => ?_)
                          refine lv_aload_n hx hb dL_isBoard_218 rfl (lv_at hl 9 rfl) ?_
                          refine lv_iload hx hb dL_isBoard_219 (lv_at hl 1 rfl) ?_
                          refine lv_iconst (v := 2) hx hb dL_isBoard_221 (by decide) ?_
                          refine zi_add hx hb (3 * (f0 / 8)) 2 dL_isBoard_222 rfl rfl ?_
                          refine za_ld hx hb hK.1 hP 12 0 rfl rfl ((3 * (f0 / 8)) + 2) rfl (by omega) (by decide) dL_isBoard_223 ?_
                          refine lv_aload hx hb dL_isBoard_224 (lv_at hl 10 rfl) ?_
                          refine lv_iconst (v := 1) hx hb dL_isBoard_226 (by decide) ?_
                          refine za_ld hx hb hK.1 hP 13 0 rfl rfl 1 rfl (by decide) (by decide) dL_isBoard_227 ?_
                          refine lv_iadd hx hb dL_isBoard_228 ?_
                          refine lv_aload hx hb dL_isBoard_229 (lv_at hl 10 rfl) ?_
                          refine lv_bipush (v := 6) hx hb dL_isBoard_231 (by decide) ?_
                          refine za_ld hx hb hK.1 hP 13 0 rfl rfl 6 rfl (by decide) (by decide) dL_isBoard_233 ?_
                          refine lv_isub hx hb dL_isBoard_234 ?_
                          refine lv_istore (lv' := [(11, .int (((vb ((3 * (f0 / 8)) + 2)) + (vg 1)) - (vg 6))), (10, .int 3), (9, .int (nI (3 * (f0 / 8)))), (8, .int lo), (7, .int (nI f0)), (6, .int fs), (5, .int (-6)), (0, .ref qX), (1, .ref yp), (2, .ref ys), (3, .ref yb), (4, .ref yg)]) hx hb dL_isBoard_235 hl (by decide) rfl (fun ls hl => ?_)
                          refine lv_aload_n hx hb dL_isBoard_237 rfl (lv_at hl 7 rfl) ?_
                          refine lv_iload hx hb dL_isBoard_238 (lv_at hl 4 rfl) ?_
                          refine lv_iconst (v := 0) hx hb dL_isBoard_240 (by decide) ?_
                          have hPc := hP.sub (ws' := [(qX, .inr (5, [.ref qg, .ref wg, .ref qR, .ref qd, .ref qh, .ref qk])), (qg, .inr (1, [.ref qb, .ref qt, .int x, .int (nI pl), .int th, .int tu, .int ca])), (qt, .inl (cI, 3, .inl se)), (qb, .inr (0, [.ref qp, .ref qs, .ref qr, .ref qf, .int fl])), (qp, .inl (cI, 12, .inl pr)), (qs, .inl (cI, 12, .inl sb)), (qr, .inl (cI, 4, .inl br)), (qf, .inl (cI, 4, .inl fe))]) [0, 1, 2, 3, 4, 5, 6, 7] rfl
                          have hDc := (hD0.sub (ws' := [(qX, .inr (5, [.ref qg, .ref wg, .ref qR, .ref qd, .ref qh, .ref qk])), (qg, .inr (1, [.ref qb, .ref qt, .int x, .int (nI pl), .int th, .int tu, .int ca])), (qt, .inl (cI, 3, .inl se)), (qb, .inr (0, [.ref qp, .ref qs, .ref qr, .ref qf, .int fl])), (qp, .inl (cI, 12, .inl pr)), (qs, .inl (cI, 12, .inl sb)), (qr, .inl (cI, 4, .inl br)), (qf, .inl (cI, 4, .inl fe))]) [0, 1, 2, 3, 4, 5, 6, 7] (by decide) rfl).tt
                          refine vp_callSi (va_Run.run (va_runV (As := [.int (nI f0), .int 0]) (rest := []) ⟨hx, hb, hml, hown, hts⟩ (c_X5_field l G cI cC cZ cG s.heap.size qX wg qR qd qh qk qg qt qb qp qs qr qf pr sb br fe se fl x pl th tu ca (nI f0) 0) (cf_RL_64 hts ⟨Nat.le_of_ble_eq_true rfl, Nat.le_of_ble_eq_true rfl⟩) (pre_V hK hPc hDc (ci := 5) (q0 := 0) rfl rfl) rfl rfl hl.1 rfl (lv_room (Nat.le_of_ble_eq_true rfl)) dL_isBoard_241 ⟨Nat.le_of_ble_eq_true rfl, Nat.le_of_ble_eq_true rfl⟩)) (fun r831 hr831 => ?_)
                          subst hr831
                          refine lv_aload_n hx hb dL_isBoard_244 rfl (lv_at hl 8 rfl) ?_
                          refine lv_iload hx hb dL_isBoard_245 (lv_at hl 4 rfl) ?_
                          have hPc := hP.sub (ws' := [(yp, .inl (cI, 12, .inl vp))]) [10] rfl
                          have hDc := (hD0.sub (ws' := [(yp, .inl (cI, 12, .inl vp))]) [10] (by decide) rfl).tt
                          refine vp_callSi (va_Run.run (va_runS (As := [.ref yp, .int (nI f0)]) (rest := [.int (p_field (nI f0) 0 pr br fe se tu)]) ⟨hx, hb, hml, hown, hts⟩ (c_L_all l G cI cC cZ cG s.heap.size yp vp (nI f0)) (cf_RL_29 hts ⟨Nat.le_of_ble_eq_true rfl, Nat.le_of_ble_eq_true rfl⟩) (pre_S hK hPc hDc) rfl rfl hl.1 rfl (lv_room (Nat.le_of_ble_eq_true rfl)) dL_isBoard_247 ⟨Nat.le_of_ble_eq_true rfl, Nat.le_of_ble_eq_true rfl⟩)) (fun r832 hr832 => ?_)
                          subst hr832
                          have hf833 := (@ao_le vp (nI f0) 4)
                          have hq834 : p_field (nI f0) 0 pr br fe se tu = nI (ao vp (nI f0) 4) := (bf_0 hR (by omega))
                          refine lv_icmp_ne (tgt := 340) hx hb dL_isBoard_250 (by decide) (fun c_835 => ?_) (fun c_835 => ?_)
                          · exact absurd hq834 c_835
                          · refine lv_aload_n hx hb dL_isBoard_253 rfl (lv_at hl 7 rfl) ?_
                            refine lv_iload hx hb dL_isBoard_254 (lv_at hl 4 rfl) ?_
                            refine lv_iconst (v := 1) hx hb dL_isBoard_256 (by decide) ?_
                            have hPc := hP.sub (ws' := [(qX, .inr (5, [.ref qg, .ref wg, .ref qR, .ref qd, .ref qh, .ref qk])), (qg, .inr (1, [.ref qb, .ref qt, .int x, .int (nI pl), .int th, .int tu, .int ca])), (qt, .inl (cI, 3, .inl se)), (qb, .inr (0, [.ref qp, .ref qs, .ref qr, .ref qf, .int fl])), (qp, .inl (cI, 12, .inl pr)), (qs, .inl (cI, 12, .inl sb)), (qr, .inl (cI, 4, .inl br)), (qf, .inl (cI, 4, .inl fe))]) [0, 1, 2, 3, 4, 5, 6, 7] rfl
                            have hDc := (hD0.sub (ws' := [(qX, .inr (5, [.ref qg, .ref wg, .ref qR, .ref qd, .ref qh, .ref qk])), (qg, .inr (1, [.ref qb, .ref qt, .int x, .int (nI pl), .int th, .int tu, .int ca])), (qt, .inl (cI, 3, .inl se)), (qb, .inr (0, [.ref qp, .ref qs, .ref qr, .ref qf, .int fl])), (qp, .inl (cI, 12, .inl pr)), (qs, .inl (cI, 12, .inl sb)), (qr, .inl (cI, 4, .inl br)), (qf, .inl (cI, 4, .inl fe))]) [0, 1, 2, 3, 4, 5, 6, 7] (by decide) rfl).tt
                            refine vp_callSi (va_Run.run (va_runV (As := [.int (nI f0), .int 1]) (rest := []) ⟨hx, hb, hml, hown, hts⟩ (c_X5_field l G cI cC cZ cG s.heap.size qX wg qR qd qh qk qg qt qb qp qs qr qf pr sb br fe se fl x pl th tu ca (nI f0) 1) (cf_RL_64 hts ⟨Nat.le_of_ble_eq_true rfl, Nat.le_of_ble_eq_true rfl⟩) (pre_V hK hPc hDc (ci := 5) (q0 := 0) rfl rfl) rfl rfl hl.1 rfl (lv_room (Nat.le_of_ble_eq_true rfl)) dL_isBoard_257 ⟨Nat.le_of_ble_eq_true rfl, Nat.le_of_ble_eq_true rfl⟩)) (fun r836 hr836 => ?_)
                            subst hr836
                            refine lv_iload hx hb dL_isBoard_260 (lv_at hl 3 rfl) ?_
                            have hq837 : p_field (nI f0) 1 pr br fe se tu = lo := (by rw [bf_1 hR (by omega), hlo])
                            refine lv_icmp_ne (tgt := 340) hx hb dL_isBoard_262 (by decide) (fun c_838 => ?_) (fun c_838 => ?_)
                            · exact absurd hq837 c_838
                            · refine lv_aload_n hx hb dL_isBoard_265 rfl (lv_at hl 7 rfl) ?_
                              refine lv_iload hx hb dL_isBoard_266 (lv_at hl 4 rfl) ?_
                              refine lv_iconst (v := 2) hx hb dL_isBoard_268 (by decide) ?_
                              have hPc := hP.sub (ws' := [(qX, .inr (5, [.ref qg, .ref wg, .ref qR, .ref qd, .ref qh, .ref qk])), (qg, .inr (1, [.ref qb, .ref qt, .int x, .int (nI pl), .int th, .int tu, .int ca])), (qt, .inl (cI, 3, .inl se)), (qb, .inr (0, [.ref qp, .ref qs, .ref qr, .ref qf, .int fl])), (qp, .inl (cI, 12, .inl pr)), (qs, .inl (cI, 12, .inl sb)), (qr, .inl (cI, 4, .inl br)), (qf, .inl (cI, 4, .inl fe))]) [0, 1, 2, 3, 4, 5, 6, 7] rfl
                              have hDc := (hD0.sub (ws' := [(qX, .inr (5, [.ref qg, .ref wg, .ref qR, .ref qd, .ref qh, .ref qk])), (qg, .inr (1, [.ref qb, .ref qt, .int x, .int (nI pl), .int th, .int tu, .int ca])), (qt, .inl (cI, 3, .inl se)), (qb, .inr (0, [.ref qp, .ref qs, .ref qr, .ref qf, .int fl])), (qp, .inl (cI, 12, .inl pr)), (qs, .inl (cI, 12, .inl sb)), (qr, .inl (cI, 4, .inl br)), (qf, .inl (cI, 4, .inl fe))]) [0, 1, 2, 3, 4, 5, 6, 7] (by decide) rfl).tt
                              refine vp_callSi (va_Run.run (va_runV (As := [.int (nI f0), .int 2]) (rest := []) ⟨hx, hb, hml, hown, hts⟩ (c_X5_field l G cI cC cZ cG s.heap.size qX wg qR qd qh qk qg qt qb qp qs qr qf pr sb br fe se fl x pl th tu ca (nI f0) 2) (cf_RL_64 hts ⟨Nat.le_of_ble_eq_true rfl, Nat.le_of_ble_eq_true rfl⟩) (pre_V hK hPc hDc (ci := 5) (q0 := 0) rfl rfl) rfl rfl hl.1 rfl (lv_room (Nat.le_of_ble_eq_true rfl)) dL_isBoard_269 ⟨Nat.le_of_ble_eq_true rfl, Nat.le_of_ble_eq_true rfl⟩)) (fun r839 hr839 => ?_)
                              subst hr839
                              refine lv_iload hx hb dL_isBoard_272 (lv_at hl 4 rfl) ?_
                              refine lv_bipush (v := 8) hx hb dL_isBoard_274 (by decide) ?_
                              refine zi_rem hx hb f0 8 dL_isBoard_276 rfl rfl (by omega) (by decide) (by decide) ?_
                              refine z0_ne (tgt := 284) hx hb (f0 % 8) dL_isBoard_277 (by decide) rfl (by omega) (fun c_840 => ?_) (fun c_840 => ?_)
                              · refine lv_iconst (v := 0) hx hb dL_isBoard_284 (by decide) ?_
                                have hq841 : p_field (nI f0) 2 pr br fe se tu = 0 := (by rw [bf_2 hR (by omega), if_neg c_840])
                                refine lv_icmp_ne (tgt := 340) hx hb dL_isBoard_285 (by decide) (fun c_842 => ?_) (fun c_842 => ?_)
                                · exact absurd hq841 c_842
                                · refine lv_aload_n hx hb dL_isBoard_288 rfl (lv_at hl 7 rfl) ?_
                                  refine lv_iload hx hb dL_isBoard_289 (lv_at hl 4 rfl) ?_
                                  refine lv_iconst (v := 3) hx hb dL_isBoard_291 (by decide) ?_
                                  have hPc := hP.sub (ws' := [(qX, .inr (5, [.ref qg, .ref wg, .ref qR, .ref qd, .ref qh, .ref qk])), (qg, .inr (1, [.ref qb, .ref qt, .int x, .int (nI pl), .int th, .int tu, .int ca])), (qt, .inl (cI, 3, .inl se)), (qb, .inr (0, [.ref qp, .ref qs, .ref qr, .ref qf, .int fl])), (qp, .inl (cI, 12, .inl pr)), (qs, .inl (cI, 12, .inl sb)), (qr, .inl (cI, 4, .inl br)), (qf, .inl (cI, 4, .inl fe))]) [0, 1, 2, 3, 4, 5, 6, 7] rfl
                                  have hDc := (hD0.sub (ws' := [(qX, .inr (5, [.ref qg, .ref wg, .ref qR, .ref qd, .ref qh, .ref qk])), (qg, .inr (1, [.ref qb, .ref qt, .int x, .int (nI pl), .int th, .int tu, .int ca])), (qt, .inl (cI, 3, .inl se)), (qb, .inr (0, [.ref qp, .ref qs, .ref qr, .ref qf, .int fl])), (qp, .inl (cI, 12, .inl pr)), (qs, .inl (cI, 12, .inl sb)), (qr, .inl (cI, 4, .inl br)), (qf, .inl (cI, 4, .inl fe))]) [0, 1, 2, 3, 4, 5, 6, 7] (by decide) rfl).tt
                                  refine vp_callSi (va_Run.run (va_runV (As := [.int (nI f0), .int 3]) (rest := []) ⟨hx, hb, hml, hown, hts⟩ (c_X5_field l G cI cC cZ cG s.heap.size qX wg qR qd qh qk qg qt qb qp qs qr qf pr sb br fe se fl x pl th tu ca (nI f0) 3) (cf_RL_64 hts ⟨Nat.le_of_ble_eq_true rfl, Nat.le_of_ble_eq_true rfl⟩) (pre_V hK hPc hDc (ci := 5) (q0 := 0) rfl rfl) rfl rfl hl.1 rfl (lv_room (Nat.le_of_ble_eq_true rfl)) dL_isBoard_292 ⟨Nat.le_of_ble_eq_true rfl, Nat.le_of_ble_eq_true rfl⟩)) (fun r843 hr843 => ?_)
                                  subst hr843
                                  refine lv_iload hx hb dL_isBoard_295 (lv_at hl 1 rfl) ?_
                                  have hq844 : p_field (nI f0) 3 pr br fe se tu = 3 := (by rw [bf_3 hR (by omega), if_neg (show ¬ ¬ f0 % 8 = 4 from fun w => w c_788), if_pos c_789])
                                  refine lv_icmp_ne (tgt := 340) hx hb dL_isBoard_297 (by decide) (fun c_845 => ?_) (fun c_845 => ?_)
                                  · exact absurd hq844 c_845
                                  · refine lv_aload_n hx hb dL_isBoard_300 rfl (lv_at hl 7 rfl) ?_
                                    refine lv_iload hx hb dL_isBoard_301 (lv_at hl 4 rfl) ?_
                                    refine lv_iconst (v := 4) hx hb dL_isBoard_303 (by decide) ?_
                                    have hPc := hP.sub (ws' := [(qX, .inr (5, [.ref qg, .ref wg, .ref qR, .ref qd, .ref qh, .ref qk])), (qg, .inr (1, [.ref qb, .ref qt, .int x, .int (nI pl), .int th, .int tu, .int ca])), (qt, .inl (cI, 3, .inl se)), (qb, .inr (0, [.ref qp, .ref qs, .ref qr, .ref qf, .int fl])), (qp, .inl (cI, 12, .inl pr)), (qs, .inl (cI, 12, .inl sb)), (qr, .inl (cI, 4, .inl br)), (qf, .inl (cI, 4, .inl fe))]) [0, 1, 2, 3, 4, 5, 6, 7] rfl
                                    have hDc := (hD0.sub (ws' := [(qX, .inr (5, [.ref qg, .ref wg, .ref qR, .ref qd, .ref qh, .ref qk])), (qg, .inr (1, [.ref qb, .ref qt, .int x, .int (nI pl), .int th, .int tu, .int ca])), (qt, .inl (cI, 3, .inl se)), (qb, .inr (0, [.ref qp, .ref qs, .ref qr, .ref qf, .int fl])), (qp, .inl (cI, 12, .inl pr)), (qs, .inl (cI, 12, .inl sb)), (qr, .inl (cI, 4, .inl br)), (qf, .inl (cI, 4, .inl fe))]) [0, 1, 2, 3, 4, 5, 6, 7] (by decide) rfl).tt
                                    refine vp_callSi (va_Run.run (va_runV (As := [.int (nI f0), .int 4]) (rest := []) ⟨hx, hb, hml, hown, hts⟩ (c_X5_field l G cI cC cZ cG s.heap.size qX wg qR qd qh qk qg qt qb qp qs qr qf pr sb br fe se fl x pl th tu ca (nI f0) 4) (cf_RL_64 hts ⟨Nat.le_of_ble_eq_true rfl, Nat.le_of_ble_eq_true rfl⟩) (pre_V hK hPc hDc (ci := 5) (q0 := 0) rfl rfl) rfl rfl hl.1 rfl (lv_room (Nat.le_of_ble_eq_true rfl)) dL_isBoard_304 ⟨Nat.le_of_ble_eq_true rfl, Nat.le_of_ble_eq_true rfl⟩)) (fun r846 hr846 => ?_)
                                    subst hr846
                                    refine lv_iload hx hb dL_isBoard_307 (lv_at hl 1 rfl) ?_
                                    refine lv_iconst (v := 3) hx hb dL_isBoard_309 (by decide) ?_
                                    refine lv_icmp_lt (tgt := 320) hx hb dL_isBoard_310 (by decide) (fun c_847 => ?_) (fun c_847 => ?_)
                                    · exact absurd c_847 (by decide)
                                    · refine lv_aload hx hb dL_isBoard_313 (lv_at hl 11 rfl) ?_
                                      refine lv_iconst (v := 1) hx hb dL_isBoard_315 (by decide) ?_
                                      refine za_ld hx hb hK.1 hP 13 0 rfl rfl 1 rfl (by decide) (by decide) dL_isBoard_316 ?_
                                      refine lv_if_ne (tgt := 325) hx hb dL_isBoard_317 (by decide) (fun c_848 => ?_) (fun c_848 => ?_)
                                      · refine lv_iload hx hb dL_isBoard_325 (lv_at hl 0 rfl) ?_
                                        refine lv_iconst (v := 1) hx hb dL_isBoard_327 (by decide) ?_
                                        refine lv_icmp_ge (tgt := 335) hx hb dL_isBoard_328 (by decide) (fun c_849 => ?_) (fun c_849 => ?_)
                                        · refine lv_iload hx hb dL_isBoard_335 (lv_at hl 0 rfl) ?_
                                          have hq850 : p_field (nI f0) 4 pr br fe se tu = ((vb ((3 * (f0 / 8)) + 2)) + (vg 1)) - (vg 6) := (by rw [bf_4 hR (by omega), if_neg (show ¬ ¬ (f0 % 8 = 4 ∧ vb (3 * (f0 / 8)) = 1) from fun w => w ⟨c_788, c_789⟩), if_neg c_848, if_neg (Int32.not_lt.mpr c_849)])
                                          refine lv_icmp_eq (tgt := 342) hx hb dL_isBoard_337 (by decide) (fun c_851 => ?_) (fun c_851 => ?_)
                                          · refine lv_iload hx hb dL_isBoard_342 (lv_at hl 5 rfl) ?_
                                            refine lv_iload hx hb dL_isBoard_344 (lv_at hl 1 rfl) ?_
                                            refine lv_iconst (v := 3) hx hb dL_isBoard_346 (by decide) ?_
                                            refine lv_icmp_ne (tgt := 360) hx hb dL_isBoard_347 (by decide) (fun c_852 => ?_) (fun c_852 => ?_)
                                            · exact absurd c_852 (by decide)
                                            · refine lv_iconst (v := 1) hx hb dL_isBoard_350 (by decide) ?_
                                              refine lv_iload hx hb dL_isBoard_351 (lv_at hl 4 rfl) ?_
                                              refine lv_bipush (v := 8) hx hb dL_isBoard_353 (by decide) ?_
                                              refine zi_div hx hb f0 8 dL_isBoard_355 rfl rfl (by omega) (by decide) (by decide) ?_
                                              refine lv_ishl hx hb dL_isBoard_356 ?_
                                              refine lv_goto (tgt := 361) hx hb dL_isBoard_357 (by decide) ?_
                                              refine lv_ior hx hb dL_isBoard_361 ?_
                                              refine lv_istore (lv' := [(6, .int (fs ||| (1 <<< ((nI (f0 / 8)) &&& 31)))), (11, .int (((vb ((3 * (f0 / 8)) + 2)) + (vg 1)) - (vg 6))), (10, .int 3), (9, .int (nI (3 * (f0 / 8)))), (8, .int lo), (7, .int (nI f0)), (5, .int (-6)), (0, .ref qX), (1, .ref yp), (2, .ref ys), (3, .ref yb), (4, .ref yg)]) hx hb dL_isBoard_362 hl (by decide) rfl (fun ls hl => ?_)
                                              refine lv_iinc (v := nI (f0 + 1)) (lv' := [(7, .int (nI (f0 + 1))), (6, .int (fs ||| (1 <<< ((nI (f0 / 8)) &&& 31)))), (11, .int (((vb ((3 * (f0 / 8)) + 2)) + (vg 1)) - (vg 6))), (10, .int 3), (9, .int (nI (3 * (f0 / 8)))), (8, .int lo), (5, .int (-6)), (0, .ref qX), (1, .ref yp), (2, .ref ys), (3, .ref yb), (4, .ref yg)]) hx hb dL_isBoard_364 hl (k := 5) rfl (nI_inc f0) (by decide) rfl (fun ls hl => ?_)
                                              refine lv_goto (tgt := 118) hx hb dL_isBoard_367 (by decide) ?_
                                              exact ih2 (f0 + 1) (fs ||| (1 <<< ((nI (f0 / 8)) &&& 31))) (by omega) (by rw [hfs, lfs_t ⟨c_788, c_789⟩]) (by omega) _ (lv_sub hl [0, 1, 6, 7, 8, 9, 10, 11] rfl)
                                          · exact absurd hq850 c_851
                                        · refine lv_iconst (v := 1) hx hb dL_isBoard_331 (by decide) ?_
                                          refine lv_goto (tgt := 337) hx hb dL_isBoard_332 (by decide) ?_
                                          have hq853 : p_field (nI f0) 4 pr br fe se tu = 1 := (by rw [bf_4 hR (by omega), if_neg (show ¬ ¬ (f0 % 8 = 4 ∧ vb (3 * (f0 / 8)) = 1) from fun w => w ⟨c_788, c_789⟩), if_neg c_848, if_pos (Int32.not_le.mp c_849)])
                                          refine lv_icmp_eq (tgt := 342) hx hb dL_isBoard_337 (by decide) (fun c_854 => ?_) (fun c_854 => ?_)
                                          · refine lv_iload hx hb dL_isBoard_342 (lv_at hl 5 rfl) ?_
                                            refine lv_iload hx hb dL_isBoard_344 (lv_at hl 1 rfl) ?_
                                            refine lv_iconst (v := 3) hx hb dL_isBoard_346 (by decide) ?_
                                            refine lv_icmp_ne (tgt := 360) hx hb dL_isBoard_347 (by decide) (fun c_855 => ?_) (fun c_855 => ?_)
                                            · exact absurd c_855 (by decide)
                                            · refine lv_iconst (v := 1) hx hb dL_isBoard_350 (by decide) ?_
                                              refine lv_iload hx hb dL_isBoard_351 (lv_at hl 4 rfl) ?_
                                              refine lv_bipush (v := 8) hx hb dL_isBoard_353 (by decide) ?_
                                              refine zi_div hx hb f0 8 dL_isBoard_355 rfl rfl (by omega) (by decide) (by decide) ?_
                                              refine lv_ishl hx hb dL_isBoard_356 ?_
                                              refine lv_goto (tgt := 361) hx hb dL_isBoard_357 (by decide) ?_
                                              refine lv_ior hx hb dL_isBoard_361 ?_
                                              refine lv_istore (lv' := [(6, .int (fs ||| (1 <<< ((nI (f0 / 8)) &&& 31)))), (11, .int (((vb ((3 * (f0 / 8)) + 2)) + (vg 1)) - (vg 6))), (10, .int 3), (9, .int (nI (3 * (f0 / 8)))), (8, .int lo), (7, .int (nI f0)), (5, .int (-6)), (0, .ref qX), (1, .ref yp), (2, .ref ys), (3, .ref yb), (4, .ref yg)]) hx hb dL_isBoard_362 hl (by decide) rfl (fun ls hl => ?_)
                                              refine lv_iinc (v := nI (f0 + 1)) (lv' := [(7, .int (nI (f0 + 1))), (6, .int (fs ||| (1 <<< ((nI (f0 / 8)) &&& 31)))), (11, .int (((vb ((3 * (f0 / 8)) + 2)) + (vg 1)) - (vg 6))), (10, .int 3), (9, .int (nI (3 * (f0 / 8)))), (8, .int lo), (5, .int (-6)), (0, .ref qX), (1, .ref yp), (2, .ref ys), (3, .ref yb), (4, .ref yg)]) hx hb dL_isBoard_364 hl (k := 5) rfl (nI_inc f0) (by decide) rfl (fun ls hl => ?_)
                                              refine lv_goto (tgt := 118) hx hb dL_isBoard_367 (by decide) ?_
                                              exact ih2 (f0 + 1) (fs ||| (1 <<< ((nI (f0 / 8)) &&& 31))) (by omega) (by rw [hfs, lfs_t ⟨c_788, c_789⟩]) (by omega) _ (lv_sub hl [0, 1, 6, 7, 8, 9, 10, 11] rfl)
                                          · exact absurd hq853 c_854
                                      · refine lv_iload hx hb dL_isBoard_320 (lv_at hl 6 rfl) ?_
                                        refine lv_goto (tgt := 337) hx hb dL_isBoard_322 (by decide) ?_
                                        have hq856 : p_field (nI f0) 4 pr br fe se tu = (-6) := (by rw [bf_4 hR (by omega), if_neg (show ¬ ¬ (f0 % 8 = 4 ∧ vb (3 * (f0 / 8)) = 1) from fun w => w ⟨c_788, c_789⟩), if_pos c_848])
                                        refine lv_icmp_eq (tgt := 342) hx hb dL_isBoard_337 (by decide) (fun c_857 => ?_) (fun c_857 => ?_)
                                        · refine lv_iload hx hb dL_isBoard_342 (lv_at hl 5 rfl) ?_
                                          refine lv_iload hx hb dL_isBoard_344 (lv_at hl 1 rfl) ?_
                                          refine lv_iconst (v := 3) hx hb dL_isBoard_346 (by decide) ?_
                                          refine lv_icmp_ne (tgt := 360) hx hb dL_isBoard_347 (by decide) (fun c_858 => ?_) (fun c_858 => ?_)
                                          · exact absurd c_858 (by decide)
                                          · refine lv_iconst (v := 1) hx hb dL_isBoard_350 (by decide) ?_
                                            refine lv_iload hx hb dL_isBoard_351 (lv_at hl 4 rfl) ?_
                                            refine lv_bipush (v := 8) hx hb dL_isBoard_353 (by decide) ?_
                                            refine zi_div hx hb f0 8 dL_isBoard_355 rfl rfl (by omega) (by decide) (by decide) ?_
                                            refine lv_ishl hx hb dL_isBoard_356 ?_
                                            refine lv_goto (tgt := 361) hx hb dL_isBoard_357 (by decide) ?_
                                            refine lv_ior hx hb dL_isBoard_361 ?_
                                            refine lv_istore (lv' := [(6, .int (fs ||| (1 <<< ((nI (f0 / 8)) &&& 31)))), (11, .int (((vb ((3 * (f0 / 8)) + 2)) + (vg 1)) - (vg 6))), (10, .int 3), (9, .int (nI (3 * (f0 / 8)))), (8, .int lo), (7, .int (nI f0)), (5, .int (-6)), (0, .ref qX), (1, .ref yp), (2, .ref ys), (3, .ref yb), (4, .ref yg)]) hx hb dL_isBoard_362 hl (by decide) rfl (fun ls hl => ?_)
                                            refine lv_iinc (v := nI (f0 + 1)) (lv' := [(7, .int (nI (f0 + 1))), (6, .int (fs ||| (1 <<< ((nI (f0 / 8)) &&& 31)))), (11, .int (((vb ((3 * (f0 / 8)) + 2)) + (vg 1)) - (vg 6))), (10, .int 3), (9, .int (nI (3 * (f0 / 8)))), (8, .int lo), (5, .int (-6)), (0, .ref qX), (1, .ref yp), (2, .ref ys), (3, .ref yb), (4, .ref yg)]) hx hb dL_isBoard_364 hl (k := 5) rfl (nI_inc f0) (by decide) rfl (fun ls hl => ?_)
                                            refine lv_goto (tgt := 118) hx hb dL_isBoard_367 (by decide) ?_
                                            exact ih2 (f0 + 1) (fs ||| (1 <<< ((nI (f0 / 8)) &&& 31))) (by omega) (by rw [hfs, lfs_t ⟨c_788, c_789⟩]) (by omega) _ (lv_sub hl [0, 1, 6, 7, 8, 9, 10, 11] rfl)
                                        · exact absurd hq856 c_857
                              · exact absurd c_840 (by omega)
                      · refine lv_iconst (v := 0) hx hb dL_isBoard_185 (by decide) ?_
                        refine lv_goto (tgt := 216) hx hb dL_isBoard_186 (by decide) ?_
                        refine lv_istore (lv' := [(10, .int 0), (9, .int (nI (3 * (f0 / 8)))), (8, .int lo), (7, .int (nI f0)), (6, .int fs), (5, .int (-6)), (0, .ref qX), (1, .ref yp), (2, .ref ys), (3, .ref yb), (4, .ref yg)]) hx hb dL_isBoard_216 hl (by decide) rfl (fun ls hl => ?_)
                        refine lv_aload_n hx hb dL_isBoard_218 rfl (lv_at hl 9 rfl) ?_
                        refine lv_iload hx hb dL_isBoard_219 (lv_at hl 1 rfl) ?_
                        refine lv_iconst (v := 2) hx hb dL_isBoard_221 (by decide) ?_
                        refine zi_add hx hb (3 * (f0 / 8)) 2 dL_isBoard_222 rfl rfl ?_
                        refine za_ld hx hb hK.1 hP 12 0 rfl rfl ((3 * (f0 / 8)) + 2) rfl (by omega) (by decide) dL_isBoard_223 ?_
                        refine lv_aload hx hb dL_isBoard_224 (lv_at hl 10 rfl) ?_
                        refine lv_iconst (v := 1) hx hb dL_isBoard_226 (by decide) ?_
                        refine za_ld hx hb hK.1 hP 13 0 rfl rfl 1 rfl (by decide) (by decide) dL_isBoard_227 ?_
                        refine lv_iadd hx hb dL_isBoard_228 ?_
                        refine lv_aload hx hb dL_isBoard_229 (lv_at hl 10 rfl) ?_
                        refine lv_bipush (v := 6) hx hb dL_isBoard_231 (by decide) ?_
                        refine za_ld hx hb hK.1 hP 13 0 rfl rfl 6 rfl (by decide) (by decide) dL_isBoard_233 ?_
                        refine lv_isub hx hb dL_isBoard_234 ?_
                        refine lv_istore (lv' := [(11, .int (((vb ((3 * (f0 / 8)) + 2)) + (vg 1)) - (vg 6))), (10, .int 0), (9, .int (nI (3 * (f0 / 8)))), (8, .int lo), (7, .int (nI f0)), (6, .int fs), (5, .int (-6)), (0, .ref qX), (1, .ref yp), (2, .ref ys), (3, .ref yb), (4, .ref yg)]) hx hb dL_isBoard_235 hl (by decide) rfl (fun ls hl => ?_)
                        refine lv_aload_n hx hb dL_isBoard_237 rfl (lv_at hl 7 rfl) ?_
                        refine lv_iload hx hb dL_isBoard_238 (lv_at hl 4 rfl) ?_
                        refine lv_iconst (v := 0) hx hb dL_isBoard_240 (by decide) ?_
                        have hPc := hP.sub (ws' := [(qX, .inr (5, [.ref qg, .ref wg, .ref qR, .ref qd, .ref qh, .ref qk])), (qg, .inr (1, [.ref qb, .ref qt, .int x, .int (nI pl), .int th, .int tu, .int ca])), (qt, .inl (cI, 3, .inl se)), (qb, .inr (0, [.ref qp, .ref qs, .ref qr, .ref qf, .int fl])), (qp, .inl (cI, 12, .inl pr)), (qs, .inl (cI, 12, .inl sb)), (qr, .inl (cI, 4, .inl br)), (qf, .inl (cI, 4, .inl fe))]) [0, 1, 2, 3, 4, 5, 6, 7] rfl
                        have hDc := (hD0.sub (ws' := [(qX, .inr (5, [.ref qg, .ref wg, .ref qR, .ref qd, .ref qh, .ref qk])), (qg, .inr (1, [.ref qb, .ref qt, .int x, .int (nI pl), .int th, .int tu, .int ca])), (qt, .inl (cI, 3, .inl se)), (qb, .inr (0, [.ref qp, .ref qs, .ref qr, .ref qf, .int fl])), (qp, .inl (cI, 12, .inl pr)), (qs, .inl (cI, 12, .inl sb)), (qr, .inl (cI, 4, .inl br)), (qf, .inl (cI, 4, .inl fe))]) [0, 1, 2, 3, 4, 5, 6, 7] (by decide) rfl).tt
                        refine vp_callSi (va_Run.run (va_runV (As := [.int (nI f0), .int 0]) (rest := []) ⟨hx, hb, hml, hown, hts⟩ (c_X5_field l G cI cC cZ cG s.heap.size qX wg qR qd qh qk qg qt qb qp qs qr qf pr sb br fe se fl x pl th tu ca (nI f0) 0) (cf_RL_64 hts ⟨Nat.le_of_ble_eq_true rfl, Nat.le_of_ble_eq_true rfl⟩) (pre_V hK hPc hDc (ci := 5) (q0 := 0) rfl rfl) rfl rfl hl.1 rfl (lv_room (Nat.le_of_ble_eq_true rfl)) dL_isBoard_241 ⟨Nat.le_of_ble_eq_true rfl, Nat.le_of_ble_eq_true rfl⟩)) (fun r859 hr859 => ?_)
                        subst hr859
                        refine lv_aload_n hx hb dL_isBoard_244 rfl (lv_at hl 8 rfl) ?_
                        refine lv_iload hx hb dL_isBoard_245 (lv_at hl 4 rfl) ?_
                        have hPc := hP.sub (ws' := [(yp, .inl (cI, 12, .inl vp))]) [10] rfl
                        have hDc := (hD0.sub (ws' := [(yp, .inl (cI, 12, .inl vp))]) [10] (by decide) rfl).tt
                        refine vp_callSi (va_Run.run (va_runS (As := [.ref yp, .int (nI f0)]) (rest := [.int (p_field (nI f0) 0 pr br fe se tu)]) ⟨hx, hb, hml, hown, hts⟩ (c_L_all l G cI cC cZ cG s.heap.size yp vp (nI f0)) (cf_RL_29 hts ⟨Nat.le_of_ble_eq_true rfl, Nat.le_of_ble_eq_true rfl⟩) (pre_S hK hPc hDc) rfl rfl hl.1 rfl (lv_room (Nat.le_of_ble_eq_true rfl)) dL_isBoard_247 ⟨Nat.le_of_ble_eq_true rfl, Nat.le_of_ble_eq_true rfl⟩)) (fun r860 hr860 => ?_)
                        subst hr860
                        have hf861 := (@ao_le vp (nI f0) 4)
                        have hq862 : p_field (nI f0) 0 pr br fe se tu = nI (ao vp (nI f0) 4) := (bf_0 hR (by omega))
                        refine lv_icmp_ne (tgt := 340) hx hb dL_isBoard_250 (by decide) (fun c_863 => ?_) (fun c_863 => ?_)
                        · exact absurd hq862 c_863
                        · refine lv_aload_n hx hb dL_isBoard_253 rfl (lv_at hl 7 rfl) ?_
                          refine lv_iload hx hb dL_isBoard_254 (lv_at hl 4 rfl) ?_
                          refine lv_iconst (v := 1) hx hb dL_isBoard_256 (by decide) ?_
                          have hPc := hP.sub (ws' := [(qX, .inr (5, [.ref qg, .ref wg, .ref qR, .ref qd, .ref qh, .ref qk])), (qg, .inr (1, [.ref qb, .ref qt, .int x, .int (nI pl), .int th, .int tu, .int ca])), (qt, .inl (cI, 3, .inl se)), (qb, .inr (0, [.ref qp, .ref qs, .ref qr, .ref qf, .int fl])), (qp, .inl (cI, 12, .inl pr)), (qs, .inl (cI, 12, .inl sb)), (qr, .inl (cI, 4, .inl br)), (qf, .inl (cI, 4, .inl fe))]) [0, 1, 2, 3, 4, 5, 6, 7] rfl
                          have hDc := (hD0.sub (ws' := [(qX, .inr (5, [.ref qg, .ref wg, .ref qR, .ref qd, .ref qh, .ref qk])), (qg, .inr (1, [.ref qb, .ref qt, .int x, .int (nI pl), .int th, .int tu, .int ca])), (qt, .inl (cI, 3, .inl se)), (qb, .inr (0, [.ref qp, .ref qs, .ref qr, .ref qf, .int fl])), (qp, .inl (cI, 12, .inl pr)), (qs, .inl (cI, 12, .inl sb)), (qr, .inl (cI, 4, .inl br)), (qf, .inl (cI, 4, .inl fe))]) [0, 1, 2, 3, 4, 5, 6, 7] (by decide) rfl).tt
                          refine vp_callSi (va_Run.run (va_runV (As := [.int (nI f0), .int 1]) (rest := []) ⟨hx, hb, hml, hown, hts⟩ (c_X5_field l G cI cC cZ cG s.heap.size qX wg qR qd qh qk qg qt qb qp qs qr qf pr sb br fe se fl x pl th tu ca (nI f0) 1) (cf_RL_64 hts ⟨Nat.le_of_ble_eq_true rfl, Nat.le_of_ble_eq_true rfl⟩) (pre_V hK hPc hDc (ci := 5) (q0 := 0) rfl rfl) rfl rfl hl.1 rfl (lv_room (Nat.le_of_ble_eq_true rfl)) dL_isBoard_257 ⟨Nat.le_of_ble_eq_true rfl, Nat.le_of_ble_eq_true rfl⟩)) (fun r864 hr864 => ?_)
                          subst hr864
                          refine lv_iload hx hb dL_isBoard_260 (lv_at hl 3 rfl) ?_
                          have hq865 : p_field (nI f0) 1 pr br fe se tu = lo := (by rw [bf_1 hR (by omega), hlo])
                          refine lv_icmp_ne (tgt := 340) hx hb dL_isBoard_262 (by decide) (fun c_866 => ?_) (fun c_866 => ?_)
                          · exact absurd hq865 c_866
                          · refine lv_aload_n hx hb dL_isBoard_265 rfl (lv_at hl 7 rfl) ?_
                            refine lv_iload hx hb dL_isBoard_266 (lv_at hl 4 rfl) ?_
                            refine lv_iconst (v := 2) hx hb dL_isBoard_268 (by decide) ?_
                            have hPc := hP.sub (ws' := [(qX, .inr (5, [.ref qg, .ref wg, .ref qR, .ref qd, .ref qh, .ref qk])), (qg, .inr (1, [.ref qb, .ref qt, .int x, .int (nI pl), .int th, .int tu, .int ca])), (qt, .inl (cI, 3, .inl se)), (qb, .inr (0, [.ref qp, .ref qs, .ref qr, .ref qf, .int fl])), (qp, .inl (cI, 12, .inl pr)), (qs, .inl (cI, 12, .inl sb)), (qr, .inl (cI, 4, .inl br)), (qf, .inl (cI, 4, .inl fe))]) [0, 1, 2, 3, 4, 5, 6, 7] rfl
                            have hDc := (hD0.sub (ws' := [(qX, .inr (5, [.ref qg, .ref wg, .ref qR, .ref qd, .ref qh, .ref qk])), (qg, .inr (1, [.ref qb, .ref qt, .int x, .int (nI pl), .int th, .int tu, .int ca])), (qt, .inl (cI, 3, .inl se)), (qb, .inr (0, [.ref qp, .ref qs, .ref qr, .ref qf, .int fl])), (qp, .inl (cI, 12, .inl pr)), (qs, .inl (cI, 12, .inl sb)), (qr, .inl (cI, 4, .inl br)), (qf, .inl (cI, 4, .inl fe))]) [0, 1, 2, 3, 4, 5, 6, 7] (by decide) rfl).tt
                            refine vp_callSi (va_Run.run (va_runV (As := [.int (nI f0), .int 2]) (rest := []) ⟨hx, hb, hml, hown, hts⟩ (c_X5_field l G cI cC cZ cG s.heap.size qX wg qR qd qh qk qg qt qb qp qs qr qf pr sb br fe se fl x pl th tu ca (nI f0) 2) (cf_RL_64 hts ⟨Nat.le_of_ble_eq_true rfl, Nat.le_of_ble_eq_true rfl⟩) (pre_V hK hPc hDc (ci := 5) (q0 := 0) rfl rfl) rfl rfl hl.1 rfl (lv_room (Nat.le_of_ble_eq_true rfl)) dL_isBoard_269 ⟨Nat.le_of_ble_eq_true rfl, Nat.le_of_ble_eq_true rfl⟩)) (fun r867 hr867 => ?_)
                            subst hr867
                            refine lv_iload hx hb dL_isBoard_272 (lv_at hl 4 rfl) ?_
                            refine lv_bipush (v := 8) hx hb dL_isBoard_274 (by decide) ?_
                            refine zi_rem hx hb f0 8 dL_isBoard_276 rfl rfl (by omega) (by decide) (by decide) ?_
                            refine z0_ne (tgt := 284) hx hb (f0 % 8) dL_isBoard_277 (by decide) rfl (by omega) (fun c_868 => ?_) (fun c_868 => ?_)
                            · refine lv_iconst (v := 0) hx hb dL_isBoard_284 (by decide) ?_
                              have hq869 : p_field (nI f0) 2 pr br fe se tu = 0 := (by rw [bf_2 hR (by omega), if_neg c_868])
                              refine lv_icmp_ne (tgt := 340) hx hb dL_isBoard_285 (by decide) (fun c_870 => ?_) (fun c_870 => ?_)
                              · exact absurd hq869 c_870
                              · refine lv_aload_n hx hb dL_isBoard_288 rfl (lv_at hl 7 rfl) ?_
                                refine lv_iload hx hb dL_isBoard_289 (lv_at hl 4 rfl) ?_
                                refine lv_iconst (v := 3) hx hb dL_isBoard_291 (by decide) ?_
                                have hPc := hP.sub (ws' := [(qX, .inr (5, [.ref qg, .ref wg, .ref qR, .ref qd, .ref qh, .ref qk])), (qg, .inr (1, [.ref qb, .ref qt, .int x, .int (nI pl), .int th, .int tu, .int ca])), (qt, .inl (cI, 3, .inl se)), (qb, .inr (0, [.ref qp, .ref qs, .ref qr, .ref qf, .int fl])), (qp, .inl (cI, 12, .inl pr)), (qs, .inl (cI, 12, .inl sb)), (qr, .inl (cI, 4, .inl br)), (qf, .inl (cI, 4, .inl fe))]) [0, 1, 2, 3, 4, 5, 6, 7] rfl
                                have hDc := (hD0.sub (ws' := [(qX, .inr (5, [.ref qg, .ref wg, .ref qR, .ref qd, .ref qh, .ref qk])), (qg, .inr (1, [.ref qb, .ref qt, .int x, .int (nI pl), .int th, .int tu, .int ca])), (qt, .inl (cI, 3, .inl se)), (qb, .inr (0, [.ref qp, .ref qs, .ref qr, .ref qf, .int fl])), (qp, .inl (cI, 12, .inl pr)), (qs, .inl (cI, 12, .inl sb)), (qr, .inl (cI, 4, .inl br)), (qf, .inl (cI, 4, .inl fe))]) [0, 1, 2, 3, 4, 5, 6, 7] (by decide) rfl).tt
                                refine vp_callSi (va_Run.run (va_runV (As := [.int (nI f0), .int 3]) (rest := []) ⟨hx, hb, hml, hown, hts⟩ (c_X5_field l G cI cC cZ cG s.heap.size qX wg qR qd qh qk qg qt qb qp qs qr qf pr sb br fe se fl x pl th tu ca (nI f0) 3) (cf_RL_64 hts ⟨Nat.le_of_ble_eq_true rfl, Nat.le_of_ble_eq_true rfl⟩) (pre_V hK hPc hDc (ci := 5) (q0 := 0) rfl rfl) rfl rfl hl.1 rfl (lv_room (Nat.le_of_ble_eq_true rfl)) dL_isBoard_292 ⟨Nat.le_of_ble_eq_true rfl, Nat.le_of_ble_eq_true rfl⟩)) (fun r871 hr871 => ?_)
                                subst hr871
                                refine lv_iload hx hb dL_isBoard_295 (lv_at hl 1 rfl) ?_
                                have hq872 : p_field (nI f0) 3 pr br fe se tu = 0 := (by rw [bf_3 hR (by omega), if_pos c_788])
                                refine lv_icmp_ne (tgt := 340) hx hb dL_isBoard_297 (by decide) (fun c_873 => ?_) (fun c_873 => ?_)
                                · exact absurd hq872 c_873
                                · refine lv_aload_n hx hb dL_isBoard_300 rfl (lv_at hl 7 rfl) ?_
                                  refine lv_iload hx hb dL_isBoard_301 (lv_at hl 4 rfl) ?_
                                  refine lv_iconst (v := 4) hx hb dL_isBoard_303 (by decide) ?_
                                  have hPc := hP.sub (ws' := [(qX, .inr (5, [.ref qg, .ref wg, .ref qR, .ref qd, .ref qh, .ref qk])), (qg, .inr (1, [.ref qb, .ref qt, .int x, .int (nI pl), .int th, .int tu, .int ca])), (qt, .inl (cI, 3, .inl se)), (qb, .inr (0, [.ref qp, .ref qs, .ref qr, .ref qf, .int fl])), (qp, .inl (cI, 12, .inl pr)), (qs, .inl (cI, 12, .inl sb)), (qr, .inl (cI, 4, .inl br)), (qf, .inl (cI, 4, .inl fe))]) [0, 1, 2, 3, 4, 5, 6, 7] rfl
                                  have hDc := (hD0.sub (ws' := [(qX, .inr (5, [.ref qg, .ref wg, .ref qR, .ref qd, .ref qh, .ref qk])), (qg, .inr (1, [.ref qb, .ref qt, .int x, .int (nI pl), .int th, .int tu, .int ca])), (qt, .inl (cI, 3, .inl se)), (qb, .inr (0, [.ref qp, .ref qs, .ref qr, .ref qf, .int fl])), (qp, .inl (cI, 12, .inl pr)), (qs, .inl (cI, 12, .inl sb)), (qr, .inl (cI, 4, .inl br)), (qf, .inl (cI, 4, .inl fe))]) [0, 1, 2, 3, 4, 5, 6, 7] (by decide) rfl).tt
                                  refine vp_callSi (va_Run.run (va_runV (As := [.int (nI f0), .int 4]) (rest := []) ⟨hx, hb, hml, hown, hts⟩ (c_X5_field l G cI cC cZ cG s.heap.size qX wg qR qd qh qk qg qt qb qp qs qr qf pr sb br fe se fl x pl th tu ca (nI f0) 4) (cf_RL_64 hts ⟨Nat.le_of_ble_eq_true rfl, Nat.le_of_ble_eq_true rfl⟩) (pre_V hK hPc hDc (ci := 5) (q0 := 0) rfl rfl) rfl rfl hl.1 rfl (lv_room (Nat.le_of_ble_eq_true rfl)) dL_isBoard_304 ⟨Nat.le_of_ble_eq_true rfl, Nat.le_of_ble_eq_true rfl⟩)) (fun r874 hr874 => ?_)
                                  subst hr874
                                  refine lv_iload hx hb dL_isBoard_307 (lv_at hl 1 rfl) ?_
                                  refine lv_iconst (v := 3) hx hb dL_isBoard_309 (by decide) ?_
                                  refine lv_icmp_lt (tgt := 320) hx hb dL_isBoard_310 (by decide) (fun c_875 => ?_) (fun c_875 => ?_)
                                  · refine lv_iload hx hb dL_isBoard_320 (lv_at hl 6 rfl) ?_
                                    refine lv_goto (tgt := 337) hx hb dL_isBoard_322 (by decide) ?_
                                    have hq876 : p_field (nI f0) 4 pr br fe se tu = (-6) := (by rw [bf_4 hR (by omega), if_pos (fun w => c_788 w.1)])
                                    refine lv_icmp_eq (tgt := 342) hx hb dL_isBoard_337 (by decide) (fun c_877 => ?_) (fun c_877 => ?_)
                                    · refine lv_iload hx hb dL_isBoard_342 (lv_at hl 5 rfl) ?_
                                      refine lv_iload hx hb dL_isBoard_344 (lv_at hl 1 rfl) ?_
                                      refine lv_iconst (v := 3) hx hb dL_isBoard_346 (by decide) ?_
                                      refine lv_icmp_ne (tgt := 360) hx hb dL_isBoard_347 (by decide) (fun c_878 => ?_) (fun c_878 => ?_)
                                      · refine lv_iconst (v := 0) hx hb dL_isBoard_360 (by decide) ?_
                                        refine lv_ior hx hb dL_isBoard_361 ?_
                                        refine lv_istore (lv' := [(6, .int (fs ||| 0)), (11, .int (((vb ((3 * (f0 / 8)) + 2)) + (vg 1)) - (vg 6))), (10, .int 0), (9, .int (nI (3 * (f0 / 8)))), (8, .int lo), (7, .int (nI f0)), (5, .int (-6)), (0, .ref qX), (1, .ref yp), (2, .ref ys), (3, .ref yb), (4, .ref yg)]) hx hb dL_isBoard_362 hl (by decide) rfl (fun ls hl => ?_)
                                        refine lv_iinc (v := nI (f0 + 1)) (lv' := [(7, .int (nI (f0 + 1))), (6, .int (fs ||| 0)), (11, .int (((vb ((3 * (f0 / 8)) + 2)) + (vg 1)) - (vg 6))), (10, .int 0), (9, .int (nI (3 * (f0 / 8)))), (8, .int lo), (5, .int (-6)), (0, .ref qX), (1, .ref yp), (2, .ref ys), (3, .ref yb), (4, .ref yg)]) hx hb dL_isBoard_364 hl (k := 5) rfl (nI_inc f0) (by decide) rfl (fun ls hl => ?_)
                                        refine lv_goto (tgt := 118) hx hb dL_isBoard_367 (by decide) ?_
                                        exact ih2 (f0 + 1) (fs ||| 0) (by omega) (by rw [hfs, lfs_f (fun w => c_788 w.1)]) (by omega) _ (lv_sub hl [0, 1, 6, 7, 8, 9, 10, 11] rfl)
                                      · exact absurd c_878 (by decide)
                                    · exact absurd hq876 c_877
                                  · exact absurd c_875 (by decide)
                            · refine lv_iconst (v := 1) hx hb dL_isBoard_280 (by decide) ?_
                              refine lv_goto (tgt := 285) hx hb dL_isBoard_281 (by decide) ?_
                              have hq879 : p_field (nI f0) 2 pr br fe se tu = 1 := (by rw [bf_2 hR (by omega), if_pos c_868])
                              refine lv_icmp_ne (tgt := 340) hx hb dL_isBoard_285 (by decide) (fun c_880 => ?_) (fun c_880 => ?_)
                              · exact absurd hq879 c_880
                              · refine lv_aload_n hx hb dL_isBoard_288 rfl (lv_at hl 7 rfl) ?_
                                refine lv_iload hx hb dL_isBoard_289 (lv_at hl 4 rfl) ?_
                                refine lv_iconst (v := 3) hx hb dL_isBoard_291 (by decide) ?_
                                have hPc := hP.sub (ws' := [(qX, .inr (5, [.ref qg, .ref wg, .ref qR, .ref qd, .ref qh, .ref qk])), (qg, .inr (1, [.ref qb, .ref qt, .int x, .int (nI pl), .int th, .int tu, .int ca])), (qt, .inl (cI, 3, .inl se)), (qb, .inr (0, [.ref qp, .ref qs, .ref qr, .ref qf, .int fl])), (qp, .inl (cI, 12, .inl pr)), (qs, .inl (cI, 12, .inl sb)), (qr, .inl (cI, 4, .inl br)), (qf, .inl (cI, 4, .inl fe))]) [0, 1, 2, 3, 4, 5, 6, 7] rfl
                                have hDc := (hD0.sub (ws' := [(qX, .inr (5, [.ref qg, .ref wg, .ref qR, .ref qd, .ref qh, .ref qk])), (qg, .inr (1, [.ref qb, .ref qt, .int x, .int (nI pl), .int th, .int tu, .int ca])), (qt, .inl (cI, 3, .inl se)), (qb, .inr (0, [.ref qp, .ref qs, .ref qr, .ref qf, .int fl])), (qp, .inl (cI, 12, .inl pr)), (qs, .inl (cI, 12, .inl sb)), (qr, .inl (cI, 4, .inl br)), (qf, .inl (cI, 4, .inl fe))]) [0, 1, 2, 3, 4, 5, 6, 7] (by decide) rfl).tt
                                refine vp_callSi (va_Run.run (va_runV (As := [.int (nI f0), .int 3]) (rest := []) ⟨hx, hb, hml, hown, hts⟩ (c_X5_field l G cI cC cZ cG s.heap.size qX wg qR qd qh qk qg qt qb qp qs qr qf pr sb br fe se fl x pl th tu ca (nI f0) 3) (cf_RL_64 hts ⟨Nat.le_of_ble_eq_true rfl, Nat.le_of_ble_eq_true rfl⟩) (pre_V hK hPc hDc (ci := 5) (q0 := 0) rfl rfl) rfl rfl hl.1 rfl (lv_room (Nat.le_of_ble_eq_true rfl)) dL_isBoard_292 ⟨Nat.le_of_ble_eq_true rfl, Nat.le_of_ble_eq_true rfl⟩)) (fun r881 hr881 => ?_)
                                subst hr881
                                refine lv_iload hx hb dL_isBoard_295 (lv_at hl 1 rfl) ?_
                                have hq882 : p_field (nI f0) 3 pr br fe se tu = 0 := (by rw [bf_3 hR (by omega), if_pos c_788])
                                refine lv_icmp_ne (tgt := 340) hx hb dL_isBoard_297 (by decide) (fun c_883 => ?_) (fun c_883 => ?_)
                                · exact absurd hq882 c_883
                                · refine lv_aload_n hx hb dL_isBoard_300 rfl (lv_at hl 7 rfl) ?_
                                  refine lv_iload hx hb dL_isBoard_301 (lv_at hl 4 rfl) ?_
                                  refine lv_iconst (v := 4) hx hb dL_isBoard_303 (by decide) ?_
                                  have hPc := hP.sub (ws' := [(qX, .inr (5, [.ref qg, .ref wg, .ref qR, .ref qd, .ref qh, .ref qk])), (qg, .inr (1, [.ref qb, .ref qt, .int x, .int (nI pl), .int th, .int tu, .int ca])), (qt, .inl (cI, 3, .inl se)), (qb, .inr (0, [.ref qp, .ref qs, .ref qr, .ref qf, .int fl])), (qp, .inl (cI, 12, .inl pr)), (qs, .inl (cI, 12, .inl sb)), (qr, .inl (cI, 4, .inl br)), (qf, .inl (cI, 4, .inl fe))]) [0, 1, 2, 3, 4, 5, 6, 7] rfl
                                  have hDc := (hD0.sub (ws' := [(qX, .inr (5, [.ref qg, .ref wg, .ref qR, .ref qd, .ref qh, .ref qk])), (qg, .inr (1, [.ref qb, .ref qt, .int x, .int (nI pl), .int th, .int tu, .int ca])), (qt, .inl (cI, 3, .inl se)), (qb, .inr (0, [.ref qp, .ref qs, .ref qr, .ref qf, .int fl])), (qp, .inl (cI, 12, .inl pr)), (qs, .inl (cI, 12, .inl sb)), (qr, .inl (cI, 4, .inl br)), (qf, .inl (cI, 4, .inl fe))]) [0, 1, 2, 3, 4, 5, 6, 7] (by decide) rfl).tt
                                  refine vp_callSi (va_Run.run (va_runV (As := [.int (nI f0), .int 4]) (rest := []) ⟨hx, hb, hml, hown, hts⟩ (c_X5_field l G cI cC cZ cG s.heap.size qX wg qR qd qh qk qg qt qb qp qs qr qf pr sb br fe se fl x pl th tu ca (nI f0) 4) (cf_RL_64 hts ⟨Nat.le_of_ble_eq_true rfl, Nat.le_of_ble_eq_true rfl⟩) (pre_V hK hPc hDc (ci := 5) (q0 := 0) rfl rfl) rfl rfl hl.1 rfl (lv_room (Nat.le_of_ble_eq_true rfl)) dL_isBoard_304 ⟨Nat.le_of_ble_eq_true rfl, Nat.le_of_ble_eq_true rfl⟩)) (fun r884 hr884 => ?_)
                                  subst hr884
                                  refine lv_iload hx hb dL_isBoard_307 (lv_at hl 1 rfl) ?_
                                  refine lv_iconst (v := 3) hx hb dL_isBoard_309 (by decide) ?_
                                  refine lv_icmp_lt (tgt := 320) hx hb dL_isBoard_310 (by decide) (fun c_885 => ?_) (fun c_885 => ?_)
                                  · refine lv_iload hx hb dL_isBoard_320 (lv_at hl 6 rfl) ?_
                                    refine lv_goto (tgt := 337) hx hb dL_isBoard_322 (by decide) ?_
                                    have hq886 : p_field (nI f0) 4 pr br fe se tu = (-6) := (by rw [bf_4 hR (by omega), if_pos (fun w => c_788 w.1)])
                                    refine lv_icmp_eq (tgt := 342) hx hb dL_isBoard_337 (by decide) (fun c_887 => ?_) (fun c_887 => ?_)
                                    · refine lv_iload hx hb dL_isBoard_342 (lv_at hl 5 rfl) ?_
                                      refine lv_iload hx hb dL_isBoard_344 (lv_at hl 1 rfl) ?_
                                      refine lv_iconst (v := 3) hx hb dL_isBoard_346 (by decide) ?_
                                      refine lv_icmp_ne (tgt := 360) hx hb dL_isBoard_347 (by decide) (fun c_888 => ?_) (fun c_888 => ?_)
                                      · refine lv_iconst (v := 0) hx hb dL_isBoard_360 (by decide) ?_
                                        refine lv_ior hx hb dL_isBoard_361 ?_
                                        refine lv_istore (lv' := [(6, .int (fs ||| 0)), (11, .int (((vb ((3 * (f0 / 8)) + 2)) + (vg 1)) - (vg 6))), (10, .int 0), (9, .int (nI (3 * (f0 / 8)))), (8, .int lo), (7, .int (nI f0)), (5, .int (-6)), (0, .ref qX), (1, .ref yp), (2, .ref ys), (3, .ref yb), (4, .ref yg)]) hx hb dL_isBoard_362 hl (by decide) rfl (fun ls hl => ?_)
                                        refine lv_iinc (v := nI (f0 + 1)) (lv' := [(7, .int (nI (f0 + 1))), (6, .int (fs ||| 0)), (11, .int (((vb ((3 * (f0 / 8)) + 2)) + (vg 1)) - (vg 6))), (10, .int 0), (9, .int (nI (3 * (f0 / 8)))), (8, .int lo), (5, .int (-6)), (0, .ref qX), (1, .ref yp), (2, .ref ys), (3, .ref yb), (4, .ref yg)]) hx hb dL_isBoard_364 hl (k := 5) rfl (nI_inc f0) (by decide) rfl (fun ls hl => ?_)
                                        refine lv_goto (tgt := 118) hx hb dL_isBoard_367 (by decide) ?_
                                        exact ih2 (f0 + 1) (fs ||| 0) (by omega) (by rw [hfs, lfs_f (fun w => c_788 w.1)]) (by omega) _ (lv_sub hl [0, 1, 6, 7, 8, 9, 10, 11] rfl)
                                      · exact absurd c_888 (by decide)
                                    · exact absurd hq886 c_887
                                  · exact absurd c_885 (by decide)
                    · exact absurd c_787 (by decide)
                  · obtain rfl : xa = nI b2 := by rw [hxa]; exact nI_pred b2
                    refine lv_iload hx hb dL_isBoard_133 (lv_at hl 0 rfl) ?_
                    refine z0_lt (tgt := 167) hx hb b2 dL_isBoard_135 (by decide) rfl (by omega) ?_
                    refine lv_iload hx hb dL_isBoard_138 (lv_at hl 0 rfl) ?_
                    refine lv_aload_n hx hb dL_isBoard_140 rfl (lv_at hl 6 rfl) ?_
                    refine lv_iload hx hb dL_isBoard_141 (lv_at hl 0 rfl) ?_
                    refine za_ld hx hb hK.1 hP 10 0 rfl rfl b2 rfl (by omega) (by decide) dL_isBoard_143 ?_
                    refine vp_callSi (va_Run.run (va_runS (As := [.int (nI b2), .int (vp b2)]) (rest := []) ⟨hx, hb, hml, hown, hts⟩ (c_L_field l b2 (vp b2) (by omega)) (cf_RL_9 hts ⟨Nat.le_of_ble_eq_true rfl, Nat.le_of_ble_eq_true rfl⟩) pre_P rfl rfl hl.1 rfl (lv_room (Nat.le_of_ble_eq_true rfl)) dL_isBoard_144 ⟨Nat.le_of_ble_eq_true rfl, Nat.le_of_ble_eq_true rfl⟩)) (fun r890 hr890 => ?_)
                    subst hr890
                    refine lv_iload hx hb dL_isBoard_147 (lv_at hl 2 rfl) ?_
                    refine lv_icmp_ne (tgt := 157) hx hb dL_isBoard_149 (by decide) (fun c_891 => ?_) (fun c_891 => ?_)
                    · refine lv_iload hx hb dL_isBoard_157 (lv_at hl 1 rfl) ?_
                      refine lv_istore (lv' := [(8, .int lo), (9, .int (nI b2)), (7, .int (nI f0)), (6, .int fs), (5, .int (-6)), (0, .ref qX), (1, .ref yp), (2, .ref ys), (3, .ref yb), (4, .ref yg)]) hx hb dL_isBoard_159 hl (by decide) rfl (fun ls hl => ?_)
                      refine lv_iinc (v := (nI b2) + Int32.ofInt (-1)) (lv' := [(9, .int ((nI b2) + Int32.ofInt (-1))), (8, .int lo), (7, .int (nI f0)), (6, .int fs), (5, .int (-6)), (0, .ref qX), (1, .ref yp), (2, .ref ys), (3, .ref yb), (4, .ref yg)]) hx hb dL_isBoard_161 hl (k := 1) rfl rfl (by decide) rfl (fun ls hl => ?_)
                      refine lv_goto (tgt := 133) hx hb dL_isBoard_164 (by decide) ?_
                      exact ih6 b2 ((nI b2) + Int32.ofInt (-1)) lo (by omega) (dec_sub b2) (by rw [show 12 - b2 = (12 - (b2 + 1)) + 1 by omega, low, if_neg (show ¬ lqP vp f0 b2 = true from fun w => c_891 (of_decide_eq_true w)), hlo]) (by omega) _ (lv_sub hl [0, 1, 2, 3, 4, 5, 6, 7, 8, 9] rfl)
                    · refine lv_iload hx hb dL_isBoard_152 (lv_at hl 0 rfl) ?_
                      refine lv_goto (tgt := 159) hx hb dL_isBoard_154 (by decide) ?_
                      refine lv_istore (lv' := [(8, .int (nI b2)), (9, .int (nI b2)), (7, .int (nI f0)), (6, .int fs), (5, .int (-6)), (0, .ref qX), (1, .ref yp), (2, .ref ys), (3, .ref yb), (4, .ref yg)]) hx hb dL_isBoard_159 hl (by decide) rfl (fun ls hl => ?_)
                      refine lv_iinc (v := (nI b2) + Int32.ofInt (-1)) (lv' := [(9, .int ((nI b2) + Int32.ofInt (-1))), (8, .int (nI b2)), (7, .int (nI f0)), (6, .int fs), (5, .int (-6)), (0, .ref qX), (1, .ref yp), (2, .ref ys), (3, .ref yb), (4, .ref yg)]) hx hb dL_isBoard_161 hl (k := 1) rfl rfl (by decide) rfl (fun ls hl => ?_)
                      refine lv_goto (tgt := 133) hx hb dL_isBoard_164 (by decide) ?_
                      exact ih6 b2 ((nI b2) + Int32.ofInt (-1)) (nI b2) (by omega) (dec_sub b2) (by rw [show 12 - b2 = (12 - (b2 + 1)) + 1 by omega, low, if_pos (show lqP vp f0 b2 = true from decide_eq_true c_891)]) (by omega) _ (lv_sub hl [0, 1, 2, 3, 4, 5, 6, 7, 8, 9] rfl)
              exact L6 13 12 11 (-6) (by decide) (by decide) rfl (by decide) _ (lv_sub hl [0, 1, 2, 3, 4, 5, 6, 7, 8, 9] rfl)
        exact L2 33 0 0 (by decide) rfl (by decide) _ (lv_sub hl [0, 1, 2, 3, 4, 5, 6, 7] rfl)
      · refine lv_iload hx hb dL_isBoard_17 (lv_at hl 0 rfl) ?_
        refine lv_aload_n hx hb dL_isBoard_19 rfl (lv_at hl 4 rfl) ?_
        refine lv_iload hx hb dL_isBoard_20 (lv_at hl 0 rfl) ?_
        refine za_ld hx hb hK.1 hP 10 0 rfl rfl i rfl (by omega) (by decide) dL_isBoard_22 ?_
        refine vp_callSi (va_Run.run (va_runS (As := [.int (nI i), .int (vp i)]) (rest := []) ⟨hx, hb, hml, hown, hts⟩ (c_L_field l i (vp i) (by omega)) (cf_RL_9 hts ⟨Nat.le_of_ble_eq_true rfl, Nat.le_of_ble_eq_true rfl⟩) pre_P rfl rfl hl.1 rfl (lv_room (Nat.le_of_ble_eq_true rfl)) dL_isBoard_23 ⟨Nat.le_of_ble_eq_true rfl, Nat.le_of_ble_eq_true rfl⟩)) (fun r892 hr892 => ?_)
        subst hr892
        refine lv_istore (lv' := [(8, .int (lfd (i / 3) (vp i))), (7, .int (nI i)), (6, .int 0), (5, .int (-6)), (0, .ref qX), (1, .ref yp), (2, .ref ys), (3, .ref yb), (4, .ref yg)]) hx hb dL_isBoard_26 hl (by decide) rfl (fun ls hl => ?_)
        refine lv_aload_n hx hb dL_isBoard_28 rfl (lv_at hl 4 rfl) ?_
        refine lv_iload hx hb dL_isBoard_29 (lv_at hl 1 rfl) ?_
        refine lv_iconst (v := 0) hx hb dL_isBoard_31 (by decide) ?_
        have hPc := hP.sub (ws' := [(qX, .inr (5, [.ref qg, .ref wg, .ref qR, .ref qd, .ref qh, .ref qk])), (qg, .inr (1, [.ref qb, .ref qt, .int x, .int (nI pl), .int th, .int tu, .int ca])), (qt, .inl (cI, 3, .inl se)), (qb, .inr (0, [.ref qp, .ref qs, .ref qr, .ref qf, .int fl])), (qp, .inl (cI, 12, .inl pr)), (qs, .inl (cI, 12, .inl sb)), (qr, .inl (cI, 4, .inl br)), (qf, .inl (cI, 4, .inl fe))]) [0, 1, 2, 3, 4, 5, 6, 7] rfl
        have hDc := (hD0.sub (ws' := [(qX, .inr (5, [.ref qg, .ref wg, .ref qR, .ref qd, .ref qh, .ref qk])), (qg, .inr (1, [.ref qb, .ref qt, .int x, .int (nI pl), .int th, .int tu, .int ca])), (qt, .inl (cI, 3, .inl se)), (qb, .inr (0, [.ref qp, .ref qs, .ref qr, .ref qf, .int fl])), (qp, .inl (cI, 12, .inl pr)), (qs, .inl (cI, 12, .inl sb)), (qr, .inl (cI, 4, .inl br)), (qf, .inl (cI, 4, .inl fe))]) [0, 1, 2, 3, 4, 5, 6, 7] (by decide) rfl).tt
        refine vp_callSi (va_Run.run (va_runV (As := [.int (nI i), .int 0]) (rest := []) ⟨hx, hb, hml, hown, hts⟩ (c_X5_piece l G cI cC cZ cG s.heap.size qX wg qR qd qh qk qg qt qb qp qs qr qf pr sb br fe se fl x pl th tu ca (nI i) 0) (cf_RL_61 hts ⟨Nat.le_of_ble_eq_true rfl, Nat.le_of_ble_eq_true rfl⟩) (pre_V hK hPc hDc (ci := 5) (q0 := 0) rfl rfl) rfl rfl hl.1 rfl (lv_room (Nat.le_of_ble_eq_true rfl)) dL_isBoard_32 ⟨Nat.le_of_ble_eq_true rfl, Nat.le_of_ble_eq_true rfl⟩)) (fun r893 hr893 => ?_)
        subst hr893
        refine lv_aload_n hx hb dL_isBoard_35 rfl (lv_at hl 5 rfl) ?_
        refine lv_iload hx hb dL_isBoard_36 (lv_at hl 1 rfl) ?_
        refine za_ld hx hb hK.1 hP 10 0 rfl rfl i rfl (by omega) (by decide) dL_isBoard_38 ?_
        have hq894 : p_piece (nI i) 0 pr sb = vp i := (bp_0 hR (by omega))
        refine lv_icmp_ne (tgt := 107) hx hb dL_isBoard_39 (by decide) (fun c_895 => ?_) (fun c_895 => ?_)
        · exact absurd hq894 c_895
        · refine lv_aload_n hx hb dL_isBoard_42 rfl (lv_at hl 4 rfl) ?_
          refine lv_iload hx hb dL_isBoard_43 (lv_at hl 1 rfl) ?_
          refine lv_iconst (v := 1) hx hb dL_isBoard_45 (by decide) ?_
          have hPc := hP.sub (ws' := [(qX, .inr (5, [.ref qg, .ref wg, .ref qR, .ref qd, .ref qh, .ref qk])), (qg, .inr (1, [.ref qb, .ref qt, .int x, .int (nI pl), .int th, .int tu, .int ca])), (qt, .inl (cI, 3, .inl se)), (qb, .inr (0, [.ref qp, .ref qs, .ref qr, .ref qf, .int fl])), (qp, .inl (cI, 12, .inl pr)), (qs, .inl (cI, 12, .inl sb)), (qr, .inl (cI, 4, .inl br)), (qf, .inl (cI, 4, .inl fe))]) [0, 1, 2, 3, 4, 5, 6, 7] rfl
          have hDc := (hD0.sub (ws' := [(qX, .inr (5, [.ref qg, .ref wg, .ref qR, .ref qd, .ref qh, .ref qk])), (qg, .inr (1, [.ref qb, .ref qt, .int x, .int (nI pl), .int th, .int tu, .int ca])), (qt, .inl (cI, 3, .inl se)), (qb, .inr (0, [.ref qp, .ref qs, .ref qr, .ref qf, .int fl])), (qp, .inl (cI, 12, .inl pr)), (qs, .inl (cI, 12, .inl sb)), (qr, .inl (cI, 4, .inl br)), (qf, .inl (cI, 4, .inl fe))]) [0, 1, 2, 3, 4, 5, 6, 7] (by decide) rfl).tt
          refine vp_callSi (va_Run.run (va_runV (As := [.int (nI i), .int 1]) (rest := []) ⟨hx, hb, hml, hown, hts⟩ (c_X5_piece l G cI cC cZ cG s.heap.size qX wg qR qd qh qk qg qt qb qp qs qr qf pr sb br fe se fl x pl th tu ca (nI i) 1) (cf_RL_61 hts ⟨Nat.le_of_ble_eq_true rfl, Nat.le_of_ble_eq_true rfl⟩) (pre_V hK hPc hDc (ci := 5) (q0 := 0) rfl rfl) rfl rfl hl.1 rfl (lv_room (Nat.le_of_ble_eq_true rfl)) dL_isBoard_46 ⟨Nat.le_of_ble_eq_true rfl, Nat.le_of_ble_eq_true rfl⟩)) (fun r896 hr896 => ?_)
          subst hr896
          refine lv_iload hx hb dL_isBoard_49 (lv_at hl 0 rfl) ?_
          refine lv_if_ge (tgt := 59) hx hb dL_isBoard_51 (by decide) (fun c_897 => ?_) (fun c_897 => ?_)
          · refine lv_iload hx hb dL_isBoard_59 (lv_at hl 0 rfl) ?_
            have hq898 : p_piece (nI i) 1 pr sb = lfd (i / 3) (vp i) := (by rw [bp_1 hR (by omega), if_pos c_897])
            refine lv_icmp_ne (tgt := 107) hx hb dL_isBoard_61 (by decide) (fun c_899 => ?_) (fun c_899 => ?_)
            · exact absurd hq898 c_899
            · refine lv_aload_n hx hb dL_isBoard_64 rfl (lv_at hl 4 rfl) ?_
              refine lv_iload hx hb dL_isBoard_65 (lv_at hl 1 rfl) ?_
              refine lv_iconst (v := 2) hx hb dL_isBoard_67 (by decide) ?_
              have hPc := hP.sub (ws' := [(qX, .inr (5, [.ref qg, .ref wg, .ref qR, .ref qd, .ref qh, .ref qk])), (qg, .inr (1, [.ref qb, .ref qt, .int x, .int (nI pl), .int th, .int tu, .int ca])), (qt, .inl (cI, 3, .inl se)), (qb, .inr (0, [.ref qp, .ref qs, .ref qr, .ref qf, .int fl])), (qp, .inl (cI, 12, .inl pr)), (qs, .inl (cI, 12, .inl sb)), (qr, .inl (cI, 4, .inl br)), (qf, .inl (cI, 4, .inl fe))]) [0, 1, 2, 3, 4, 5, 6, 7] rfl
              have hDc := (hD0.sub (ws' := [(qX, .inr (5, [.ref qg, .ref wg, .ref qR, .ref qd, .ref qh, .ref qk])), (qg, .inr (1, [.ref qb, .ref qt, .int x, .int (nI pl), .int th, .int tu, .int ca])), (qt, .inl (cI, 3, .inl se)), (qb, .inr (0, [.ref qp, .ref qs, .ref qr, .ref qf, .int fl])), (qp, .inl (cI, 12, .inl pr)), (qs, .inl (cI, 12, .inl sb)), (qr, .inl (cI, 4, .inl br)), (qf, .inl (cI, 4, .inl fe))]) [0, 1, 2, 3, 4, 5, 6, 7] (by decide) rfl).tt
              refine vp_callSi (va_Run.run (va_runV (As := [.int (nI i), .int 2]) (rest := []) ⟨hx, hb, hml, hown, hts⟩ (c_X5_piece l G cI cC cZ cG s.heap.size qX wg qR qd qh qk qg qt qb qp qs qr qf pr sb br fe se fl x pl th tu ca (nI i) 2) (cf_RL_61 hts ⟨Nat.le_of_ble_eq_true rfl, Nat.le_of_ble_eq_true rfl⟩) (pre_V hK hPc hDc (ci := 5) (q0 := 0) rfl rfl) rfl rfl hl.1 rfl (lv_room (Nat.le_of_ble_eq_true rfl)) dL_isBoard_68 ⟨Nat.le_of_ble_eq_true rfl, Nat.le_of_ble_eq_true rfl⟩)) (fun r900 hr900 => ?_)
              subst hr900
              refine lv_aload_n hx hb dL_isBoard_71 rfl (lv_at hl 5 rfl) ?_
              refine lv_iload hx hb dL_isBoard_72 (lv_at hl 1 rfl) ?_
              refine lv_iconst (v := 3) hx hb dL_isBoard_74 (by decide) ?_
              refine zi_div hx hb i 3 dL_isBoard_75 rfl rfl (by omega) (by decide) (by decide) ?_
              refine lv_iload hx hb dL_isBoard_76 (lv_at hl 0 rfl) ?_
              have hPc := hP.sub (ws' := [(yp, .inl (cI, 12, .inl vp))]) [10] rfl
              have hDc := (hD0.sub (ws' := [(yp, .inl (cI, 12, .inl vp))]) [10] (by decide) rfl).tt
              refine vp_callSi (va_Run.run (va_runS (As := [.ref yp, .int (nI (i / 3)), .int (lfd (i / 3) (vp i))]) (rest := [.int (p_piece (nI i) 2 pr sb)]) ⟨hx, hb, hml, hown, hts⟩ (c_L_on l G cI cC cZ cG s.heap.size yp vp (i / 3) (lfd (i / 3) (vp i)) (by omega)) (cf_RL_15 hts ⟨Nat.le_of_ble_eq_true rfl, Nat.le_of_ble_eq_true rfl⟩) (pre_S hK hPc hDc) rfl rfl hl.1 rfl (lv_room (Nat.le_of_ble_eq_true rfl)) dL_isBoard_78 ⟨Nat.le_of_ble_eq_true rfl, Nat.le_of_ble_eq_true rfl⟩)) (fun r901 hr901 => ?_)
              subst hr901
              have hf902 := (@mpc_le vp (i / 3) (lfd (i / 3) (vp i)))
              refine lv_iconst (v := 1) hx hb dL_isBoard_81 (by decide) ?_
              refine zi_le (tgt := 89) hx hb (mpc vp (i / 3) (lfd (i / 3) (vp i))) 1 dL_isBoard_82 (by decide) rfl rfl (by omega) (by decide) (fun c_903 => ?_) (fun c_903 => ?_)
              · refine lv_iconst (v := 0) hx hb dL_isBoard_89 (by decide) ?_
                have hq904 : p_piece (nI i) 2 pr sb = 0 := (by rw [bp_2 hR (by omega), if_neg (Nat.not_lt.mpr c_903)])
                refine lv_icmp_ne (tgt := 107) hx hb dL_isBoard_90 (by decide) (fun c_905 => ?_) (fun c_905 => ?_)
                · exact absurd hq904 c_905
                · refine lv_aload_n hx hb dL_isBoard_93 rfl (lv_at hl 4 rfl) ?_
                  refine lv_iload hx hb dL_isBoard_94 (lv_at hl 1 rfl) ?_
                  refine lv_iconst (v := 3) hx hb dL_isBoard_96 (by decide) ?_
                  have hPc := hP.sub (ws' := [(qX, .inr (5, [.ref qg, .ref wg, .ref qR, .ref qd, .ref qh, .ref qk])), (qg, .inr (1, [.ref qb, .ref qt, .int x, .int (nI pl), .int th, .int tu, .int ca])), (qt, .inl (cI, 3, .inl se)), (qb, .inr (0, [.ref qp, .ref qs, .ref qr, .ref qf, .int fl])), (qp, .inl (cI, 12, .inl pr)), (qs, .inl (cI, 12, .inl sb)), (qr, .inl (cI, 4, .inl br)), (qf, .inl (cI, 4, .inl fe))]) [0, 1, 2, 3, 4, 5, 6, 7] rfl
                  have hDc := (hD0.sub (ws' := [(qX, .inr (5, [.ref qg, .ref wg, .ref qR, .ref qd, .ref qh, .ref qk])), (qg, .inr (1, [.ref qb, .ref qt, .int x, .int (nI pl), .int th, .int tu, .int ca])), (qt, .inl (cI, 3, .inl se)), (qb, .inr (0, [.ref qp, .ref qs, .ref qr, .ref qf, .int fl])), (qp, .inl (cI, 12, .inl pr)), (qs, .inl (cI, 12, .inl sb)), (qr, .inl (cI, 4, .inl br)), (qf, .inl (cI, 4, .inl fe))]) [0, 1, 2, 3, 4, 5, 6, 7] (by decide) rfl).tt
                  refine vp_callSi (va_Run.run (va_runV (As := [.int (nI i), .int 3]) (rest := []) ⟨hx, hb, hml, hown, hts⟩ (c_X5_piece l G cI cC cZ cG s.heap.size qX wg qR qd qh qk qg qt qb qp qs qr qf pr sb br fe se fl x pl th tu ca (nI i) 3) (cf_RL_61 hts ⟨Nat.le_of_ble_eq_true rfl, Nat.le_of_ble_eq_true rfl⟩) (pre_V hK hPc hDc (ci := 5) (q0 := 0) rfl rfl) rfl rfl hl.1 rfl (lv_room (Nat.le_of_ble_eq_true rfl)) dL_isBoard_97 ⟨Nat.le_of_ble_eq_true rfl, Nat.le_of_ble_eq_true rfl⟩)) (fun r906 hr906 => ?_)
                  subst hr906
                  refine lv_aload_n hx hb dL_isBoard_100 rfl (lv_at hl 6 rfl) ?_
                  refine lv_iload hx hb dL_isBoard_101 (lv_at hl 1 rfl) ?_
                  refine za_ld hx hb hK.1 hP 11 0 rfl rfl i rfl (by omega) (by decide) dL_isBoard_103 ?_
                  have hq907 : p_piece (nI i) 3 pr sb = vs i := (bp_3 hR (by omega))
                  refine lv_icmp_eq (tgt := 109) hx hb dL_isBoard_104 (by decide) (fun c_908 => ?_) (fun c_908 => ?_)
                  · refine lv_iinc (v := nI (i + 1)) (lv' := [(7, .int (nI (i + 1))), (8, .int (lfd (i / 3) (vp i))), (6, .int 0), (5, .int (-6)), (0, .ref qX), (1, .ref yp), (2, .ref ys), (3, .ref yb), (4, .ref yg)]) hx hb dL_isBoard_109 hl (k := 1) rfl (nI_inc i) (by decide) rfl (fun ls hl => ?_)
                    refine lv_goto (tgt := 10) hx hb dL_isBoard_112 (by decide) ?_
                    exact ih1 (i + 1) (by omega) (by omega) _ (lv_sub hl [0, 2, 3, 4, 5, 6, 7, 8] rfl)
                  · exact absurd hq907 c_908
              · refine lv_iconst (v := 1) hx hb dL_isBoard_85 (by decide) ?_
                refine lv_goto (tgt := 90) hx hb dL_isBoard_86 (by decide) ?_
                have hq909 : p_piece (nI i) 2 pr sb = 1 := (by rw [bp_2 hR (by omega), if_pos c_903])
                refine lv_icmp_ne (tgt := 107) hx hb dL_isBoard_90 (by decide) (fun c_910 => ?_) (fun c_910 => ?_)
                · exact absurd hq909 c_910
                · refine lv_aload_n hx hb dL_isBoard_93 rfl (lv_at hl 4 rfl) ?_
                  refine lv_iload hx hb dL_isBoard_94 (lv_at hl 1 rfl) ?_
                  refine lv_iconst (v := 3) hx hb dL_isBoard_96 (by decide) ?_
                  have hPc := hP.sub (ws' := [(qX, .inr (5, [.ref qg, .ref wg, .ref qR, .ref qd, .ref qh, .ref qk])), (qg, .inr (1, [.ref qb, .ref qt, .int x, .int (nI pl), .int th, .int tu, .int ca])), (qt, .inl (cI, 3, .inl se)), (qb, .inr (0, [.ref qp, .ref qs, .ref qr, .ref qf, .int fl])), (qp, .inl (cI, 12, .inl pr)), (qs, .inl (cI, 12, .inl sb)), (qr, .inl (cI, 4, .inl br)), (qf, .inl (cI, 4, .inl fe))]) [0, 1, 2, 3, 4, 5, 6, 7] rfl
                  have hDc := (hD0.sub (ws' := [(qX, .inr (5, [.ref qg, .ref wg, .ref qR, .ref qd, .ref qh, .ref qk])), (qg, .inr (1, [.ref qb, .ref qt, .int x, .int (nI pl), .int th, .int tu, .int ca])), (qt, .inl (cI, 3, .inl se)), (qb, .inr (0, [.ref qp, .ref qs, .ref qr, .ref qf, .int fl])), (qp, .inl (cI, 12, .inl pr)), (qs, .inl (cI, 12, .inl sb)), (qr, .inl (cI, 4, .inl br)), (qf, .inl (cI, 4, .inl fe))]) [0, 1, 2, 3, 4, 5, 6, 7] (by decide) rfl).tt
                  refine vp_callSi (va_Run.run (va_runV (As := [.int (nI i), .int 3]) (rest := []) ⟨hx, hb, hml, hown, hts⟩ (c_X5_piece l G cI cC cZ cG s.heap.size qX wg qR qd qh qk qg qt qb qp qs qr qf pr sb br fe se fl x pl th tu ca (nI i) 3) (cf_RL_61 hts ⟨Nat.le_of_ble_eq_true rfl, Nat.le_of_ble_eq_true rfl⟩) (pre_V hK hPc hDc (ci := 5) (q0 := 0) rfl rfl) rfl rfl hl.1 rfl (lv_room (Nat.le_of_ble_eq_true rfl)) dL_isBoard_97 ⟨Nat.le_of_ble_eq_true rfl, Nat.le_of_ble_eq_true rfl⟩)) (fun r911 hr911 => ?_)
                  subst hr911
                  refine lv_aload_n hx hb dL_isBoard_100 rfl (lv_at hl 6 rfl) ?_
                  refine lv_iload hx hb dL_isBoard_101 (lv_at hl 1 rfl) ?_
                  refine za_ld hx hb hK.1 hP 11 0 rfl rfl i rfl (by omega) (by decide) dL_isBoard_103 ?_
                  have hq912 : p_piece (nI i) 3 pr sb = vs i := (bp_3 hR (by omega))
                  refine lv_icmp_eq (tgt := 109) hx hb dL_isBoard_104 (by decide) (fun c_913 => ?_) (fun c_913 => ?_)
                  · refine lv_iinc (v := nI (i + 1)) (lv' := [(7, .int (nI (i + 1))), (8, .int (lfd (i / 3) (vp i))), (6, .int 0), (5, .int (-6)), (0, .ref qX), (1, .ref yp), (2, .ref ys), (3, .ref yb), (4, .ref yg)]) hx hb dL_isBoard_109 hl (k := 1) rfl (nI_inc i) (by decide) rfl (fun ls hl => ?_)
                    refine lv_goto (tgt := 10) hx hb dL_isBoard_112 (by decide) ?_
                    exact ih1 (i + 1) (by omega) (by omega) _ (lv_sub hl [0, 2, 3, 4, 5, 6, 7, 8] rfl)
                  · exact absurd hq912 c_913
          · refine lv_iload hx hb dL_isBoard_54 (lv_at hl 3 rfl) ?_
            refine lv_goto (tgt := 61) hx hb dL_isBoard_56 (by decide) ?_
            have hq914 : p_piece (nI i) 1 pr sb = (-6) := (by rw [bp_1 hR (by omega), if_neg c_897])
            refine lv_icmp_ne (tgt := 107) hx hb dL_isBoard_61 (by decide) (fun c_915 => ?_) (fun c_915 => ?_)
            · exact absurd hq914 c_915
            · refine lv_aload_n hx hb dL_isBoard_64 rfl (lv_at hl 4 rfl) ?_
              refine lv_iload hx hb dL_isBoard_65 (lv_at hl 1 rfl) ?_
              refine lv_iconst (v := 2) hx hb dL_isBoard_67 (by decide) ?_
              have hPc := hP.sub (ws' := [(qX, .inr (5, [.ref qg, .ref wg, .ref qR, .ref qd, .ref qh, .ref qk])), (qg, .inr (1, [.ref qb, .ref qt, .int x, .int (nI pl), .int th, .int tu, .int ca])), (qt, .inl (cI, 3, .inl se)), (qb, .inr (0, [.ref qp, .ref qs, .ref qr, .ref qf, .int fl])), (qp, .inl (cI, 12, .inl pr)), (qs, .inl (cI, 12, .inl sb)), (qr, .inl (cI, 4, .inl br)), (qf, .inl (cI, 4, .inl fe))]) [0, 1, 2, 3, 4, 5, 6, 7] rfl
              have hDc := (hD0.sub (ws' := [(qX, .inr (5, [.ref qg, .ref wg, .ref qR, .ref qd, .ref qh, .ref qk])), (qg, .inr (1, [.ref qb, .ref qt, .int x, .int (nI pl), .int th, .int tu, .int ca])), (qt, .inl (cI, 3, .inl se)), (qb, .inr (0, [.ref qp, .ref qs, .ref qr, .ref qf, .int fl])), (qp, .inl (cI, 12, .inl pr)), (qs, .inl (cI, 12, .inl sb)), (qr, .inl (cI, 4, .inl br)), (qf, .inl (cI, 4, .inl fe))]) [0, 1, 2, 3, 4, 5, 6, 7] (by decide) rfl).tt
              refine vp_callSi (va_Run.run (va_runV (As := [.int (nI i), .int 2]) (rest := []) ⟨hx, hb, hml, hown, hts⟩ (c_X5_piece l G cI cC cZ cG s.heap.size qX wg qR qd qh qk qg qt qb qp qs qr qf pr sb br fe se fl x pl th tu ca (nI i) 2) (cf_RL_61 hts ⟨Nat.le_of_ble_eq_true rfl, Nat.le_of_ble_eq_true rfl⟩) (pre_V hK hPc hDc (ci := 5) (q0 := 0) rfl rfl) rfl rfl hl.1 rfl (lv_room (Nat.le_of_ble_eq_true rfl)) dL_isBoard_68 ⟨Nat.le_of_ble_eq_true rfl, Nat.le_of_ble_eq_true rfl⟩)) (fun r916 hr916 => ?_)
              subst hr916
              refine lv_aload_n hx hb dL_isBoard_71 rfl (lv_at hl 5 rfl) ?_
              refine lv_iload hx hb dL_isBoard_72 (lv_at hl 1 rfl) ?_
              refine lv_iconst (v := 3) hx hb dL_isBoard_74 (by decide) ?_
              refine zi_div hx hb i 3 dL_isBoard_75 rfl rfl (by omega) (by decide) (by decide) ?_
              refine lv_iload hx hb dL_isBoard_76 (lv_at hl 0 rfl) ?_
              have hPc := hP.sub (ws' := [(yp, .inl (cI, 12, .inl vp))]) [10] rfl
              have hDc := (hD0.sub (ws' := [(yp, .inl (cI, 12, .inl vp))]) [10] (by decide) rfl).tt
              refine vp_callSi (va_Run.run (va_runS (As := [.ref yp, .int (nI (i / 3)), .int (lfd (i / 3) (vp i))]) (rest := [.int (p_piece (nI i) 2 pr sb)]) ⟨hx, hb, hml, hown, hts⟩ (c_L_on l G cI cC cZ cG s.heap.size yp vp (i / 3) (lfd (i / 3) (vp i)) (by omega)) (cf_RL_15 hts ⟨Nat.le_of_ble_eq_true rfl, Nat.le_of_ble_eq_true rfl⟩) (pre_S hK hPc hDc) rfl rfl hl.1 rfl (lv_room (Nat.le_of_ble_eq_true rfl)) dL_isBoard_78 ⟨Nat.le_of_ble_eq_true rfl, Nat.le_of_ble_eq_true rfl⟩)) (fun r917 hr917 => ?_)
              subst hr917
              have hf918 := (@mpc_le vp (i / 3) (lfd (i / 3) (vp i)))
              refine lv_iconst (v := 1) hx hb dL_isBoard_81 (by decide) ?_
              refine zi_le (tgt := 89) hx hb (mpc vp (i / 3) (lfd (i / 3) (vp i))) 1 dL_isBoard_82 (by decide) rfl rfl (by omega) (by decide) (fun c_919 => ?_) (fun c_919 => ?_)
              · refine lv_iconst (v := 0) hx hb dL_isBoard_89 (by decide) ?_
                have hq920 : p_piece (nI i) 2 pr sb = 0 := (by rw [bp_2 hR (by omega), if_neg (Nat.not_lt.mpr c_919)])
                refine lv_icmp_ne (tgt := 107) hx hb dL_isBoard_90 (by decide) (fun c_921 => ?_) (fun c_921 => ?_)
                · exact absurd hq920 c_921
                · refine lv_aload_n hx hb dL_isBoard_93 rfl (lv_at hl 4 rfl) ?_
                  refine lv_iload hx hb dL_isBoard_94 (lv_at hl 1 rfl) ?_
                  refine lv_iconst (v := 3) hx hb dL_isBoard_96 (by decide) ?_
                  have hPc := hP.sub (ws' := [(qX, .inr (5, [.ref qg, .ref wg, .ref qR, .ref qd, .ref qh, .ref qk])), (qg, .inr (1, [.ref qb, .ref qt, .int x, .int (nI pl), .int th, .int tu, .int ca])), (qt, .inl (cI, 3, .inl se)), (qb, .inr (0, [.ref qp, .ref qs, .ref qr, .ref qf, .int fl])), (qp, .inl (cI, 12, .inl pr)), (qs, .inl (cI, 12, .inl sb)), (qr, .inl (cI, 4, .inl br)), (qf, .inl (cI, 4, .inl fe))]) [0, 1, 2, 3, 4, 5, 6, 7] rfl
                  have hDc := (hD0.sub (ws' := [(qX, .inr (5, [.ref qg, .ref wg, .ref qR, .ref qd, .ref qh, .ref qk])), (qg, .inr (1, [.ref qb, .ref qt, .int x, .int (nI pl), .int th, .int tu, .int ca])), (qt, .inl (cI, 3, .inl se)), (qb, .inr (0, [.ref qp, .ref qs, .ref qr, .ref qf, .int fl])), (qp, .inl (cI, 12, .inl pr)), (qs, .inl (cI, 12, .inl sb)), (qr, .inl (cI, 4, .inl br)), (qf, .inl (cI, 4, .inl fe))]) [0, 1, 2, 3, 4, 5, 6, 7] (by decide) rfl).tt
                  refine vp_callSi (va_Run.run (va_runV (As := [.int (nI i), .int 3]) (rest := []) ⟨hx, hb, hml, hown, hts⟩ (c_X5_piece l G cI cC cZ cG s.heap.size qX wg qR qd qh qk qg qt qb qp qs qr qf pr sb br fe se fl x pl th tu ca (nI i) 3) (cf_RL_61 hts ⟨Nat.le_of_ble_eq_true rfl, Nat.le_of_ble_eq_true rfl⟩) (pre_V hK hPc hDc (ci := 5) (q0 := 0) rfl rfl) rfl rfl hl.1 rfl (lv_room (Nat.le_of_ble_eq_true rfl)) dL_isBoard_97 ⟨Nat.le_of_ble_eq_true rfl, Nat.le_of_ble_eq_true rfl⟩)) (fun r922 hr922 => ?_)
                  subst hr922
                  refine lv_aload_n hx hb dL_isBoard_100 rfl (lv_at hl 6 rfl) ?_
                  refine lv_iload hx hb dL_isBoard_101 (lv_at hl 1 rfl) ?_
                  refine za_ld hx hb hK.1 hP 11 0 rfl rfl i rfl (by omega) (by decide) dL_isBoard_103 ?_
                  have hq923 : p_piece (nI i) 3 pr sb = vs i := (bp_3 hR (by omega))
                  refine lv_icmp_eq (tgt := 109) hx hb dL_isBoard_104 (by decide) (fun c_924 => ?_) (fun c_924 => ?_)
                  · refine lv_iinc (v := nI (i + 1)) (lv' := [(7, .int (nI (i + 1))), (8, .int (lfd (i / 3) (vp i))), (6, .int 0), (5, .int (-6)), (0, .ref qX), (1, .ref yp), (2, .ref ys), (3, .ref yb), (4, .ref yg)]) hx hb dL_isBoard_109 hl (k := 1) rfl (nI_inc i) (by decide) rfl (fun ls hl => ?_)
                    refine lv_goto (tgt := 10) hx hb dL_isBoard_112 (by decide) ?_
                    exact ih1 (i + 1) (by omega) (by omega) _ (lv_sub hl [0, 2, 3, 4, 5, 6, 7, 8] rfl)
                  · exact absurd hq923 c_924
              · refine lv_iconst (v := 1) hx hb dL_isBoard_85 (by decide) ?_
                refine lv_goto (tgt := 90) hx hb dL_isBoard_86 (by decide) ?_
                have hq925 : p_piece (nI i) 2 pr sb = 1 := (by rw [bp_2 hR (by omega), if_pos c_919])
                refine lv_icmp_ne (tgt := 107) hx hb dL_isBoard_90 (by decide) (fun c_926 => ?_) (fun c_926 => ?_)
                · exact absurd hq925 c_926
                · refine lv_aload_n hx hb dL_isBoard_93 rfl (lv_at hl 4 rfl) ?_
                  refine lv_iload hx hb dL_isBoard_94 (lv_at hl 1 rfl) ?_
                  refine lv_iconst (v := 3) hx hb dL_isBoard_96 (by decide) ?_
                  have hPc := hP.sub (ws' := [(qX, .inr (5, [.ref qg, .ref wg, .ref qR, .ref qd, .ref qh, .ref qk])), (qg, .inr (1, [.ref qb, .ref qt, .int x, .int (nI pl), .int th, .int tu, .int ca])), (qt, .inl (cI, 3, .inl se)), (qb, .inr (0, [.ref qp, .ref qs, .ref qr, .ref qf, .int fl])), (qp, .inl (cI, 12, .inl pr)), (qs, .inl (cI, 12, .inl sb)), (qr, .inl (cI, 4, .inl br)), (qf, .inl (cI, 4, .inl fe))]) [0, 1, 2, 3, 4, 5, 6, 7] rfl
                  have hDc := (hD0.sub (ws' := [(qX, .inr (5, [.ref qg, .ref wg, .ref qR, .ref qd, .ref qh, .ref qk])), (qg, .inr (1, [.ref qb, .ref qt, .int x, .int (nI pl), .int th, .int tu, .int ca])), (qt, .inl (cI, 3, .inl se)), (qb, .inr (0, [.ref qp, .ref qs, .ref qr, .ref qf, .int fl])), (qp, .inl (cI, 12, .inl pr)), (qs, .inl (cI, 12, .inl sb)), (qr, .inl (cI, 4, .inl br)), (qf, .inl (cI, 4, .inl fe))]) [0, 1, 2, 3, 4, 5, 6, 7] (by decide) rfl).tt
                  refine vp_callSi (va_Run.run (va_runV (As := [.int (nI i), .int 3]) (rest := []) ⟨hx, hb, hml, hown, hts⟩ (c_X5_piece l G cI cC cZ cG s.heap.size qX wg qR qd qh qk qg qt qb qp qs qr qf pr sb br fe se fl x pl th tu ca (nI i) 3) (cf_RL_61 hts ⟨Nat.le_of_ble_eq_true rfl, Nat.le_of_ble_eq_true rfl⟩) (pre_V hK hPc hDc (ci := 5) (q0 := 0) rfl rfl) rfl rfl hl.1 rfl (lv_room (Nat.le_of_ble_eq_true rfl)) dL_isBoard_97 ⟨Nat.le_of_ble_eq_true rfl, Nat.le_of_ble_eq_true rfl⟩)) (fun r927 hr927 => ?_)
                  subst hr927
                  refine lv_aload_n hx hb dL_isBoard_100 rfl (lv_at hl 6 rfl) ?_
                  refine lv_iload hx hb dL_isBoard_101 (lv_at hl 1 rfl) ?_
                  refine za_ld hx hb hK.1 hP 11 0 rfl rfl i rfl (by omega) (by decide) dL_isBoard_103 ?_
                  have hq928 : p_piece (nI i) 3 pr sb = vs i := (bp_3 hR (by omega))
                  refine lv_icmp_eq (tgt := 109) hx hb dL_isBoard_104 (by decide) (fun c_929 => ?_) (fun c_929 => ?_)
                  · refine lv_iinc (v := nI (i + 1)) (lv' := [(7, .int (nI (i + 1))), (8, .int (lfd (i / 3) (vp i))), (6, .int 0), (5, .int (-6)), (0, .ref qX), (1, .ref yp), (2, .ref ys), (3, .ref yb), (4, .ref yg)]) hx hb dL_isBoard_109 hl (k := 1) rfl (nI_inc i) (by decide) rfl (fun ls hl => ?_)
                    refine lv_goto (tgt := 10) hx hb dL_isBoard_112 (by decide) ?_
                    exact ih1 (i + 1) (by omega) (by omega) _ (lv_sub hl [0, 2, 3, 4, 5, 6, 7, 8] rfl)
                  · exact absurd hq928 c_929
  exact L1 13 0 (by decide) (by decide) _ (lv_sub hl [0, 1, 2, 3, 4, 5, 6, 7] rfl)
