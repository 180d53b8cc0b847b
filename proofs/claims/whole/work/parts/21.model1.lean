abbrev rm_X6_canMove : Room := { frames := 6, cells := 0, slots := 0, locals := 138 }
set_option maxHeartbeats 1000000 in
set_option maxRecDepth 100000 in
theorem c_X6_canMove (l : Launch) (G : va_G) (cI cC cZ cG : ClassId) (sz : Nat) (qm qz qa qe qs qv qp qn : Nat) (z as be sl sv pd nd : IA) (sts len : Nat) (go : Int32) (pl cn : Nat) (hz : ∀ k, k < 12 → okv (z k)) (hpl : pl < 4) (h40 : z 40 = nI pl) (hc1 : 1 ≤ cn) (hc : cn ≤ 6) : Met l yX6_canMove (.code yX6_canMove cX6_canMove 4 (some .boolean) :: wsL_law) rm_X6_canMove (va_Pc [.ref qm, .int (nI cn)] (bw G cI cC cZ cG false sz [(qm, .inr (6, [.ref qz, .ref qa, .ref qe, .int (nI sts), .ref qs, .ref qv, .ref qp, .int (nI len), .int go, .ref qn])), (qz, .inl (cI, 46, .inl z)), (qa, .inl (cI, 46, .inl as)), (qe, .inl (cI, 276, .inl be)), (qs, .inl (cI, 92, .inl sl)), (qv, .inl (cZ, 2, .inl sv)), (qp, .inl (cI, 60, .inl pd)), (qn, .inl (cI, 36, .inl nd))])) (va_Qi (fun (r : Int32) (u : Int32) => r = bz (mcQ z pl cn 3 = true) ∧ True) (fun (u : Int32) t => va_P G vwCl [(qm, .inr (6, [.ref qz, .ref qa, .ref qe, .int (nI sts), .ref qs, .ref qv, .ref qp, .int (nI len), .int u, .ref qn])), (qz, .inl (cI, 46, .inl z)), (qa, .inl (cI, 46, .inl as)), (qe, .inl (cI, 276, .inl be)), (qs, .inl (cI, 92, .inl sl)), (qv, .inl (cZ, 2, .inl sv)), (qp, .inl (cI, 60, .inl pd)), (qn, .inl (cI, 36, .inl nd))] t.heap ∧ va_D (va_A [(qm, .inr (6, [.ref qz, .ref qa, .ref qe, .int (nI sts), .ref qs, .ref qv, .ref qp, .int (nI len), .int go, .ref qn])), (qz, .inl (cI, 46, .inl z)), (qa, .inl (cI, 46, .inl as)), (qe, .inl (cI, 276, .inl be)), (qs, .inl (cI, 92, .inl sl)), (qv, .inl (cZ, 2, .inl sv)), (qp, .inl (cI, 60, .inl pd)), (qn, .inl (cI, 36, .inl nd))] sz) [(qm, .inr (6, [.ref qz, .ref qa, .ref qe, .int (nI sts), .ref qs, .ref qv, .ref qp, .int (nI len), .int u, .ref qn])), (qz, .inl (cI, 46, .inl z)), (qa, .inl (cI, 46, .inl as)), (qe, .inl (cI, 276, .inl be)), (qs, .inl (cI, 92, .inl sl)), (qv, .inl (cZ, 2, .inl sv)), (qp, .inl (cI, 60, .inl pd)), (qn, .inl (cI, 36, .inl nd))]) (va_A [(qm, .inr (6, [.ref qz, .ref qa, .ref qe, .int (nI sts), .ref qs, .ref qv, .ref qp, .int (nI len), .int go, .ref qn])), (qz, .inl (cI, 46, .inl z)), (qa, .inl (cI, 46, .inl as)), (qe, .inl (cI, 276, .inl be)), (qs, .inl (cI, 92, .inl sl)), (qv, .inl (cZ, 2, .inl sv)), (qp, .inl (cI, 60, .inl pd)), (qn, .inl (cI, 36, .inl nd))] sz)) 0 0 (va_A [(qm, .inr (6, [.ref qz, .ref qa, .ref qe, .int (nI sts), .ref qs, .ref qv, .ref qp, .int (nI len), .int go, .ref qn])), (qz, .inl (cI, 46, .inl z)), (qa, .inl (cI, 46, .inl as)), (qe, .inl (cI, 276, .inl be)), (qs, .inl (cI, 92, .inl sl)), (qv, .inl (cZ, 2, .inl sv)), (qp, .inl (cI, 60, .inl pd)), (qn, .inl (cI, 36, .inl nd))] sz) := by
  refine met_bw rfl (Nat.le_of_ble_eq_true rfl) ?_
  intro p e s m below meth c ls hx hb hr hml hown hts hlocks hin hsz hP hK hD0 hX0 hl
  have hown : s.vm.findClass RX6 = some m.cls := hown
  have hl : lv_has ls 4 [(0, .ref qm), (1, .int (nI cn))] := hl
  subst hsz
  have hD := hD0.self (sz := s.heap.size)
  generalize hAe : va_A [(qm, .inr (6, [.ref qz, .ref qa, .ref qe, .int (nI sts), .ref qs, .ref qv, .ref qp, .int (nI len), .int go, .ref qn])), (qz, .inl (cI, 46, .inl z)), (qa, .inl (cI, 46, .inl as)), (qe, .inl (cI, 276, .inl be)), (qs, .inl (cI, 92, .inl sl)), (qv, .inl (cZ, 2, .inl sv)), (qp, .inl (cI, 60, .inl pd)), (qn, .inl (cI, 36, .inl nd))] s.heap.size = A at hD ⊢
  have hA : ∀ q : Nat, s.heap.size ≤ q → A q := fun q h => by rw [← hAe]; exact Or.inr h
  have hS : va_S A s.heap s.heap [] := va_S.rf
  generalize hQ : MQ below (va_Qi (fun (r : Int32) (u : Int32) => r = bz (mcQ z pl cn 3 = true) ∧ True) (fun (u : Int32) t => va_P G vwCl [(qm, .inr (6, [.ref qz, .ref qa, .ref qe, .int (nI sts), .ref qs, .ref qv, .ref qp, .int (nI len), .int u, .ref qn])), (qz, .inl (cI, 46, .inl z)), (qa, .inl (cI, 46, .inl as)), (qe, .inl (cI, 276, .inl be)), (qs, .inl (cI, 92, .inl sl)), (qv, .inl (cZ, 2, .inl sv)), (qp, .inl (cI, 60, .inl pd)), (qn, .inl (cI, 36, .inl nd))] t.heap ∧ va_D A [(qm, .inr (6, [.ref qz, .ref qa, .ref qe, .int (nI sts), .ref qs, .ref qv, .ref qp, .int (nI len), .int u, .ref qn])), (qz, .inl (cI, 46, .inl z)), (qa, .inl (cI, 46, .inl as)), (qe, .inl (cI, 276, .inl be)), (qs, .inl (cI, 92, .inl sl)), (qv, .inl (cZ, 2, .inl sv)), (qp, .inl (cI, 60, .inl pd)), (qn, .inl (cI, 36, .inl nd))]) A) ([.ref qm, .int (nI cn)] : List Value).toArray s 0 0 A = Q
  generalize hag : ([.ref qm, .int (nI cn)] : List Value).toArray = ag at hts hQ ⊢
  refine lv_iconst (v := 0) hx hb dX6_canMove_0 (by decide) ?_
  refine lv_istore_n (lv' := [(2, .int 0), (0, .ref qm), (1, .int (nI cn))]) hx hb dX6_canMove_1 rfl hl (by decide) rfl (fun ls hl => ?_)
  refine lv_iconst (v := 0) hx hb dX6_canMove_2 (by decide) ?_
  refine lv_istore_n (lv' := [(3, .int 0), (2, .int 0), (0, .ref qm), (1, .int (nI cn))]) hx hb dX6_canMove_3 rfl hl (by decide) rfl (fun ls hl => ?_)
  have L1 : ∀ (n : Nat), ∀ (i : Nat), ∀ (b : Bool), ∀ (gc : Int32), ∀ (hi : i ≤ 3), ∀ (hf2 : b = mcQ z pl cn i), ∀ (hn : 4 ≤ i + n), ∀ (H424 : Heap) (locs424 : List Loc), va_P G vwCl [(qm, .inr (6, [.ref qz, .ref qa, .ref qe, .int (nI sts), .ref qs, .ref qv, .ref qp, .int (nI len), .int gc, .ref qn])), (qz, .inl (cI, 46, .inl z)), (qa, .inl (cI, 46, .inl as)), (qe, .inl (cI, 276, .inl be)), (qs, .inl (cI, 92, .inl sl)), (qv, .inl (cZ, 2, .inl sv)), (qp, .inl (cI, 60, .inl pd)), (qn, .inl (cI, 36, .inl nd))] H424 → va_D A [(qm, .inr (6, [.ref qz, .ref qa, .ref qe, .int (nI sts), .ref qs, .ref qv, .ref qp, .int (nI len), .int gc, .ref qn])), (qz, .inl (cI, 46, .inl z)), (qa, .inl (cI, 46, .inl as)), (qe, .inl (cI, 276, .inl be)), (qs, .inl (cI, 92, .inl sl)), (qv, .inl (cZ, 2, .inl sv)), (qp, .inl (cI, 60, .inl pd)), (qn, .inl (cI, 36, .inl nd))] → va_S A s.heap H424 locs424 → ∀ (ls : Array Slot), lv_has ls 4 [(3, .int (nI i)), (2, .int (bz (b = true))), (0, .ref qm), (1, .int (nI cn))] → W p l e rm_X6_canMove s m ag below meth c H424 locs424 0 0 Q (F0 m 4 ls []) := by
    intro n
    induction n with
    | zero =>
      intro i b gc hi hf2 hn H424 locs424 hP hD hS ls hl
      omega
    | succ n ih1 =>
      intro i b gc hi hf2 hn H424 locs424 hP hD hS ls hl
      refine lv_iload_n hx hb dX6_canMove_4 rfl (lv_at hl 0 rfl) ?_
      refine lv_iconst (v := 3) hx hb dX6_canMove_5 (by decide) ?_
      refine zi_ge (tgt := 44) hx hb i 3 dX6_canMove_6 (by decide) rfl rfl (by omega) (by decide) (fun c_425 => ?_) (fun c_425 => ?_)
      · refine lv_iload_n hx hb dX6_canMove_44 rfl (lv_at hl 1 rfl) ?_
        subst hQ
        exact W.zret (v := bz (b = true)) hx hb hr bz_nar (fun t ht hW => ⟨⟨bz (b = true), gc, rfl, ⟨by rw [hf2, show i = 3 by omega], trivial⟩, by rw [ht]; exact hP, hD⟩, hS.F ht⟩) hS.2.2 dX6_canMove_45
      · refine lv_iload_n hx hb dX6_canMove_9 rfl (lv_at hl 1 rfl) ?_
        refine zb_ne (tgt := 32) hx hb dX6_canMove_10 (by decide) (fun c_426 => ?_) (fun c_426 => ?_)
        · refine lv_iconst (v := 1) hx hb dX6_canMove_32 (by decide) ?_
          refine lv_goto (tgt := 37) hx hb dX6_canMove_33 (by decide) ?_
          refine lv_istore_n (lv' := [(2, .int 1), (3, .int (nI i)), (0, .ref qm), (1, .int (nI cn))]) hx hb dX6_canMove_37 rfl hl (by decide) rfl (fun ls hl => ?_)
          refine lv_iinc (v := nI (i + 1)) (lv' := [(3, .int (nI (i + 1))), (2, .int 1), (0, .ref qm), (1, .int (nI cn))]) hx hb dX6_canMove_38 hl (k := 1) rfl (nI_inc i) (by decide) rfl (fun ls hl => ?_)
          refine lv_goto (tgt := 4) hx hb dX6_canMove_41 (by decide) ?_
          exact ih1 (i + 1) true gc (by omega) (by rw [mcQ, ← hf2]; simp [mcP, c_425, c_426]) (by omega) H424 locs424 hP hD hS _ (lv_sub hl [0, 1, 2, 3] rfl)
        · refine lv_aload_n hx hb dX6_canMove_13 rfl (lv_at hl 2 rfl) ?_
          refine lv_iconst (v := 3) hx hb dX6_canMove_14 (by decide) ?_
          refine lv_aload_n hx hb dX6_canMove_15 rfl (lv_at hl 2 rfl) ?_
          refine va_get (D := G) (ci := 6) (v := .ref qz) (C := RX6) (T := TX6) (N := 10) hx hb hts inlX6 hown hK.1 hP 0 rfl rfl 0 (by decide) (hts _ wd78) (fun _ h9 => h9) rfl dX6_canMove_16 ?_
          refine lv_bipush (v := 40) hx hb dX6_canMove_19 (by decide) ?_
          refine za_ld hx hb hK.1 hP 1 0 rfl rfl 40 rfl (by decide) (by decide) dX6_canMove_21 ?_
          refine zi_mul hx hb 3 pl dX6_canMove_22 rfl h40 ?_
          refine lv_iload_n hx hb dX6_canMove_23 rfl (lv_at hl 0 rfl) ?_
          refine zi_add hx hb (3 * pl) i dX6_canMove_24 rfl rfl ?_
          refine lv_iload_n hx hb dX6_canMove_25 rfl (lv_at hl 3 rfl) ?_
          have hPc : va_P G vwCl [(qm, .inr (6, [.ref qz, .ref qa, .ref qe, .int (nI sts), .ref qs, .ref qv, .ref qp, .int (nI len), .int gc, .ref qn])), (qz, .inl (cI, 46, .inl z)), (qa, .inl (cI, 46, .inl as)), (qe, .inl (cI, 276, .inl be)), (qs, .inl (cI, 92, .inl sl)), (qv, .inl (cZ, 2, .inl sv)), (qp, .inl (cI, 60, .inl pd)), (qn, .inl (cI, 36, .inl nd))] H424 := hP
          have hDc := hD.tt
          have hFc := va_free (wc := [(qm, .inr (6, [.ref qz, .ref qa, .ref qe, .int (nI sts), .ref qs, .ref qv, .ref qp, .int (nI len), .int gc, .ref qn])), (qz, .inl (cI, 46, .inl z)), (qa, .inl (cI, 46, .inl as)), (qe, .inl (cI, 276, .inl be)), (qs, .inl (cI, 92, .inl sl)), (qv, .inl (cZ, 2, .inl sv)), (qp, .inl (cI, 60, .inl pd)), (qn, .inl (cI, 36, .inl nd))]) hD hS hA [0, 1, 2, 3, 4, 5, 6, 7] rfl
          refine va_calli (va_runV (As := [.int (nI ((3 * pl) + i)), .int (nI cn)]) (rest := []) ⟨hx, hb, hml, hown, hts⟩ (c_X6_whyNot l G cI cC cZ cG H424.size qm qz qa qe qs qv qp qn z as be sl sv pd nd sts len gc ((3 * pl) + i) cn hz (by omega) hc1 hc) (cf_RX6_88 hts ⟨Nat.le_of_ble_eq_true rfl, Nat.le_of_ble_eq_true rfl⟩) (pre_V hK hPc hDc (ci := 6) (q0 := 0) rfl rfl) rfl rfl hl.1 rfl (lv_room (Nat.le_of_ble_eq_true rfl)) dX6_canMove_26 ⟨Nat.le_of_ble_eq_true rfl, Nat.le_of_ble_eq_true rfl⟩) hS (fun q _ h => hFc q h) hFc (fun r427 u427 t427 H427 locs427 ht427 hvm427 hw427 hB427 hz427 hk427 hS => ?_)
          obtain ⟨go427, rfl⟩ : ∃ z, z = u427 := ⟨_, rfl⟩
          obtain ⟨hP1, hD1⟩ := hB427
          rw [ht427] at hP1
          try dsimp only at hw427
          obtain ⟨hr427, hw427⟩ := hw427
          subst hr427
          obtain ⟨hP, hD⟩ := va_join (wr := []) (w1 := [(qm, .inr (6, [.ref qz, .ref qa, .ref qe, .int (nI sts), .ref qs, .ref qv, .ref qp, .int (nI len), .int go427, .ref qn])), (qz, .inl (cI, 46, .inl z)), (qa, .inl (cI, 46, .inl as)), (qe, .inl (cI, 276, .inl be)), (qs, .inl (cI, 92, .inl sl)), (qv, .inl (cZ, 2, .inl sv)), (qp, .inl (cI, 60, .inl pd)), (qn, .inl (cI, 36, .inl nd))]) hP hD [0, 1, 2, 3, 4, 5, 6, 7] [] rfl rfl (by decide) (by decide) hk427 hFc hP1 hD1
          have hP : va_P G vwCl [(qm, .inr (6, [.ref qz, .ref qa, .ref qe, .int (nI sts), .ref qs, .ref qv, .ref qp, .int (nI len), .int go427, .ref qn])), (qz, .inl (cI, 46, .inl z)), (qa, .inl (cI, 46, .inl as)), (qe, .inl (cI, 276, .inl be)), (qs, .inl (cI, 92, .inl sl)), (qv, .inl (cZ, 2, .inl sv)), (qp, .inl (cI, 60, .inl pd)), (qn, .inl (cI, 36, .inl nd))] H427 := hP
          have hD : va_D A [(qm, .inr (6, [.ref qz, .ref qa, .ref qe, .int (nI sts), .ref qs, .ref qv, .ref qp, .int (nI len), .int go427, .ref qn])), (qz, .inl (cI, 46, .inl z)), (qa, .inl (cI, 46, .inl as)), (qe, .inl (cI, 276, .inl be)), (qs, .inl (cI, 92, .inl sl)), (qv, .inl (cZ, 2, .inl sv)), (qp, .inl (cI, 60, .inl pd)), (qn, .inl (cI, 36, .inl nd))] := hD
          refine lv_if_ne (tgt := 36) hx hb dX6_canMove_29 (by decide) (fun c_428 => ?_) (fun c_428 => ?_)
          · refine lv_iconst (v := 0) hx hb dX6_canMove_36 (by decide) ?_
            refine lv_istore_n (lv' := [(2, .int 0), (3, .int (nI i)), (0, .ref qm), (1, .int (nI cn))]) hx hb dX6_canMove_37 rfl hl (by decide) rfl (fun ls hl => ?_)
            refine lv_iinc (v := nI (i + 1)) (lv' := [(3, .int (nI (i + 1))), (2, .int 0), (0, .ref qm), (1, .int (nI cn))]) hx hb dX6_canMove_38 hl (k := 1) rfl (nI_inc i) (by decide) rfl (fun ls hl => ?_)
            refine lv_goto (tgt := 4) hx hb dX6_canMove_41 (by decide) ?_
            exact ih1 (i + 1) false go427 (by omega) (by rw [mcQ, ← hf2]; simp [mcP, c_425, c_426, c_428]) (by omega) H427 locs427 hP hD hS _ (lv_sub hl [0, 1, 2, 3] rfl)
          · refine lv_iconst (v := 1) hx hb dX6_canMove_32 (by decide) ?_
            refine lv_goto (tgt := 37) hx hb dX6_canMove_33 (by decide) ?_
            refine lv_istore_n (lv' := [(2, .int 1), (3, .int (nI i)), (0, .ref qm), (1, .int (nI cn))]) hx hb dX6_canMove_37 rfl hl (by decide) rfl (fun ls hl => ?_)
            refine lv_iinc (v := nI (i + 1)) (lv' := [(3, .int (nI (i + 1))), (2, .int 1), (0, .ref qm), (1, .int (nI cn))]) hx hb dX6_canMove_38 hl (k := 1) rfl (nI_inc i) (by decide) rfl (fun ls hl => ?_)
            refine lv_goto (tgt := 4) hx hb dX6_canMove_41 (by decide) ?_
            exact ih1 (i + 1) true go427 (by omega) (by rw [mcQ, ← hf2]; simp [mcP, c_425, c_426, c_428]) (by omega) H427 locs427 hP hD hS _ (lv_sub hl [0, 1, 2, 3] rfl)
  exact L1 4 0 false go (by decide) rfl (by decide) s.heap [] hP hD hS _ (lv_sub hl [0, 1, 2, 3] rfl)

abbrev rm_X6_goOn : Room := { frames := 3, cells := 0, slots := 0, locals := 65 }
theorem cf_RX6_97 {R : Room} {s : State} {args : Array Value} (ht : ∀ w ∈ wsL_law, w.before args s = true) (hR : rm_X6_isOver.frames + 1 ≤ R.frames ∧ 8 + (1 + 11) + rm_X6_isOver.locals ≤ R.locals) : CallW R s args RX6 RX6 97 yX6_isOver cX6_isOver 1 (some .boolean) (.code yX6_isOver cX6_isOver 1 (some .boolean) :: wsL_law) rm_X6_isOver 0 0 0 := ⟨cw_B 0 ht wd168 wd5 wd171 (by decide +kernel) rfl rfl hR, ht _ wd169, ht _ wd170⟩
set_option maxHeartbeats 1000000 in
set_option maxRecDepth 100000 in
theorem c_X6_goOn (l : Launch) (G : va_G) (cI cC cZ cG : ClassId) (sz : Nat) (qm qz qa qe qs qv qp qn : Nat) (z as be sl sv pd nd : IA) (sts len : Nat) (go : Int32) (pl : Nat) (hpl : pl < 4) (h40 : z 40 = nI pl) : Met l yX6_goOn (.code yX6_goOn cX6_goOn 3 none :: wsL_law) rm_X6_goOn (va_Pc [.ref qm] (bw G cI cC cZ cG false sz [(qm, .inr (6, [.ref qz, .ref qa, .ref qe, .int (nI sts), .ref qs, .ref qv, .ref qp, .int (nI len), .int go, .ref qn])), (qz, .inl (cI, 46, .inl z)), (qa, .inl (cI, 46, .inl as)), (qe, .inl (cI, 276, .inl be)), (qs, .inl (cI, 92, .inl sl)), (qv, .inl (cZ, 2, .inl sv)), (qp, .inl (cI, 60, .inl pd)), (qn, .inl (cI, 36, .inl nd))])) (va_Qv (fun (u : IA) => u = goM z pl) (fun (u : IA) t => va_P G vwCl [(qm, .inr (6, [.ref qz, .ref qa, .ref qe, .int (nI sts), .ref qs, .ref qv, .ref qp, .int (nI len), .int go, .ref qn])), (qz, .inl (cI, 46, .inl u)), (qa, .inl (cI, 46, .inl as)), (qe, .inl (cI, 276, .inl be)), (qs, .inl (cI, 92, .inl sl)), (qv, .inl (cZ, 2, .inl sv)), (qp, .inl (cI, 60, .inl pd)), (qn, .inl (cI, 36, .inl nd))] t.heap ∧ va_D (va_A [(qm, .inr (6, [.ref qz, .ref qa, .ref qe, .int (nI sts), .ref qs, .ref qv, .ref qp, .int (nI len), .int go, .ref qn])), (qz, .inl (cI, 46, .inl z)), (qa, .inl (cI, 46, .inl as)), (qe, .inl (cI, 276, .inl be)), (qs, .inl (cI, 92, .inl sl)), (qv, .inl (cZ, 2, .inl sv)), (qp, .inl (cI, 60, .inl pd)), (qn, .inl (cI, 36, .inl nd))] sz) [(qm, .inr (6, [.ref qz, .ref qa, .ref qe, .int (nI sts), .ref qs, .ref qv, .ref qp, .int (nI len), .int go, .ref qn])), (qz, .inl (cI, 46, .inl u)), (qa, .inl (cI, 46, .inl as)), (qe, .inl (cI, 276, .inl be)), (qs, .inl (cI, 92, .inl sl)), (qv, .inl (cZ, 2, .inl sv)), (qp, .inl (cI, 60, .inl pd)), (qn, .inl (cI, 36, .inl nd))]) (va_A [(qm, .inr (6, [.ref qz, .ref qa, .ref qe, .int (nI sts), .ref qs, .ref qv, .ref qp, .int (nI len), .int go, .ref qn])), (qz, .inl (cI, 46, .inl z)), (qa, .inl (cI, 46, .inl as)), (qe, .inl (cI, 276, .inl be)), (qs, .inl (cI, 92, .inl sl)), (qv, .inl (cZ, 2, .inl sv)), (qp, .inl (cI, 60, .inl pd)), (qn, .inl (cI, 36, .inl nd))] sz)) 0 0 (va_A [(qm, .inr (6, [.ref qz, .ref qa, .ref qe, .int (nI sts), .ref qs, .ref qv, .ref qp, .int (nI len), .int go, .ref qn])), (qz, .inl (cI, 46, .inl z)), (qa, .inl (cI, 46, .inl as)), (qe, .inl (cI, 276, .inl be)), (qs, .inl (cI, 92, .inl sl)), (qv, .inl (cZ, 2, .inl sv)), (qp, .inl (cI, 60, .inl pd)), (qn, .inl (cI, 36, .inl nd))] sz) := by
  refine met_bw rfl (Nat.le_of_ble_eq_true rfl) ?_
  intro p e s m below meth c ls hx hb hr hml hown hts hlocks hin hsz hP hK hD0 hX0 hl
  have hown : s.vm.findClass RX6 = some m.cls := hown
  have hl : lv_has ls 3 [(0, .ref qm)] := hl
  subst hsz
  have hD := hD0.self (sz := s.heap.size)
  generalize hAe : va_A [(qm, .inr (6, [.ref qz, .ref qa, .ref qe, .int (nI sts), .ref qs, .ref qv, .ref qp, .int (nI len), .int go, .ref qn])), (qz, .inl (cI, 46, .inl z)), (qa, .inl (cI, 46, .inl as)), (qe, .inl (cI, 276, .inl be)), (qs, .inl (cI, 92, .inl sl)), (qv, .inl (cZ, 2, .inl sv)), (qp, .inl (cI, 60, .inl pd)), (qn, .inl (cI, 36, .inl nd))] s.heap.size = A at hD ⊢
  have hA : ∀ q : Nat, s.heap.size ≤ q → A q := fun q h => by rw [← hAe]; exact Or.inr h
  have hS : va_S A s.heap s.heap [] := va_S.rf
  generalize hQ : MQ below (va_Qv (fun (u : IA) => u = goM z pl) (fun (u : IA) t => va_P G vwCl [(qm, .inr (6, [.ref qz, .ref qa, .ref qe, .int (nI sts), .ref qs, .ref qv, .ref qp, .int (nI len), .int go, .ref qn])), (qz, .inl (cI, 46, .inl u)), (qa, .inl (cI, 46, .inl as)), (qe, .inl (cI, 276, .inl be)), (qs, .inl (cI, 92, .inl sl)), (qv, .inl (cZ, 2, .inl sv)), (qp, .inl (cI, 60, .inl pd)), (qn, .inl (cI, 36, .inl nd))] t.heap ∧ va_D A [(qm, .inr (6, [.ref qz, .ref qa, .ref qe, .int (nI sts), .ref qs, .ref qv, .ref qp, .int (nI len), .int go, .ref qn])), (qz, .inl (cI, 46, .inl u)), (qa, .inl (cI, 46, .inl as)), (qe, .inl (cI, 276, .inl be)), (qs, .inl (cI, 92, .inl sl)), (qv, .inl (cZ, 2, .inl sv)), (qp, .inl (cI, 60, .inl pd)), (qn, .inl (cI, 36, .inl nd))]) A) ([.ref qm] : List Value).toArray s 0 0 A = Q
  generalize hag : ([.ref qm] : List Value).toArray = ag at hts hQ ⊢
  refine lv_aload_n hx hb dX6_goOn_0 rfl (lv_at hl 0 rfl) ?_
  refine va_get (D := G) (ci := 6) (v := .ref qz) (C := RX6) (T := TX6) (N := 10) hx hb hts inlX6 hown hK.1 hP 0 rfl rfl 0 (by decide) (hts _ wd78) (fun _ h9 => h9) rfl dX6_goOn_1 ?_
  refine lv_bipush (v := 41) hx hb dX6_goOn_4 (by decide) ?_
  refine za_ld hx hb hK.1 hP 1 0 rfl rfl 41 rfl (by decide) (by decide) dX6_goOn_6 ?_
  refine lv_bipush (v := 6) hx hb dX6_goOn_7 (by decide) ?_
  refine lv_icmp_ne (tgt := 33) hx hb dX6_goOn_9 (by decide) (fun c_429 => ?_) (fun c_429 => ?_)
  · refine lv_iconst (v := 0) hx hb dX6_goOn_33 (by decide) ?_
    refine lv_istore_n (lv' := [(1, .int 0), (0, .ref qm)]) hx hb dX6_goOn_34 rfl hl (by decide) rfl (fun ls hl => ?_)
    refine lv_aload_n hx hb dX6_goOn_35 rfl (lv_at hl 1 rfl) ?_
    refine va_get (D := G) (ci := 6) (v := .ref qz) (C := RX6) (T := TX6) (N := 10) hx hb hts inlX6 hown hK.1 hP 0 rfl rfl 0 (by decide) (hts _ wd78) (fun _ h9 => h9) rfl dX6_goOn_36 ?_
    refine lv_bipush (v := 41) hx hb dX6_goOn_39 (by decide) ?_
    refine lv_bipush (v := (-6)) hx hb dX6_goOn_41 (by decide) ?_
    refine za_st hx hb hK.1 hP hD hS 1 0 rfl rfl 41 rfl (by decide) (by decide) dX6_goOn_43 (fun H430 locs430 hP hD hS => ?_)
    have hP : va_P G vwCl [(qm, .inr (6, [.ref qz, .ref qa, .ref qe, .int (nI sts), .ref qs, .ref qv, .ref qp, .int (nI len), .int go, .ref qn])), (qz, .inl (cI, 46, .inl (upd z 41 (-6)))), (qa, .inl (cI, 46, .inl as)), (qe, .inl (cI, 276, .inl be)), (qs, .inl (cI, 92, .inl sl)), (qv, .inl (cZ, 2, .inl sv)), (qp, .inl (cI, 60, .inl pd)), (qn, .inl (cI, 36, .inl nd))] H430 := hP
    have hD : va_D A [(qm, .inr (6, [.ref qz, .ref qa, .ref qe, .int (nI sts), .ref qs, .ref qv, .ref qp, .int (nI len), .int go, .ref qn])), (qz, .inl (cI, 46, .inl (upd z 41 (-6)))), (qa, .inl (cI, 46, .inl as)), (qe, .inl (cI, 276, .inl be)), (qs, .inl (cI, 92, .inl sl)), (qv, .inl (cZ, 2, .inl sv)), (qp, .inl (cI, 60, .inl pd)), (qn, .inl (cI, 36, .inl nd))] := hD
    refine lv_aload_n hx hb dX6_goOn_44 rfl (lv_at hl 1 rfl) ?_
    have hPc : va_P G vwCl [(qm, .inr (6, [.ref qz, .ref qa, .ref qe, .int (nI sts), .ref qs, .ref qv, .ref qp, .int (nI len), .int go, .ref qn])), (qz, .inl (cI, 46, .inl (upd z 41 (-6)))), (qa, .inl (cI, 46, .inl as)), (qe, .inl (cI, 276, .inl be)), (qs, .inl (cI, 92, .inl sl)), (qv, .inl (cZ, 2, .inl sv)), (qp, .inl (cI, 60, .inl pd)), (qn, .inl (cI, 36, .inl nd))] H430 := hP
    have hDc := hD.tt
    refine vp_callSi (va_Run.run (va_runV (As := []) (rest := []) ⟨hx, hb, hml, hown, hts⟩ (c_X6_isOver l G cI cC cZ cG H430.size qm qz qa qe qs qv qp qn (upd z 41 (-6)) as be sl sv pd nd sts len go) (cf_RX6_97 hts ⟨Nat.le_of_ble_eq_true rfl, Nat.le_of_ble_eq_true rfl⟩) (pre_V hK hPc hDc (ci := 6) (q0 := 0) rfl rfl) rfl rfl hl.1 rfl (lv_room (Nat.le_of_ble_eq_true rfl)) dX6_goOn_45 ⟨Nat.le_of_ble_eq_true rfl, Nat.le_of_ble_eq_true rfl⟩)) (fun r431 hr431 => ?_)
    subst hr431
    refine zb_ne (tgt := 55) hx hb dX6_goOn_48 (by decide) (fun c_432 => ?_) (fun c_432 => ?_)
    · subst hQ
      exact W.vret hx hb hr (fun t ht hW => ⟨⟨upd z 41 (-6), rfl, by rw [goM, if_pos (Or.inl c_432)], by rw [ht]; exact hP, hD⟩, hS.F ht⟩) hS.2.2 dX6_goOn_55
    · refine lv_iload_n hx hb dX6_goOn_51 rfl (lv_at hl 0 rfl) ?_
      refine lv_if_eq (tgt := 56) hx hb dX6_goOn_52 (by decide) (fun c_433 => ?_) (fun c_433 => ?_)
      · refine lv_aload_n hx hb dX6_goOn_56 rfl (lv_at hl 1 rfl) ?_
        refine va_get (D := G) (ci := 6) (v := .ref qz) (C := RX6) (T := TX6) (N := 10) hx hb hts inlX6 hown hK.1 hP 0 rfl rfl 0 (by decide) (hts _ wd78) (fun _ h9 => h9) rfl dX6_goOn_57 ?_
        refine lv_bipush (v := 40) hx hb dX6_goOn_60 (by decide) ?_
        refine lv_aload_n hx hb dX6_goOn_62 rfl (lv_at hl 1 rfl) ?_
        refine va_get (D := G) (ci := 6) (v := .ref qz) (C := RX6) (T := TX6) (N := 10) hx hb hts inlX6 hown hK.1 hP 0 rfl rfl 0 (by decide) (hts _ wd78) (fun _ h9 => h9) rfl dX6_goOn_63 ?_
        refine lv_bipush (v := 40) hx hb dX6_goOn_66 (by decide) ?_
        refine za_ld hx hb hK.1 hP 1 0 rfl rfl 40 rfl (by decide) (by decide) dX6_goOn_68 ?_
        refine lv_iconst (v := 1) hx hb dX6_goOn_69 (by decide) ?_
        refine zi_add hx hb pl 1 dX6_goOn_70 h40 rfl ?_
        refine lv_iconst (v := 4) hx hb dX6_goOn_71 (by decide) ?_
        refine zi_rem hx hb (pl + 1) 4 dX6_goOn_72 rfl rfl (by omega) (by decide) (by decide) ?_
        refine za_st hx hb hK.1 hP hD hS 1 0 rfl rfl 40 rfl (by decide) (by decide) dX6_goOn_73 (fun H434 locs434 hP hD hS => ?_)
        have hP : va_P G vwCl [(qm, .inr (6, [.ref qz, .ref qa, .ref qe, .int (nI sts), .ref qs, .ref qv, .ref qp, .int (nI len), .int go, .ref qn])), (qz, .inl (cI, 46, .inl (upd (upd z 41 (-6)) 40 (nI ((pl + 1) % 4))))), (qa, .inl (cI, 46, .inl as)), (qe, .inl (cI, 276, .inl be)), (qs, .inl (cI, 92, .inl sl)), (qv, .inl (cZ, 2, .inl sv)), (qp, .inl (cI, 60, .inl pd)), (qn, .inl (cI, 36, .inl nd))] H434 := hP
        have hD : va_D A [(qm, .inr (6, [.ref qz, .ref qa, .ref qe, .int (nI sts), .ref qs, .ref qv, .ref qp, .int (nI len), .int go, .ref qn])), (qz, .inl (cI, 46, .inl (upd (upd z 41 (-6)) 40 (nI ((pl + 1) % 4))))), (qa, .inl (cI, 46, .inl as)), (qe, .inl (cI, 276, .inl be)), (qs, .inl (cI, 92, .inl sl)), (qv, .inl (cZ, 2, .inl sv)), (qp, .inl (cI, 60, .inl pd)), (qn, .inl (cI, 36, .inl nd))] := hD
        refine lv_aload_n hx hb dX6_goOn_74 rfl (lv_at hl 1 rfl) ?_
        refine va_get (D := G) (ci := 6) (v := .ref qz) (C := RX6) (T := TX6) (N := 10) hx hb hts inlX6 hown hK.1 hP 0 rfl rfl 0 (by decide) (hts _ wd78) (fun _ h9 => h9) rfl dX6_goOn_75 ?_
        refine lv_bipush (v := 42) hx hb dX6_goOn_78 (by decide) ?_
        refine lv_dup2_11 hx hb dX6_goOn_80 rfl rfl ?_
        refine za_ld hx hb hK.1 hP 1 0 rfl rfl 42 rfl (by decide) (by decide) dX6_goOn_81 ?_
        refine lv_iconst (v := 1) hx hb dX6_goOn_82 (by decide) ?_
        refine lv_iadd hx hb dX6_goOn_83 ?_
        refine za_st hx hb hK.1 hP hD hS 1 0 rfl rfl 42 rfl (by decide) (by decide) dX6_goOn_84 (fun H435 locs435 hP hD hS => ?_)
        have hP : va_P G vwCl [(qm, .inr (6, [.ref qz, .ref qa, .ref qe, .int (nI sts), .ref qs, .ref qv, .ref qp, .int (nI len), .int go, .ref qn])), (qz, .inl (cI, 46, .inl (upd (upd (upd z 41 (-6)) 40 (nI ((pl + 1) % 4))) 42 ((z 42) + 1)))), (qa, .inl (cI, 46, .inl as)), (qe, .inl (cI, 276, .inl be)), (qs, .inl (cI, 92, .inl sl)), (qv, .inl (cZ, 2, .inl sv)), (qp, .inl (cI, 60, .inl pd)), (qn, .inl (cI, 36, .inl nd))] H435 := hP
        have hD : va_D A [(qm, .inr (6, [.ref qz, .ref qa, .ref qe, .int (nI sts), .ref qs, .ref qv, .ref qp, .int (nI len), .int go, .ref qn])), (qz, .inl (cI, 46, .inl (upd (upd (upd z 41 (-6)) 40 (nI ((pl + 1) % 4))) 42 ((z 42) + 1)))), (qa, .inl (cI, 46, .inl as)), (qe, .inl (cI, 276, .inl be)), (qs, .inl (cI, 92, .inl sl)), (qv, .inl (cZ, 2, .inl sv)), (qp, .inl (cI, 60, .inl pd)), (qn, .inl (cI, 36, .inl nd))] := hD
        refine lv_aload_n hx hb dX6_goOn_85 rfl (lv_at hl 1 rfl) ?_
        refine va_get (D := G) (ci := 6) (v := .ref qz) (C := RX6) (T := TX6) (N := 10) hx hb hts inlX6 hown hK.1 hP 0 rfl rfl 0 (by decide) (hts _ wd78) (fun _ h9 => h9) rfl dX6_goOn_86 ?_
        refine lv_bipush (v := 43) hx hb dX6_goOn_89 (by decide) ?_
        refine lv_iconst (v := 0) hx hb dX6_goOn_91 (by decide) ?_
        refine za_st hx hb hK.1 hP hD hS 1 0 rfl rfl 43 rfl (by decide) (by decide) dX6_goOn_92 (fun H436 locs436 hP hD hS => ?_)
        have hP : va_P G vwCl [(qm, .inr (6, [.ref qz, .ref qa, .ref qe, .int (nI sts), .ref qs, .ref qv, .ref qp, .int (nI len), .int go, .ref qn])), (qz, .inl (cI, 46, .inl (upd (upd (upd (upd z 41 (-6)) 40 (nI ((pl + 1) % 4))) 42 ((z 42) + 1)) 43 0))), (qa, .inl (cI, 46, .inl as)), (qe, .inl (cI, 276, .inl be)), (qs, .inl (cI, 92, .inl sl)), (qv, .inl (cZ, 2, .inl sv)), (qp, .inl (cI, 60, .inl pd)), (qn, .inl (cI, 36, .inl nd))] H436 := hP
        have hD : va_D A [(qm, .inr (6, [.ref qz, .ref qa, .ref qe, .int (nI sts), .ref qs, .ref qv, .ref qp, .int (nI len), .int go, .ref qn])), (qz, .inl (cI, 46, .inl (upd (upd (upd (upd z 41 (-6)) 40 (nI ((pl + 1) % 4))) 42 ((z 42) + 1)) 43 0))), (qa, .inl (cI, 46, .inl as)), (qe, .inl (cI, 276, .inl be)), (qs, .inl (cI, 92, .inl sl)), (qv, .inl (cZ, 2, .inl sv)), (qp, .inl (cI, 60, .inl pd)), (qn, .inl (cI, 36, .inl nd))] := hD
        refine lv_iconst (v := 0) hx hb dX6_goOn_93 (by decide) ?_
        refine lv_istore_n (lv' := [(2, .int 0), (1, .int 0), (0, .ref qm)]) hx hb dX6_goOn_94 rfl hl (by decide) rfl (fun ls hl => ?_)
        have L1 : ∀ (n : Nat), ∀ (i : Nat), ∀ (zc : IA), ∀ (hi : i ≤ 4), ∀ (hf2 : zc = mend (upd (upd (upd (upd z 41 (-6)) 40 (nI ((pl + 1) % 4))) 42 ((z 42) + 1)) 43 0) i), ∀ (hn : 5 ≤ i + n), ∀ (H437 : Heap) (locs437 : List Loc), va_P G vwCl [(qm, .inr (6, [.ref qz, .ref qa, .ref qe, .int (nI sts), .ref qs, .ref qv, .ref qp, .int (nI len), .int go, .ref qn])), (qz, .inl (cI, 46, .inl zc)), (qa, .inl (cI, 46, .inl as)), (qe, .inl (cI, 276, .inl be)), (qs, .inl (cI, 92, .inl sl)), (qv, .inl (cZ, 2, .inl sv)), (qp, .inl (cI, 60, .inl pd)), (qn, .inl (cI, 36, .inl nd))] H437 → va_D A [(qm, .inr (6, [.ref qz, .ref qa, .ref qe, .int (nI sts), .ref qs, .ref qv, .ref qp, .int (nI len), .int go, .ref qn])), (qz, .inl (cI, 46, .inl zc)), (qa, .inl (cI, 46, .inl as)), (qe, .inl (cI, 276, .inl be)), (qs, .inl (cI, 92, .inl sl)), (qv, .inl (cZ, 2, .inl sv)), (qp, .inl (cI, 60, .inl pd)), (qn, .inl (cI, 36, .inl nd))] → va_S A s.heap H437 locs437 → ∀ (ls : Array Slot), lv_has ls 3 [(2, .int (nI i)), (1, .int 0), (0, .ref qm)] → W p l e rm_X6_goOn s m ag below meth c H437 locs437 0 0 Q (F0 m 95 ls []) := by
          intro n
          induction n with
          | zero =>
            intro i zc hi hf2 hn H437 locs437 hP hD hS ls hl
            omega
          | succ n ih1 =>
            intro i zc hi hf2 hn H437 locs437 hP hD hS ls hl
            refine lv_iload_n hx hb dX6_goOn_95 rfl (lv_at hl 0 rfl) ?_
            refine lv_iconst (v := 4) hx hb dX6_goOn_96 (by decide) ?_
            refine zi_ge (tgt := 166) hx hb i 4 dX6_goOn_97 (by decide) rfl rfl (by omega) (by decide) (fun c_438 => ?_) (fun c_438 => ?_)
            · subst hQ
              exact W.vret hx hb hr (fun t ht hW => ⟨⟨zc, rfl, by rw [goM, if_neg (fun h => h.elim c_432 (fun q => c_429 q.1)), hf2, show i = 4 by omega], by rw [ht]; exact hP, hD⟩, hS.F ht⟩) hS.2.2 dX6_goOn_166
            · refine lv_aload_n hx hb dX6_goOn_100 rfl (lv_at hl 2 rfl) ?_
              refine va_get (D := G) (ci := 6) (v := .ref qz) (C := RX6) (T := TX6) (N := 10) hx hb hts inlX6 hown hK.1 hP 0 rfl rfl 0 (by decide) (hts _ wd78) (fun _ h9 => h9) rfl dX6_goOn_101 ?_
              refine lv_bipush (v := 24) hx hb dX6_goOn_104 (by decide) ?_
              refine lv_iload_n hx hb dX6_goOn_106 rfl (lv_at hl 0 rfl) ?_
              refine zi_add hx hb 24 i dX6_goOn_107 rfl rfl ?_
              refine za_ld hx hb hK.1 hP 1 0 rfl rfl (24 + i) rfl (by omega) (by decide) dX6_goOn_108 ?_
              refine lv_iconst (v := 1) hx hb dX6_goOn_109 (by decide) ?_
              refine lv_icmp_ne (tgt := 160) hx hb dX6_goOn_110 (by decide) (fun c_439 => ?_) (fun c_439 => ?_)
              · refine lv_iinc (v := nI (i + 1)) (lv' := [(2, .int (nI (i + 1))), (1, .int 0), (0, .ref qm)]) hx hb dX6_goOn_160 hl (k := 0) rfl (nI_inc i) (by decide) rfl (fun ls hl => ?_)
                refine lv_goto (tgt := 95) hx hb dX6_goOn_163 (by decide) ?_
                exact ih1 (i + 1) zc (by omega) (by rw [mend, ← hf2, if_neg (fun h => c_439 h.1)]) (by omega) H437 locs437 hP hD hS _ (lv_sub hl [0, 1, 2] rfl)
              · refine lv_aload_n hx hb dX6_goOn_113 rfl (lv_at hl 2 rfl) ?_
                refine va_get (D := G) (ci := 6) (v := .ref qz) (C := RX6) (T := TX6) (N := 10) hx hb hts inlX6 hown hK.1 hP 0 rfl rfl 0 (by decide) (hts _ wd78) (fun _ h9 => h9) rfl dX6_goOn_114 ?_
                refine lv_bipush (v := 37) hx hb dX6_goOn_117 (by decide) ?_
                refine za_ld hx hb hK.1 hP 1 0 rfl rfl 37 rfl (by decide) (by decide) dX6_goOn_119 ?_
                refine lv_if_le (tgt := 160) hx hb dX6_goOn_120 (by decide) (fun c_440 => ?_) (fun c_440 => ?_)
                · refine lv_iinc (v := nI (i + 1)) (lv' := [(2, .int (nI (i + 1))), (1, .int 0), (0, .ref qm)]) hx hb dX6_goOn_160 hl (k := 0) rfl (nI_inc i) (by decide) rfl (fun ls hl => ?_)
                  refine lv_goto (tgt := 95) hx hb dX6_goOn_163 (by decide) ?_
                  exact ih1 (i + 1) zc (by omega) (by rw [mend, ← hf2, if_neg (fun h => h.2.1 c_440)]) (by omega) H437 locs437 hP hD hS _ (lv_sub hl [0, 1, 2] rfl)
                · refine lv_aload_n hx hb dX6_goOn_123 rfl (lv_at hl 2 rfl) ?_
                  refine va_get (D := G) (ci := 6) (v := .ref qz) (C := RX6) (T := TX6) (N := 10) hx hb hts inlX6 hown hK.1 hP 0 rfl rfl 0 (by decide) (hts _ wd78) (fun _ h9 => h9) rfl dX6_goOn_124 ?_
                  refine lv_bipush (v := 42) hx hb dX6_goOn_127 (by decide) ?_
                  refine za_ld hx hb hK.1 hP 1 0 rfl rfl 42 rfl (by decide) (by decide) dX6_goOn_129 ?_
                  refine lv_aload_n hx hb dX6_goOn_130 rfl (lv_at hl 2 rfl) ?_
                  refine va_get (D := G) (ci := 6) (v := .ref qz) (C := RX6) (T := TX6) (N := 10) hx hb hts inlX6 hown hK.1 hP 0 rfl rfl 0 (by decide) (hts _ wd78) (fun _ h9 => h9) rfl dX6_goOn_131 ?_
                  refine lv_bipush (v := 32) hx hb dX6_goOn_134 (by decide) ?_
                  refine lv_iload_n hx hb dX6_goOn_136 rfl (lv_at hl 0 rfl) ?_
                  refine zi_add hx hb 32 i dX6_goOn_137 rfl rfl ?_
                  refine za_ld hx hb hK.1 hP 1 0 rfl rfl (32 + i) rfl (by omega) (by decide) dX6_goOn_138 ?_
                  refine lv_isub hx hb dX6_goOn_139 ?_
                  refine lv_aload_n hx hb dX6_goOn_140 rfl (lv_at hl 2 rfl) ?_
                  refine va_get (D := G) (ci := 6) (v := .ref qz) (C := RX6) (T := TX6) (N := 10) hx hb hts inlX6 hown hK.1 hP 0 rfl rfl 0 (by decide) (hts _ wd78) (fun _ h9 => h9) rfl dX6_goOn_141 ?_
                  refine lv_bipush (v := 37) hx hb dX6_goOn_144 (by decide) ?_
                  refine za_ld hx hb hK.1 hP 1 0 rfl rfl 37 rfl (by decide) (by decide) dX6_goOn_146 ?_
                  refine lv_icmp_lt (tgt := 160) hx hb dX6_goOn_147 (by decide) (fun c_441 => ?_) (fun c_441 => ?_)
                  · refine lv_iinc (v := nI (i + 1)) (lv' := [(2, .int (nI (i + 1))), (1, .int 0), (0, .ref qm)]) hx hb dX6_goOn_160 hl (k := 0) rfl (nI_inc i) (by decide) rfl (fun ls hl => ?_)
                    refine lv_goto (tgt := 95) hx hb dX6_goOn_163 (by decide) ?_
                    exact ih1 (i + 1) zc (by omega) (by rw [mend, ← hf2, if_neg (fun h => h.2.2 c_441)]) (by omega) H437 locs437 hP hD hS _ (lv_sub hl [0, 1, 2] rfl)
                  · refine lv_aload_n hx hb dX6_goOn_150 rfl (lv_at hl 2 rfl) ?_
                    refine va_get (D := G) (ci := 6) (v := .ref qz) (C := RX6) (T := TX6) (N := 10) hx hb hts inlX6 hown hK.1 hP 0 rfl rfl 0 (by decide) (hts _ wd78) (fun _ h9 => h9) rfl dX6_goOn_151 ?_
                    refine lv_bipush (v := 24) hx hb dX6_goOn_154 (by decide) ?_
                    refine lv_iload_n hx hb dX6_goOn_156 rfl (lv_at hl 0 rfl) ?_
                    refine zi_add hx hb 24 i dX6_goOn_157 rfl rfl ?_
                    refine lv_iconst (v := 0) hx hb dX6_goOn_158 (by decide) ?_
                    refine za_st hx hb hK.1 hP hD hS 1 0 rfl rfl (24 + i) rfl (by omega) (by decide) dX6_goOn_159 (fun H442 locs442 hP hD hS => ?_)
                    have hP : va_P G vwCl [(qm, .inr (6, [.ref qz, .ref qa, .ref qe, .int (nI sts), .ref qs, .ref qv, .ref qp, .int (nI len), .int go, .ref qn])), (qz, .inl (cI, 46, .inl (upd zc (24 + i) 0))), (qa, .inl (cI, 46, .inl as)), (qe, .inl (cI, 276, .inl be)), (qs, .inl (cI, 92, .inl sl)), (qv, .inl (cZ, 2, .inl sv)), (qp, .inl (cI, 60, .inl pd)), (qn, .inl (cI, 36, .inl nd))] H442 := hP
                    have hD : va_D A [(qm, .inr (6, [.ref qz, .ref qa, .ref qe, .int (nI sts), .ref qs, .ref qv, .ref qp, .int (nI len), .int go, .ref qn])), (qz, .inl (cI, 46, .inl (upd zc (24 + i) 0))), (qa, .inl (cI, 46, .inl as)), (qe, .inl (cI, 276, .inl be)), (qs, .inl (cI, 92, .inl sl)), (qv, .inl (cZ, 2, .inl sv)), (qp, .inl (cI, 60, .inl pd)), (qn, .inl (cI, 36, .inl nd))] := hD
                    refine lv_iinc (v := nI (i + 1)) (lv' := [(2, .int (nI (i + 1))), (1, .int 0), (0, .ref qm)]) hx hb dX6_goOn_160 hl (k := 0) rfl (nI_inc i) (by decide) rfl (fun ls hl => ?_)
                    refine lv_goto (tgt := 95) hx hb dX6_goOn_163 (by decide) ?_
                    exact ih1 (i + 1) (upd zc (24 + i) 0) (by omega) (by rw [mend, ← hf2, if_pos ⟨c_439, c_440, c_441⟩]) (by omega) H442 locs442 hP hD hS _ (lv_sub hl [0, 1, 2] rfl)
        exact L1 5 0 (upd (upd (upd (upd z 41 (-6)) 40 (nI ((pl + 1) % 4))) 42 ((z 42) + 1)) 43 0) (by decide) rfl (by decide) H436 locs436 hP hD hS _ (lv_sub hl [0, 1, 2] rfl)
      · exact absurd c_433 (by decide)
  · refine lv_aload_n hx hb dX6_goOn_12 rfl (lv_at hl 0 rfl) ?_
    refine va_get (D := G) (ci := 6) (v := .ref qz) (C := RX6) (T := TX6) (N := 10) hx hb hts inlX6 hown hK.1 hP 0 rfl rfl 0 (by decide) (hts _ wd78) (fun _ h9 => h9) rfl dX6_goOn_13 ?_
    refine lv_bipush (v := 43) hx hb dX6_goOn_16 (by decide) ?_
    refine za_ld hx hb hK.1 hP 1 0 rfl rfl 43 rfl (by decide) (by decide) dX6_goOn_18 ?_
    refine lv_aload_n hx hb dX6_goOn_19 rfl (lv_at hl 0 rfl) ?_
    refine va_get (D := G) (ci := 6) (v := .ref qz) (C := RX6) (T := TX6) (N := 10) hx hb hts inlX6 hown hK.1 hP 0 rfl rfl 0 (by decide) (hts _ wd78) (fun _ h9 => h9) rfl dX6_goOn_20 ?_
    refine lv_bipush (v := 38) hx hb dX6_goOn_23 (by decide) ?_
    refine za_ld hx hb hK.1 hP 1 0 rfl rfl 38 rfl (by decide) (by decide) dX6_goOn_25 ?_
    refine lv_icmp_gt (tgt := 33) hx hb dX6_goOn_26 (by decide) (fun c_443 => ?_) (fun c_443 => ?_)
    · refine lv_iconst (v := 0) hx hb dX6_goOn_33 (by decide) ?_
      refine lv_istore_n (lv' := [(1, .int 0), (0, .ref qm)]) hx hb dX6_goOn_34 rfl hl (by decide) rfl (fun ls hl => ?_)
      refine lv_aload_n hx hb dX6_goOn_35 rfl (lv_at hl 1 rfl) ?_
      refine va_get (D := G) (ci := 6) (v := .ref qz) (C := RX6) (T := TX6) (N := 10) hx hb hts inlX6 hown hK.1 hP 0 rfl rfl 0 (by decide) (hts _ wd78) (fun _ h9 => h9) rfl dX6_goOn_36 ?_
      refine lv_bipush (v := 41) hx hb dX6_goOn_39 (by decide) ?_
      refine lv_bipush (v := (-6)) hx hb dX6_goOn_41 (by decide) ?_
      refine za_st hx hb hK.1 hP hD hS 1 0 rfl rfl 41 rfl (by decide) (by decide) dX6_goOn_43 (fun H444 locs444 hP hD hS => ?_)
      have hP : va_P G vwCl [(qm, .inr (6, [.ref qz, .ref qa, .ref qe, .int (nI sts), .ref qs, .ref qv, .ref qp, .int (nI len), .int go, .ref qn])), (qz, .inl (cI, 46, .inl (upd z 41 (-6)))), (qa, .inl (cI, 46, .inl as)), (qe, .inl (cI, 276, .inl be)), (qs, .inl (cI, 92, .inl sl)), (qv, .inl (cZ, 2, .inl sv)), (qp, .inl (cI, 60, .inl pd)), (qn, .inl (cI, 36, .inl nd))] H444 := hP
      have hD : va_D A [(qm, .inr (6, [.ref qz, .ref qa, .ref qe, .int (nI sts), .ref qs, .ref qv, .ref qp, .int (nI len), .int go, .ref qn])), (qz, .inl (cI, 46, .inl (upd z 41 (-6)))), (qa, .inl (cI, 46, .inl as)), (qe, .inl (cI, 276, .inl be)), (qs, .inl (cI, 92, .inl sl)), (qv, .inl (cZ, 2, .inl sv)), (qp, .inl (cI, 60, .inl pd)), (qn, .inl (cI, 36, .inl nd))] := hD
      refine lv_aload_n hx hb dX6_goOn_44 rfl (lv_at hl 1 rfl) ?_
      have hPc : va_P G vwCl [(qm, .inr (6, [.ref qz, .ref qa, .ref qe, .int (nI sts), .ref qs, .ref qv, .ref qp, .int (nI len), .int go, .ref qn])), (qz, .inl (cI, 46, .inl (upd z 41 (-6)))), (qa, .inl (cI, 46, .inl as)), (qe, .inl (cI, 276, .inl be)), (qs, .inl (cI, 92, .inl sl)), (qv, .inl (cZ, 2, .inl sv)), (qp, .inl (cI, 60, .inl pd)), (qn, .inl (cI, 36, .inl nd))] H444 := hP
      have hDc := hD.tt
      refine vp_callSi (va_Run.run (va_runV (As := []) (rest := []) ⟨hx, hb, hml, hown, hts⟩ (c_X6_isOver l G cI cC cZ cG H444.size qm qz qa qe qs qv qp qn (upd z 41 (-6)) as be sl sv pd nd sts len go) (cf_RX6_97 hts ⟨Nat.le_of_ble_eq_true rfl, Nat.le_of_ble_eq_true rfl⟩) (pre_V hK hPc hDc (ci := 6) (q0 := 0) rfl rfl) rfl rfl hl.1 rfl (lv_room (Nat.le_of_ble_eq_true rfl)) dX6_goOn_45 ⟨Nat.le_of_ble_eq_true rfl, Nat.le_of_ble_eq_true rfl⟩)) (fun r445 hr445 => ?_)
      subst hr445
      refine zb_ne (tgt := 55) hx hb dX6_goOn_48 (by decide) (fun c_446 => ?_) (fun c_446 => ?_)
      · subst hQ
        exact W.vret hx hb hr (fun t ht hW => ⟨⟨upd z 41 (-6), rfl, by rw [goM, if_pos (Or.inl c_446)], by rw [ht]; exact hP, hD⟩, hS.F ht⟩) hS.2.2 dX6_goOn_55
      · refine lv_iload_n hx hb dX6_goOn_51 rfl (lv_at hl 0 rfl) ?_
        refine lv_if_eq (tgt := 56) hx hb dX6_goOn_52 (by decide) (fun c_447 => ?_) (fun c_447 => ?_)
        · refine lv_aload_n hx hb dX6_goOn_56 rfl (lv_at hl 1 rfl) ?_
          refine va_get (D := G) (ci := 6) (v := .ref qz) (C := RX6) (T := TX6) (N := 10) hx hb hts inlX6 hown hK.1 hP 0 rfl rfl 0 (by decide) (hts _ wd78) (fun _ h9 => h9) rfl dX6_goOn_57 ?_
          refine lv_bipush (v := 40) hx hb dX6_goOn_60 (by decide) ?_
          refine lv_aload_n hx hb dX6_goOn_62 rfl (lv_at hl 1 rfl) ?_
          refine va_get (D := G) (ci := 6) (v := .ref qz) (C := RX6) (T := TX6) (N := 10) hx hb hts inlX6 hown hK.1 hP 0 rfl rfl 0 (by decide) (hts _ wd78) (fun _ h9 => h9) rfl dX6_goOn_63 ?_
          refine lv_bipush (v := 40) hx hb dX6_goOn_66 (by decide) ?_
          refine za_ld hx hb hK.1 hP 1 0 rfl rfl 40 rfl (by decide) (by decide) dX6_goOn_68 ?_
          refine lv_iconst (v := 1) hx hb dX6_goOn_69 (by decide) ?_
          refine zi_add hx hb pl 1 dX6_goOn_70 h40 rfl ?_
          refine lv_iconst (v := 4) hx hb dX6_goOn_71 (by decide) ?_
          refine zi_rem hx hb (pl + 1) 4 dX6_goOn_72 rfl rfl (by omega) (by decide) (by decide) ?_
          refine za_st hx hb hK.1 hP hD hS 1 0 rfl rfl 40 rfl (by decide) (by decide) dX6_goOn_73 (fun H448 locs448 hP hD hS => ?_)
          have hP : va_P G vwCl [(qm, .inr (6, [.ref qz, .ref qa, .ref qe, .int (nI sts), .ref qs, .ref qv, .ref qp, .int (nI len), .int go, .ref qn])), (qz, .inl (cI, 46, .inl (upd (upd z 41 (-6)) 40 (nI ((pl + 1) % 4))))), (qa, .inl (cI, 46, .inl as)), (qe, .inl (cI, 276, .inl be)), (qs, .inl (cI, 92, .inl sl)), (qv, .inl (cZ, 2, .inl sv)), (qp, .inl (cI, 60, .inl pd)), (qn, .inl (cI, 36, .inl nd))] H448 := hP
          have hD : va_D A [(qm, .inr (6, [.ref qz, .ref qa, .ref qe, .int (nI sts), .ref qs, .ref qv, .ref qp, .int (nI len), .int go, .ref qn])), (qz, .inl (cI, 46, .inl (upd (upd z 41 (-6)) 40 (nI ((pl + 1) % 4))))), (qa, .inl (cI, 46, .inl as)), (qe, .inl (cI, 276, .inl be)), (qs, .inl (cI, 92, .inl sl)), (qv, .inl (cZ, 2, .inl sv)), (qp, .inl (cI, 60, .inl pd)), (qn, .inl (cI, 36, .inl nd))] := hD
          refine lv_aload_n hx hb dX6_goOn_74 rfl (lv_at hl 1 rfl) ?_
          refine va_get (D := G) (ci := 6) (v := .ref qz) (C := RX6) (T := TX6) (N := 10) hx hb hts inlX6 hown hK.1 hP 0 rfl rfl 0 (by decide) (hts _ wd78) (fun _ h9 => h9) rfl dX6_goOn_75 ?_
          refine lv_bipush (v := 42) hx hb dX6_goOn_78 (by decide) ?_
          refine lv_dup2_11 hx hb dX6_goOn_80 rfl rfl ?_
          refine za_ld hx hb hK.1 hP 1 0 rfl rfl 42 rfl (by decide) (by decide) dX6_goOn_81 ?_
          refine lv_iconst (v := 1) hx hb dX6_goOn_82 (by decide) ?_
          refine lv_iadd hx hb dX6_goOn_83 ?_
          refine za_st hx hb hK.1 hP hD hS 1 0 rfl rfl 42 rfl (by decide) (by decide) dX6_goOn_84 (fun H449 locs449 hP hD hS => ?_)
          have hP : va_P G vwCl [(qm, .inr (6, [.ref qz, .ref qa, .ref qe, .int (nI sts), .ref qs, .ref qv, .ref qp, .int (nI len), .int go, .ref qn])), (qz, .inl (cI, 46, .inl (upd (upd (upd z 41 (-6)) 40 (nI ((pl + 1) % 4))) 42 ((z 42) + 1)))), (qa, .inl (cI, 46, .inl as)), (qe, .inl (cI, 276, .inl be)), (qs, .inl (cI, 92, .inl sl)), (qv, .inl (cZ, 2, .inl sv)), (qp, .inl (cI, 60, .inl pd)), (qn, .inl (cI, 36, .inl nd))] H449 := hP
          have hD : va_D A [(qm, .inr (6, [.ref qz, .ref qa, .ref qe, .int (nI sts), .ref qs, .ref qv, .ref qp, .int (nI len), .int go, .ref qn])), (qz, .inl (cI, 46, .inl (upd (upd (upd z 41 (-6)) 40 (nI ((pl + 1) % 4))) 42 ((z 42) + 1)))), (qa, .inl (cI, 46, .inl as)), (qe, .inl (cI, 276, .inl be)), (qs, .inl (cI, 92, .inl sl)), (qv, .inl (cZ, 2, .inl sv)), (qp, .inl (cI, 60, .inl pd)), (qn, .inl (cI, 36, .inl nd))] := hD
          refine lv_aload_n hx hb dX6_goOn_85 rfl (lv_at hl 1 rfl) ?_
          refine va_get (D := G) (ci := 6) (v := .ref qz) (C := RX6) (T := TX6) (N := 10) hx hb hts inlX6 hown hK.1 hP 0 rfl rfl 0 (by decide) (hts _ wd78) (fun _ h9 => h9) rfl dX6_goOn_86 ?_
          refine lv_bipush (v := 43) hx hb dX6_goOn_89 (by decide) ?_
          refine lv_iconst (v := 0) hx hb dX6_goOn_91 (by decide) ?_
          refine za_st hx hb hK.1 hP hD hS 1 0 rfl rfl 43 rfl (by decide) (by decide) dX6_goOn_92 (fun H450 locs450 hP hD hS => ?_)
          have hP : va_P G vwCl [(qm, .inr (6, [.ref qz, .ref qa, .ref qe, .int (nI sts), .ref qs, .ref qv, .ref qp, .int (nI len), .int go, .ref qn])), (qz, .inl (cI, 46, .inl (upd (upd (upd (upd z 41 (-6)) 40 (nI ((pl + 1) % 4))) 42 ((z 42) + 1)) 43 0))), (qa, .inl (cI, 46, .inl as)), (qe, .inl (cI, 276, .inl be)), (qs, .inl (cI, 92, .inl sl)), (qv, .inl (cZ, 2, .inl sv)), (qp, .inl (cI, 60, .inl pd)), (qn, .inl (cI, 36, .inl nd))] H450 := hP
          have hD : va_D A [(qm, .inr (6, [.ref qz, .ref qa, .ref qe, .int (nI sts), .ref qs, .ref qv, .ref qp, .int (nI len), .int go, .ref qn])), (qz, .inl (cI, 46, .inl (upd (upd (upd (upd z 41 (-6)) 40 (nI ((pl + 1) % 4))) 42 ((z 42) + 1)) 43 0))), (qa, .inl (cI, 46, .inl as)), (qe, .inl (cI, 276, .inl be)), (qs, .inl (cI, 92, .inl sl)), (qv, .inl (cZ, 2, .inl sv)), (qp, .inl (cI, 60, .inl pd)), (qn, .inl (cI, 36, .inl nd))] := hD
          refine lv_iconst (v := 0) hx hb dX6_goOn_93 (by decide) ?_
          refine lv_istore_n (lv' := [(2, .int 0), (1, .int 0), (0, .ref qm)]) hx hb dX6_goOn_94 rfl hl (by decide) rfl (fun ls hl => ?_)
          have L2 : ∀ (n : Nat), ∀ (i : Nat), ∀ (zc : IA), ∀ (hi : i ≤ 4), ∀ (hf2 : zc = mend (upd (upd (upd (upd z 41 (-6)) 40 (nI ((pl + 1) % 4))) 42 ((z 42) + 1)) 43 0) i), ∀ (hn : 5 ≤ i + n), ∀ (H451 : Heap) (locs451 : List Loc), va_P G vwCl [(qm, .inr (6, [.ref qz, .ref qa, .ref qe, .int (nI sts), .ref qs, .ref qv, .ref qp, .int (nI len), .int go, .ref qn])), (qz, .inl (cI, 46, .inl zc)), (qa, .inl (cI, 46, .inl as)), (qe, .inl (cI, 276, .inl be)), (qs, .inl (cI, 92, .inl sl)), (qv, .inl (cZ, 2, .inl sv)), (qp, .inl (cI, 60, .inl pd)), (qn, .inl (cI, 36, .inl nd))] H451 → va_D A [(qm, .inr (6, [.ref qz, .ref qa, .ref qe, .int (nI sts), .ref qs, .ref qv, .ref qp, .int (nI len), .int go, .ref qn])), (qz, .inl (cI, 46, .inl zc)), (qa, .inl (cI, 46, .inl as)), (qe, .inl (cI, 276, .inl be)), (qs, .inl (cI, 92, .inl sl)), (qv, .inl (cZ, 2, .inl sv)), (qp, .inl (cI, 60, .inl pd)), (qn, .inl (cI, 36, .inl nd))] → va_S A s.heap H451 locs451 → ∀ (ls : Array Slot), lv_has ls 3 [(2, .int (nI i)), (1, .int 0), (0, .ref qm)] → W p l e rm_X6_goOn s m ag below meth c H451 locs451 0 0 Q (F0 m 95 ls []) := by
            intro n
            induction n with
            | zero =>
              intro i zc hi hf2 hn H451 locs451 hP hD hS ls hl
              omega
            | succ n ih2 =>
              intro i zc hi hf2 hn H451 locs451 hP hD hS ls hl
              refine lv_iload_n hx hb dX6_goOn_95 rfl (lv_at hl 0 rfl) ?_
              refine lv_iconst (v := 4) hx hb dX6_goOn_96 (by decide) ?_
              refine zi_ge (tgt := 166) hx hb i 4 dX6_goOn_97 (by decide) rfl rfl (by omega) (by decide) (fun c_452 => ?_) (fun c_452 => ?_)
              · subst hQ
                exact W.vret hx hb hr (fun t ht hW => ⟨⟨zc, rfl, by rw [goM, if_neg (fun h => h.elim c_446 (fun q => q.2 c_443)), hf2, show i = 4 by omega], by rw [ht]; exact hP, hD⟩, hS.F ht⟩) hS.2.2 dX6_goOn_166
              · refine lv_aload_n hx hb dX6_goOn_100 rfl (lv_at hl 2 rfl) ?_
                refine va_get (D := G) (ci := 6) (v := .ref qz) (C := RX6) (T := TX6) (N := 10) hx hb hts inlX6 hown hK.1 hP 0 rfl rfl 0 (by decide) (hts _ wd78) (fun _ h9 => h9) rfl dX6_goOn_101 ?_
                refine lv_bipush (v := 24) hx hb dX6_goOn_104 (by decide) ?_
                refine lv_iload_n hx hb dX6_goOn_106 rfl (lv_at hl 0 rfl) ?_
                refine zi_add hx hb 24 i dX6_goOn_107 rfl rfl ?_
                refine za_ld hx hb hK.1 hP 1 0 rfl rfl (24 + i) rfl (by omega) (by decide) dX6_goOn_108 ?_
                refine lv_iconst (v := 1) hx hb dX6_goOn_109 (by decide) ?_
                refine lv_icmp_ne (tgt := 160) hx hb dX6_goOn_110 (by decide) (fun c_453 => ?_) (fun c_453 => ?_)
                · refine lv_iinc (v := nI (i + 1)) (lv' := [(2, .int (nI (i + 1))), (1, .int 0), (0, .ref qm)]) hx hb dX6_goOn_160 hl (k := 0) rfl (nI_inc i) (by decide) rfl (fun ls hl => ?_)
                  refine lv_goto (tgt := 95) hx hb dX6_goOn_163 (by decide) ?_
                  exact ih2 (i + 1) zc (by omega) (by rw [mend, ← hf2, if_neg (fun h => c_453 h.1)]) (by omega) H451 locs451 hP hD hS _ (lv_sub hl [0, 1, 2] rfl)
                · refine lv_aload_n hx hb dX6_goOn_113 rfl (lv_at hl 2 rfl) ?_
                  refine va_get (D := G) (ci := 6) (v := .ref qz) (C := RX6) (T := TX6) (N := 10) hx hb hts inlX6 hown hK.1 hP 0 rfl rfl 0 (by decide) (hts _ wd78) (fun _ h9 => h9) rfl dX6_goOn_114 ?_
                  refine lv_bipush (v := 37) hx hb dX6_goOn_117 (by decide) ?_
                  refine za_ld hx hb hK.1 hP 1 0 rfl rfl 37 rfl (by decide) (by decide) dX6_goOn_119 ?_
                  refine lv_if_le (tgt := 160) hx hb dX6_goOn_120 (by decide) (fun c_454 => ?_) (fun c_454 => ?_)
                  · refine lv_iinc (v := nI (i + 1)) (lv' := [(2, .int (nI (i + 1))), (1, .int 0), (0, .ref qm)]) hx hb dX6_goOn_160 hl (k := 0) rfl (nI_inc i) (by decide) rfl (fun ls hl => ?_)
                    refine lv_goto (tgt := 95) hx hb dX6_goOn_163 (by decide) ?_
                    exact ih2 (i + 1) zc (by omega) (by rw [mend, ← hf2, if_neg (fun h => h.2.1 c_454)]) (by omega) H451 locs451 hP hD hS _ (lv_sub hl [0, 1, 2] rfl)
                  · refine lv_aload_n hx hb dX6_goOn_123 rfl (lv_at hl 2 rfl) ?_
                    refine va_get (D := G) (ci := 6) (v := .ref qz) (C := RX6) (T := TX6) (N := 10) hx hb hts inlX6 hown hK.1 hP 0 rfl rfl 0 (by decide) (hts _ wd78) (fun _ h9 => h9) rfl dX6_goOn_124 ?_
                    refine lv_bipush (v := 42) hx hb dX6_goOn_127 (by decide) ?_
                    refine za_ld hx hb hK.1 hP 1 0 rfl rfl 42 rfl (by decide) (by decide) dX6_goOn_129 ?_
                    refine lv_aload_n hx hb dX6_goOn_130 rfl (lv_at hl 2 rfl) ?_
                    refine va_get (D := G) (ci := 6) (v := .ref qz) (C := RX6) (T := TX6) (N := 10) hx hb hts inlX6 hown hK.1 hP 0 rfl rfl 0 (by decide) (hts _ wd78) (fun _ h9 => h9) rfl dX6_goOn_131 ?_
                    refine lv_bipush (v := 32) hx hb dX6_goOn_134 (by decide) ?_
                    refine lv_iload_n hx hb dX6_goOn_136 rfl (lv_at hl 0 rfl) ?_
                    refine zi_add hx hb 32 i dX6_goOn_137 rfl rfl ?_
                    refine za_ld hx hb hK.1 hP 1 0 rfl rfl (32 + i) rfl (by omega) (by decide) dX6_goOn_138 ?_
                    refine lv_isub hx hb dX6_goOn_139 ?_
                    refine lv_aload_n hx hb dX6_goOn_140 rfl (lv_at hl 2 rfl) ?_
                    refine va_get (D := G) (ci := 6) (v := .ref qz) (C := RX6) (T := TX6) (N := 10) hx hb hts inlX6 hown hK.1 hP 0 rfl rfl 0 (by decide) (hts _ wd78) (fun _ h9 => h9) rfl dX6_goOn_141 ?_
                    refine lv_bipush (v := 37) hx hb dX6_goOn_144 (by decide) ?_
                    refine za_ld hx hb hK.1 hP 1 0 rfl rfl 37 rfl (by decide) (by decide) dX6_goOn_146 ?_
                    refine lv_icmp_lt (tgt := 160) hx hb dX6_goOn_147 (by decide) (fun c_455 => ?_) (fun c_455 => ?_)
                    · refine lv_iinc (v := nI (i + 1)) (lv' := [(2, .int (nI (i + 1))), (1, .int 0), (0, .ref qm)]) hx hb dX6_goOn_160 hl (k := 0) rfl (nI_inc i) (by decide) rfl (fun ls hl => ?_)
                      refine lv_goto (tgt := 95) hx hb dX6_goOn_163 (by decide) ?_
                      exact ih2 (i + 1) zc (by omega) (by rw [mend, ← hf2, if_neg (fun h => h.2.2 c_455)]) (by omega) H451 locs451 hP hD hS _ (lv_sub hl [0, 1, 2] rfl)
                    · refine lv_aload_n hx hb dX6_goOn_150 rfl (lv_at hl 2 rfl) ?_
                      refine va_get (D := G) (ci := 6) (v := .ref qz) (C := RX6) (T := TX6) (N := 10) hx hb hts inlX6 hown hK.1 hP 0 rfl rfl 0 (by decide) (hts _ wd78) (fun _ h9 => h9) rfl dX6_goOn_151 ?_
                      refine lv_bipush (v := 24) hx hb dX6_goOn_154 (by decide) ?_
                      refine lv_iload_n hx hb dX6_goOn_156 rfl (lv_at hl 0 rfl) ?_
                      refine zi_add hx hb 24 i dX6_goOn_157 rfl rfl ?_
                      refine lv_iconst (v := 0) hx hb dX6_goOn_158 (by decide) ?_
                      refine za_st hx hb hK.1 hP hD hS 1 0 rfl rfl (24 + i) rfl (by omega) (by decide) dX6_goOn_159 (fun H456 locs456 hP hD hS => ?_)
                      have hP : va_P G vwCl [(qm, .inr (6, [.ref qz, .ref qa, .ref qe, .int (nI sts), .ref qs, .ref qv, .ref qp, .int (nI len), .int go, .ref qn])), (qz, .inl (cI, 46, .inl (upd zc (24 + i) 0))), (qa, .inl (cI, 46, .inl as)), (qe, .inl (cI, 276, .inl be)), (qs, .inl (cI, 92, .inl sl)), (qv, .inl (cZ, 2, .inl sv)), (qp, .inl (cI, 60, .inl pd)), (qn, .inl (cI, 36, .inl nd))] H456 := hP
                      have hD : va_D A [(qm, .inr (6, [.ref qz, .ref qa, .ref qe, .int (nI sts), .ref qs, .ref qv, .ref qp, .int (nI len), .int go, .ref qn])), (qz, .inl (cI, 46, .inl (upd zc (24 + i) 0))), (qa, .inl (cI, 46, .inl as)), (qe, .inl (cI, 276, .inl be)), (qs, .inl (cI, 92, .inl sl)), (qv, .inl (cZ, 2, .inl sv)), (qp, .inl (cI, 60, .inl pd)), (qn, .inl (cI, 36, .inl nd))] := hD
                      refine lv_iinc (v := nI (i + 1)) (lv' := [(2, .int (nI (i + 1))), (1, .int 0), (0, .ref qm)]) hx hb dX6_goOn_160 hl (k := 0) rfl (nI_inc i) (by decide) rfl (fun ls hl => ?_)
                      refine lv_goto (tgt := 95) hx hb dX6_goOn_163 (by decide) ?_
                      exact ih2 (i + 1) (upd zc (24 + i) 0) (by omega) (by rw [mend, ← hf2, if_pos ⟨c_453, c_454, c_455⟩]) (by omega) H456 locs456 hP hD hS _ (lv_sub hl [0, 1, 2] rfl)
          exact L2 5 0 (upd (upd (upd (upd z 41 (-6)) 40 (nI ((pl + 1) % 4))) 42 ((z 42) + 1)) 43 0) (by decide) rfl (by decide) H450 locs450 hP hD hS _ (lv_sub hl [0, 1, 2] rfl)
        · exact absurd c_447 (by decide)
    · refine lv_iconst (v := 1) hx hb dX6_goOn_29 (by decide) ?_
      refine lv_goto (tgt := 34) hx hb dX6_goOn_30 (by decide) ?_
      refine lv_istore_n (lv' := [(1, .int 1), (0, .ref qm)]) hx hb dX6_goOn_34 rfl hl (by decide) rfl (fun ls hl => ?_)
      refine lv_aload_n hx hb dX6_goOn_35 rfl (lv_at hl 1 rfl) ?_
      refine va_get (D := G) (ci := 6) (v := .ref qz) (C := RX6) (T := TX6) (N := 10) hx hb hts inlX6 hown hK.1 hP 0 rfl rfl 0 (by decide) (hts _ wd78) (fun _ h9 => h9) rfl dX6_goOn_36 ?_
      refine lv_bipush (v := 41) hx hb dX6_goOn_39 (by decide) ?_
      refine lv_bipush (v := (-6)) hx hb dX6_goOn_41 (by decide) ?_
      refine za_st hx hb hK.1 hP hD hS 1 0 rfl rfl 41 rfl (by decide) (by decide) dX6_goOn_43 (fun H457 locs457 hP hD hS => ?_)
      have hP : va_P G vwCl [(qm, .inr (6, [.ref qz, .ref qa, .ref qe, .int (nI sts), .ref qs, .ref qv, .ref qp, .int (nI len), .int go, .ref qn])), (qz, .inl (cI, 46, .inl (upd z 41 (-6)))), (qa, .inl (cI, 46, .inl as)), (qe, .inl (cI, 276, .inl be)), (qs, .inl (cI, 92, .inl sl)), (qv, .inl (cZ, 2, .inl sv)), (qp, .inl (cI, 60, .inl pd)), (qn, .inl (cI, 36, .inl nd))] H457 := hP
      have hD : va_D A [(qm, .inr (6, [.ref qz, .ref qa, .ref qe, .int (nI sts), .ref qs, .ref qv, .ref qp, .int (nI len), .int go, .ref qn])), (qz, .inl (cI, 46, .inl (upd z 41 (-6)))), (qa, .inl (cI, 46, .inl as)), (qe, .inl (cI, 276, .inl be)), (qs, .inl (cI, 92, .inl sl)), (qv, .inl (cZ, 2, .inl sv)), (qp, .inl (cI, 60, .inl pd)), (qn, .inl (cI, 36, .inl nd))] := hD
      refine lv_aload_n hx hb dX6_goOn_44 rfl (lv_at hl 1 rfl) ?_
      have hPc : va_P G vwCl [(qm, .inr (6, [.ref qz, .ref qa, .ref qe, .int (nI sts), .ref qs, .ref qv, .ref qp, .int (nI len), .int go, .ref qn])), (qz, .inl (cI, 46, .inl (upd z 41 (-6)))), (qa, .inl (cI, 46, .inl as)), (qe, .inl (cI, 276, .inl be)), (qs, .inl (cI, 92, .inl sl)), (qv, .inl (cZ, 2, .inl sv)), (qp, .inl (cI, 60, .inl pd)), (qn, .inl (cI, 36, .inl nd))] H457 := hP
      have hDc := hD.tt
      refine vp_callSi (va_Run.run (va_runV (As := []) (rest := []) ⟨hx, hb, hml, hown, hts⟩ (c_X6_isOver l G cI cC cZ cG H457.size qm qz qa qe qs qv qp qn (upd z 41 (-6)) as be sl sv pd nd sts len go) (cf_RX6_97 hts ⟨Nat.le_of_ble_eq_true rfl, Nat.le_of_ble_eq_true rfl⟩) (pre_V hK hPc hDc (ci := 6) (q0 := 0) rfl rfl) rfl rfl hl.1 rfl (lv_room (Nat.le_of_ble_eq_true rfl)) dX6_goOn_45 ⟨Nat.le_of_ble_eq_true rfl, Nat.le_of_ble_eq_true rfl⟩)) (fun r458 hr458 => ?_)
      subst hr458
      refine zb_ne (tgt := 55) hx hb dX6_goOn_48 (by decide) (fun c_459 => ?_) (fun c_459 => ?_)
      · subst hQ
        exact W.vret hx hb hr (fun t ht hW => ⟨⟨upd z 41 (-6), rfl, by rw [goM, if_pos (Or.inl c_459)], by rw [ht]; exact hP, hD⟩, hS.F ht⟩) hS.2.2 dX6_goOn_55
      · refine lv_iload_n hx hb dX6_goOn_51 rfl (lv_at hl 0 rfl) ?_
        refine lv_if_eq (tgt := 56) hx hb dX6_goOn_52 (by decide) (fun c_460 => ?_) (fun c_460 => ?_)
        · exact absurd c_460 (by decide)
        · subst hQ
          exact W.vret hx hb hr (fun t ht hW => ⟨⟨upd z 41 (-6), rfl, by rw [goM, if_pos (Or.inr ⟨c_429, c_443⟩)], by rw [ht]; exact hP, hD⟩, hS.F ht⟩) hS.2.2 dX6_goOn_55

abbrev rm_X6_draw : Room := { frames := 0, cells := 0, slots := 0, locals := 0 }
set_option maxHeartbeats 1000000 in
set_option maxRecDepth 100000 in
theorem c_X6_draw (l : Launch) (G : va_G) (cI cC cZ cG : ClassId) (sz : Nat) (qm qz qa qe qs qv qp qn : Nat) (z as be sl sv pd nd : IA) (sts len : Nat) (go : Int32) : Met l yX6_draw (.code yX6_draw cX6_draw 1 (some .int) :: wsL_law) rm_X6_draw (va_Pc [.ref qm] (bw G cI cC cZ cG false sz [(qm, .inr (6, [.ref qz, .ref qa, .ref qe, .int (nI sts), .ref qs, .ref qv, .ref qp, .int (nI len), .int go, .ref qn])), (qz, .inl (cI, 46, .inl z)), (qa, .inl (cI, 46, .inl as)), (qe, .inl (cI, 276, .inl be)), (qs, .inl (cI, 92, .inl sl)), (qv, .inl (cZ, 2, .inl sv)), (qp, .inl (cI, 60, .inl pd)), (qn, .inl (cI, 36, .inl nd))])) (va_Qi (fun (r : Int32) (u : Unit) => r = co (nx (z 39)) ∧ True) (fun (u : Unit) t => va_P G vwCl [(qm, .inr (6, [.ref qz, .ref qa, .ref qe, .int (nI sts), .ref qs, .ref qv, .ref qp, .int (nI len), .int go, .ref qn])), (qz, .inl (cI, 46, .inl (drM z))), (qa, .inl (cI, 46, .inl as)), (qe, .inl (cI, 276, .inl be)), (qs, .inl (cI, 92, .inl sl)), (qv, .inl (cZ, 2, .inl sv)), (qp, .inl (cI, 60, .inl pd)), (qn, .inl (cI, 36, .inl nd))] t.heap ∧ va_D (va_A [(qm, .inr (6, [.ref qz, .ref qa, .ref qe, .int (nI sts), .ref qs, .ref qv, .ref qp, .int (nI len), .int go, .ref qn])), (qz, .inl (cI, 46, .inl z)), (qa, .inl (cI, 46, .inl as)), (qe, .inl (cI, 276, .inl be)), (qs, .inl (cI, 92, .inl sl)), (qv, .inl (cZ, 2, .inl sv)), (qp, .inl (cI, 60, .inl pd)), (qn, .inl (cI, 36, .inl nd))] sz) [(qm, .inr (6, [.ref qz, .ref qa, .ref qe, .int (nI sts), .ref qs, .ref qv, .ref qp, .int (nI len), .int go, .ref qn])), (qz, .inl (cI, 46, .inl (drM z))), (qa, .inl (cI, 46, .inl as)), (qe, .inl (cI, 276, .inl be)), (qs, .inl (cI, 92, .inl sl)), (qv, .inl (cZ, 2, .inl sv)), (qp, .inl (cI, 60, .inl pd)), (qn, .inl (cI, 36, .inl nd))]) (va_A [(qm, .inr (6, [.ref qz, .ref qa, .ref qe, .int (nI sts), .ref qs, .ref qv, .ref qp, .int (nI len), .int go, .ref qn])), (qz, .inl (cI, 46, .inl z)), (qa, .inl (cI, 46, .inl as)), (qe, .inl (cI, 276, .inl be)), (qs, .inl (cI, 92, .inl sl)), (qv, .inl (cZ, 2, .inl sv)), (qp, .inl (cI, 60, .inl pd)), (qn, .inl (cI, 36, .inl nd))] sz)) 0 0 (va_A [(qm, .inr (6, [.ref qz, .ref qa, .ref qe, .int (nI sts), .ref qs, .ref qv, .ref qp, .int (nI len), .int go, .ref qn])), (qz, .inl (cI, 46, .inl z)), (qa, .inl (cI, 46, .inl as)), (qe, .inl (cI, 276, .inl be)), (qs, .inl (cI, 92, .inl sl)), (qv, .inl (cZ, 2, .inl sv)), (qp, .inl (cI, 60, .inl pd)), (qn, .inl (cI, 36, .inl nd))] sz) := by
  refine met_bw rfl (Nat.le_of_ble_eq_true rfl) ?_
  intro p e s m below meth c ls hx hb hr hml hown hts hlocks hin hsz hP hK hD0 hX0 hl
  have hown : s.vm.findClass RX6 = some m.cls := hown
  have hl : lv_has ls 1 [(0, .ref qm)] := hl
  subst hsz
  have hD := hD0.self (sz := s.heap.size)
  generalize hAe : va_A [(qm, .inr (6, [.ref qz, .ref qa, .ref qe, .int (nI sts), .ref qs, .ref qv, .ref qp, .int (nI len), .int go, .ref qn])), (qz, .inl (cI, 46, .inl z)), (qa, .inl (cI, 46, .inl as)), (qe, .inl (cI, 276, .inl be)), (qs, .inl (cI, 92, .inl sl)), (qv, .inl (cZ, 2, .inl sv)), (qp, .inl (cI, 60, .inl pd)), (qn, .inl (cI, 36, .inl nd))] s.heap.size = A at hD ⊢
  have hA : ∀ q : Nat, s.heap.size ≤ q → A q := fun q h => by rw [← hAe]; exact Or.inr h
  have hS : va_S A s.heap s.heap [] := va_S.rf
  refine lv_aload_n hx hb dX6_draw_0 rfl (lv_at hl 0 rfl) ?_
  refine va_get (D := G) (ci := 6) (v := .ref qz) (C := RX6) (T := TX6) (N := 10) hx hb hts inlX6 hown hK.1 hP 0 rfl rfl 0 (by decide) (hts _ wd78) (fun _ h9 => h9) rfl dX6_draw_1 ?_
  refine lv_bipush (v := 39) hx hb dX6_draw_4 (by decide) ?_
  refine lv_aload_n hx hb dX6_draw_6 rfl (lv_at hl 0 rfl) ?_
  refine va_get (D := G) (ci := 6) (v := .ref qz) (C := RX6) (T := TX6) (N := 10) hx hb hts inlX6 hown hK.1 hP 0 rfl rfl 0 (by decide) (hts _ wd78) (fun _ h9 => h9) rfl dX6_draw_7 ?_
  refine lv_bipush (v := 39) hx hb dX6_draw_10 (by decide) ?_
  refine za_ld hx hb hK.1 hP 1 0 rfl rfl 39 rfl (by decide) (by decide) dX6_draw_12 ?_
  refine lv_i2l hx hb dX6_draw_13 rfl ?_
  refine lv_ldc2 hx hb hown (hts _ wd188) dX6_draw_14 ?_
  refine lv_lmul hx hb dX6_draw_17 ?_
  refine lv_ldc2 hx hb hown (hts _ wd189) dX6_draw_18 ?_
  refine lv_ladd hx hb dX6_draw_21 ?_
  refine lv_ldc2 hx hb hown (hts _ wd190) dX6_draw_22 ?_
  refine lv_lrem hx hb dX6_draw_25 (by decide) ?_
  refine lv_l2i hx hb dX6_draw_26 rfl ?_
  refine za_st hx hb hK.1 hP hD hS 1 0 rfl rfl 39 rfl (by decide) (by decide) dX6_draw_27 (fun H461 locs461 hP hD hS => ?_)
  have hP : va_P G vwCl [(qm, .inr (6, [.ref qz, .ref qa, .ref qe, .int (nI sts), .ref qs, .ref qv, .ref qp, .int (nI len), .int go, .ref qn])), (qz, .inl (cI, 46, .inl (upd z 39 ((((((z 39).toInt64) * 1103515245) + 12345) - ((((z 39).toInt64) * 1103515245) + 12345) / 2147483648 * 2147483648).toInt32)))), (qa, .inl (cI, 46, .inl as)), (qe, .inl (cI, 276, .inl be)), (qs, .inl (cI, 92, .inl sl)), (qv, .inl (cZ, 2, .inl sv)), (qp, .inl (cI, 60, .inl pd)), (qn, .inl (cI, 36, .inl nd))] H461 := hP
  have hD : va_D A [(qm, .inr (6, [.ref qz, .ref qa, .ref qe, .int (nI sts), .ref qs, .ref qv, .ref qp, .int (nI len), .int go, .ref qn])), (qz, .inl (cI, 46, .inl (upd z 39 ((((((z 39).toInt64) * 1103515245) + 12345) - ((((z 39).toInt64) * 1103515245) + 12345) / 2147483648 * 2147483648).toInt32)))), (qa, .inl (cI, 46, .inl as)), (qe, .inl (cI, 276, .inl be)), (qs, .inl (cI, 92, .inl sl)), (qv, .inl (cZ, 2, .inl sv)), (qp, .inl (cI, 60, .inl pd)), (qn, .inl (cI, 36, .inl nd))] := hD
  refine lv_iconst (v := 1) hx hb dX6_draw_28 (by decide) ?_
  refine lv_aload_n hx hb dX6_draw_29 rfl (lv_at hl 0 rfl) ?_
  refine va_get (D := G) (ci := 6) (v := .ref qz) (C := RX6) (T := TX6) (N := 10) hx hb hts inlX6 hown hK.1 hP 0 rfl rfl 0 (by decide) (hts _ wd78) (fun _ h9 => h9) rfl dX6_draw_30 ?_
  refine lv_bipush (v := 39) hx hb dX6_draw_33 (by decide) ?_
  refine za_ld hx hb hK.1 hP 1 0 rfl rfl 39 rfl (by decide) (by decide) dX6_draw_35 ?_
  refine lv_ldc hx hb hown (hts _ wd191) dX6_draw_36 ?_
  refine lv_idiv hx hb dX6_draw_38 (by decide) ?_
  refine lv_bipush (v := 6) hx hb dX6_draw_39 (by decide) ?_
  refine zi_jr hx hb dX6_draw_41 (by decide) ?_
  refine lv_iadd hx hb dX6_draw_42 ?_
  exact W.iret (v := 1 + (jr (((((((z 39).toInt64) * 1103515245) + 12345) - ((((z 39).toInt64) * 1103515245) + 12345) / 2147483648 * 2147483648).toInt32) / 65536) 6)) hx hb hr (fun t ht hW => ⟨⟨1 + (jr (((((((z 39).toInt64) * 1103515245) + 12345) - ((((z 39).toInt64) * 1103515245) + 12345) / 2147483648 * 2147483648).toInt32) / 65536) 6), (), rfl, ⟨rfl, trivial⟩, by rw [ht]; exact hP, hD⟩, hS.F ht⟩) hS.2.2 dX6_draw_43

abbrev rm_X6_doCast : Room := { frames := 0, cells := 0, slots := 0, locals := 0 }
set_option maxHeartbeats 1000000 in
set_option maxRecDepth 100000 in
theorem c_X6_doCast (l : Launch) (G : va_G) (cI cC cZ cG : ClassId) (sz : Nat) (qm qz qa qe qs qv qp qn : Nat) (z as be sl sv pd nd : IA) (sts len : Nat) (go : Int32) (v : Int32) : Met l yX6_doCast (.code yX6_doCast cX6_doCast 2 none :: wsL_law) rm_X6_doCast (va_Pc [.ref qm, .int v] (bw G cI cC cZ cG false sz [(qm, .inr (6, [.ref qz, .ref qa, .ref qe, .int (nI sts), .ref qs, .ref qv, .ref qp, .int (nI len), .int go, .ref qn])), (qz, .inl (cI, 46, .inl z)), (qa, .inl (cI, 46, .inl as)), (qe, .inl (cI, 276, .inl be)), (qs, .inl (cI, 92, .inl sl)), (qv, .inl (cZ, 2, .inl sv)), (qp, .inl (cI, 60, .inl pd)), (qn, .inl (cI, 36, .inl nd))])) (va_Qv (fun (u : Unit) => True) (fun (u : Unit) t => va_P G vwCl [(qm, .inr (6, [.ref qz, .ref qa, .ref qe, .int (nI sts), .ref qs, .ref qv, .ref qp, .int (nI len), .int go, .ref qn])), (qz, .inl (cI, 46, .inl (dcM z v))), (qa, .inl (cI, 46, .inl as)), (qe, .inl (cI, 276, .inl be)), (qs, .inl (cI, 92, .inl sl)), (qv, .inl (cZ, 2, .inl sv)), (qp, .inl (cI, 60, .inl pd)), (qn, .inl (cI, 36, .inl nd))] t.heap ∧ va_D (va_A [(qm, .inr (6, [.ref qz, .ref qa, .ref qe, .int (nI sts), .ref qs, .ref qv, .ref qp, .int (nI len), .int go, .ref qn])), (qz, .inl (cI, 46, .inl z)), (qa, .inl (cI, 46, .inl as)), (qe, .inl (cI, 276, .inl be)), (qs, .inl (cI, 92, .inl sl)), (qv, .inl (cZ, 2, .inl sv)), (qp, .inl (cI, 60, .inl pd)), (qn, .inl (cI, 36, .inl nd))] sz) [(qm, .inr (6, [.ref qz, .ref qa, .ref qe, .int (nI sts), .ref qs, .ref qv, .ref qp, .int (nI len), .int go, .ref qn])), (qz, .inl (cI, 46, .inl (dcM z v))), (qa, .inl (cI, 46, .inl as)), (qe, .inl (cI, 276, .inl be)), (qs, .inl (cI, 92, .inl sl)), (qv, .inl (cZ, 2, .inl sv)), (qp, .inl (cI, 60, .inl pd)), (qn, .inl (cI, 36, .inl nd))]) (va_A [(qm, .inr (6, [.ref qz, .ref qa, .ref qe, .int (nI sts), .ref qs, .ref qv, .ref qp, .int (nI len), .int go, .ref qn])), (qz, .inl (cI, 46, .inl z)), (qa, .inl (cI, 46, .inl as)), (qe, .inl (cI, 276, .inl be)), (qs, .inl (cI, 92, .inl sl)), (qv, .inl (cZ, 2, .inl sv)), (qp, .inl (cI, 60, .inl pd)), (qn, .inl (cI, 36, .inl nd))] sz)) 0 0 (va_A [(qm, .inr (6, [.ref qz, .ref qa, .ref qe, .int (nI sts), .ref qs, .ref qv, .ref qp, .int (nI len), .int go, .ref qn])), (qz, .inl (cI, 46, .inl z)), (qa, .inl (cI, 46, .inl as)), (qe, .inl (cI, 276, .inl be)), (qs, .inl (cI, 92, .inl sl)), (qv, .inl (cZ, 2, .inl sv)), (qp, .inl (cI, 60, .inl pd)), (qn, .inl (cI, 36, .inl nd))] sz) := by
  refine met_bw rfl (Nat.le_of_ble_eq_true rfl) ?_
  intro p e s m below meth c ls hx hb hr hml hown hts hlocks hin hsz hP hK hD0 hX0 hl
  have hown : s.vm.findClass RX6 = some m.cls := hown
  have hl : lv_has ls 2 [(0, .ref qm), (1, .int v)] := hl
  subst hsz
  have hD := hD0.self (sz := s.heap.size)
  generalize hAe : va_A [(qm, .inr (6, [.ref qz, .ref qa, .ref qe, .int (nI sts), .ref qs, .ref qv, .ref qp, .int (nI len), .int go, .ref qn])), (qz, .inl (cI, 46, .inl z)), (qa, .inl (cI, 46, .inl as)), (qe, .inl (cI, 276, .inl be)), (qs, .inl (cI, 92, .inl sl)), (qv, .inl (cZ, 2, .inl sv)), (qp, .inl (cI, 60, .inl pd)), (qn, .inl (cI, 36, .inl nd))] s.heap.size = A at hD ⊢
  have hA : ∀ q : Nat, s.heap.size ≤ q → A q := fun q h => by rw [← hAe]; exact Or.inr h
  have hS : va_S A s.heap s.heap [] := va_S.rf
  refine lv_aload_n hx hb dX6_doCast_0 rfl (lv_at hl 0 rfl) ?_
  refine va_get (D := G) (ci := 6) (v := .ref qz) (C := RX6) (T := TX6) (N := 10) hx hb hts inlX6 hown hK.1 hP 0 rfl rfl 0 (by decide) (hts _ wd78) (fun _ h9 => h9) rfl dX6_doCast_1 ?_
  refine lv_bipush (v := 41) hx hb dX6_doCast_4 (by decide) ?_
  refine lv_iload_n hx hb dX6_doCast_6 rfl (lv_at hl 1 rfl) ?_
  refine za_st hx hb hK.1 hP hD hS 1 0 rfl rfl 41 rfl (by decide) (by decide) dX6_doCast_7 (fun H462 locs462 hP hD hS => ?_)
  have hP : va_P G vwCl [(qm, .inr (6, [.ref qz, .ref qa, .ref qe, .int (nI sts), .ref qs, .ref qv, .ref qp, .int (nI len), .int go, .ref qn])), (qz, .inl (cI, 46, .inl (upd z 41 v))), (qa, .inl (cI, 46, .inl as)), (qe, .inl (cI, 276, .inl be)), (qs, .inl (cI, 92, .inl sl)), (qv, .inl (cZ, 2, .inl sv)), (qp, .inl (cI, 60, .inl pd)), (qn, .inl (cI, 36, .inl nd))] H462 := hP
  have hD : va_D A [(qm, .inr (6, [.ref qz, .ref qa, .ref qe, .int (nI sts), .ref qs, .ref qv, .ref qp, .int (nI len), .int go, .ref qn])), (qz, .inl (cI, 46, .inl (upd z 41 v))), (qa, .inl (cI, 46, .inl as)), (qe, .inl (cI, 276, .inl be)), (qs, .inl (cI, 92, .inl sl)), (qv, .inl (cZ, 2, .inl sv)), (qp, .inl (cI, 60, .inl pd)), (qn, .inl (cI, 36, .inl nd))] := hD
  refine lv_aload_n hx hb dX6_doCast_8 rfl (lv_at hl 0 rfl) ?_
  refine va_get (D := G) (ci := 6) (v := .ref qz) (C := RX6) (T := TX6) (N := 10) hx hb hts inlX6 hown hK.1 hP 0 rfl rfl 0 (by decide) (hts _ wd78) (fun _ h9 => h9) rfl dX6_doCast_9 ?_
  refine lv_bipush (v := 43) hx hb dX6_doCast_12 (by decide) ?_
  refine lv_dup2_11 hx hb dX6_doCast_14 rfl rfl ?_
  refine za_ld hx hb hK.1 hP 1 0 rfl rfl 43 rfl (by decide) (by decide) dX6_doCast_15 ?_
  refine lv_iconst (v := 1) hx hb dX6_doCast_16 (by decide) ?_
  refine lv_iadd hx hb dX6_doCast_17 ?_
  refine za_st hx hb hK.1 hP hD hS 1 0 rfl rfl 43 rfl (by decide) (by decide) dX6_doCast_18 (fun H463 locs463 hP hD hS => ?_)
  have hP : va_P G vwCl [(qm, .inr (6, [.ref qz, .ref qa, .ref qe, .int (nI sts), .ref qs, .ref qv, .ref qp, .int (nI len), .int go, .ref qn])), (qz, .inl (cI, 46, .inl (upd (upd z 41 v) 43 ((z 43) + 1)))), (qa, .inl (cI, 46, .inl as)), (qe, .inl (cI, 276, .inl be)), (qs, .inl (cI, 92, .inl sl)), (qv, .inl (cZ, 2, .inl sv)), (qp, .inl (cI, 60, .inl pd)), (qn, .inl (cI, 36, .inl nd))] H463 := hP
  have hD : va_D A [(qm, .inr (6, [.ref qz, .ref qa, .ref qe, .int (nI sts), .ref qs, .ref qv, .ref qp, .int (nI len), .int go, .ref qn])), (qz, .inl (cI, 46, .inl (upd (upd z 41 v) 43 ((z 43) + 1)))), (qa, .inl (cI, 46, .inl as)), (qe, .inl (cI, 276, .inl be)), (qs, .inl (cI, 92, .inl sl)), (qv, .inl (cZ, 2, .inl sv)), (qp, .inl (cI, 60, .inl pd)), (qn, .inl (cI, 36, .inl nd))] := hD
  exact W.vret hx hb hr (fun t ht hW => ⟨⟨(), rfl, trivial, by rw [ht]; exact hP, hD⟩, hS.F ht⟩) hS.2.2 dX6_doCast_19

abbrev rm_X6_hasCast : Room := { frames := 0, cells := 0, slots := 0, locals := 0 }
set_option maxHeartbeats 1000000 in
set_option maxRecDepth 100000 in
theorem c_X6_hasCast (l : Launch) (G : va_G) (cI cC cZ cG : ClassId) (sz : Nat) (qm qz qa qe qs qv qp qn : Nat) (z as be sl sv pd nd : IA) (sts len : Nat) (go : Int32) : Met l yX6_hasCast (.code yX6_hasCast cX6_hasCast 1 (some .boolean) :: wsL_law) rm_X6_hasCast (va_Pc [.ref qm] (bw G cI cC cZ cG false sz [(qm, .inr (6, [.ref qz, .ref qa, .ref qe, .int (nI sts), .ref qs, .ref qv, .ref qp, .int (nI len), .int go, .ref qn])), (qz, .inl (cI, 46, .inl z)), (qa, .inl (cI, 46, .inl as)), (qe, .inl (cI, 276, .inl be)), (qs, .inl (cI, 92, .inl sl)), (qv, .inl (cZ, 2, .inl sv)), (qp, .inl (cI, 60, .inl pd)), (qn, .inl (cI, 36, .inl nd))])) (vp_Si (fun r => r = bz (¬ z 41 = -6))) 0 0 (fun _ => False) := by
  refine met_bw rfl (Nat.le_of_ble_eq_true rfl) ?_
  intro p e s m below meth c ls hx hb hr hml hown hts hlocks hin hsz hP hK hD0 hX0 hl
  have hown : s.vm.findClass RX6 = some m.cls := hown
  have hl : lv_has ls 1 [(0, .ref qm)] := hl
  refine lv_aload_n hx hb dX6_hasCast_0 rfl (lv_at hl 0 rfl) ?_
  refine va_get (D := G) (ci := 6) (v := .ref qz) (C := RX6) (T := TX6) (N := 10) hx hb hts inlX6 hown hK.1 hP 0 rfl rfl 0 (by decide) (hts _ wd78) (fun _ h9 => h9) rfl dX6_hasCast_1 ?_
  refine lv_bipush (v := 41) hx hb dX6_hasCast_4 (by decide) ?_
  refine za_ld hx hb hK.1 hP 1 0 rfl rfl 41 rfl (by decide) (by decide) dX6_hasCast_6 ?_
  refine lv_bipush (v := (-6)) hx hb dX6_hasCast_7 (by decide) ?_
  refine lv_icmp_eq (tgt := 16) hx hb dX6_hasCast_9 (by decide) (fun c_464 => ?_) (fun c_464 => ?_)
  · refine lv_iconst (v := 0) hx hb dX6_hasCast_16 (by decide) ?_
    exact W.zret (v := 0) hx hb hr rfl (fun t ht hW => ⟨0, rfl, bz_f (by simp [ne_eq, c_464]), ht⟩) (fun _ h => absurd h List.not_mem_nil) dX6_hasCast_17
  · refine lv_iconst (v := 1) hx hb dX6_hasCast_12 (by decide) ?_
    refine lv_goto (tgt := 17) hx hb dX6_hasCast_13 (by decide) ?_
    exact W.zret (v := 1) hx hb hr rfl (fun t ht hW => ⟨1, rfl, bz_t (by simp [ne_eq, c_464]), ht⟩) (fun _ h => absurd h List.not_mem_nil) dX6_hasCast_17

abbrev rm_X6_kindOf : Room := { frames := 6, cells := 0, slots := 0, locals := 138 }
set_option maxHeartbeats 1000000 in
set_option maxRecDepth 100000 in
theorem c_X6_kindOf (l : Launch) (G : va_G) (cI cC cZ cG : ClassId) (sz : Nat) (qm qz qa qe qs qv qp qn : Nat) (z as be sl sv pd nd : IA) (sts len : Nat) (go : Int32) (k cn : Nat) (hz : ∀ k, k < 12 → okv (z k)) (hk : k < 12) (hc1 : 1 ≤ cn) (hc : cn ≤ 6) (h0 : mwn z k cn = 0) : Met l yX6_kindOf (.code yX6_kindOf cX6_kindOf 6 (some .int) :: wsL_law) rm_X6_kindOf (va_Pc [.ref qm, .int (nI k), .int (nI cn)] (bw G cI cC cZ cG false sz [(qm, .inr (6, [.ref qz, .ref qa, .ref qe, .int (nI sts), .ref qs, .ref qv, .ref qp, .int (nI len), .int go, .ref qn])), (qz, .inl (cI, 46, .inl z)), (qa, .inl (cI, 46, .inl as)), (qe, .inl (cI, 276, .inl be)), (qs, .inl (cI, 92, .inl sl)), (qv, .inl (cZ, 2, .inl sv)), (qp, .inl (cI, 60, .inl pd)), (qn, .inl (cI, 36, .inl nd))])) (va_Qi (fun (r : Int32) (u : Int32) => r = kdM z k cn ∧ True) (fun (u : Int32) t => va_P G vwCl [(qm, .inr (6, [.ref qz, .ref qa, .ref qe, .int (nI sts), .ref qs, .ref qv, .ref qp, .int (nI len), .int u, .ref qn])), (qz, .inl (cI, 46, .inl z)), (qa, .inl (cI, 46, .inl as)), (qe, .inl (cI, 276, .inl be)), (qs, .inl (cI, 92, .inl sl)), (qv, .inl (cZ, 2, .inl sv)), (qp, .inl (cI, 60, .inl pd)), (qn, .inl (cI, 36, .inl nd))] t.heap ∧ va_D (va_A [(qm, .inr (6, [.ref qz, .ref qa, .ref qe, .int (nI sts), .ref qs, .ref qv, .ref qp, .int (nI len), .int go, .ref qn])), (qz, .inl (cI, 46, .inl z)), (qa, .inl (cI, 46, .inl as)), (qe, .inl (cI, 276, .inl be)), (qs, .inl (cI, 92, .inl sl)), (qv, .inl (cZ, 2, .inl sv)), (qp, .inl (cI, 60, .inl pd)), (qn, .inl (cI, 36, .inl nd))] sz) [(qm, .inr (6, [.ref qz, .ref qa, .ref qe, .int (nI sts), .ref qs, .ref qv, .ref qp, .int (nI len), .int u, .ref qn])), (qz, .inl (cI, 46, .inl z)), (qa, .inl (cI, 46, .inl as)), (qe, .inl (cI, 276, .inl be)), (qs, .inl (cI, 92, .inl sl)), (qv, .inl (cZ, 2, .inl sv)), (qp, .inl (cI, 60, .inl pd)), (qn, .inl (cI, 36, .inl nd))]) (va_A [(qm, .inr (6, [.ref qz, .ref qa, .ref qe, .int (nI sts), .ref qs, .ref qv, .ref qp, .int (nI len), .int go, .ref qn])), (qz, .inl (cI, 46, .inl z)), (qa, .inl (cI, 46, .inl as)), (qe, .inl (cI, 276, .inl be)), (qs, .inl (cI, 92, .inl sl)), (qv, .inl (cZ, 2, .inl sv)), (qp, .inl (cI, 60, .inl pd)), (qn, .inl (cI, 36, .inl nd))] sz)) 0 0 (va_A [(qm, .inr (6, [.ref qz, .ref qa, .ref qe, .int (nI sts), .ref qs, .ref qv, .ref qp, .int (nI len), .int go, .ref qn])), (qz, .inl (cI, 46, .inl z)), (qa, .inl (cI, 46, .inl as)), (qe, .inl (cI, 276, .inl be)), (qs, .inl (cI, 92, .inl sl)), (qv, .inl (cZ, 2, .inl sv)), (qp, .inl (cI, 60, .inl pd)), (qn, .inl (cI, 36, .inl nd))] sz) := by
  refine met_bw rfl (Nat.le_of_ble_eq_true rfl) ?_
  intro p e s m below meth c ls hx hb hr hml hown hts hlocks hin hsz hP hK hD0 hX0 hl
  have hown : s.vm.findClass RX6 = some m.cls := hown
  have hl : lv_has ls 6 [(0, .ref qm), (1, .int (nI k)), (2, .int (nI cn))] := hl
  subst hsz
  have hD := hD0.self (sz := s.heap.size)
  generalize hAe : va_A [(qm, .inr (6, [.ref qz, .ref qa, .ref qe, .int (nI sts), .ref qs, .ref qv, .ref qp, .int (nI len), .int go, .ref qn])), (qz, .inl (cI, 46, .inl z)), (qa, .inl (cI, 46, .inl as)), (qe, .inl (cI, 276, .inl be)), (qs, .inl (cI, 92, .inl sl)), (qv, .inl (cZ, 2, .inl sv)), (qp, .inl (cI, 60, .inl pd)), (qn, .inl (cI, 36, .inl nd))] s.heap.size = A at hD ⊢
  have hA : ∀ q : Nat, s.heap.size ≤ q → A q := fun q h => by rw [← hAe]; exact Or.inr h
  have hS : va_S A s.heap s.heap [] := va_S.rf
  refine lv_aload_n hx hb dX6_kindOf_0 rfl (lv_at hl 0 rfl) ?_
  refine lv_iload_n hx hb dX6_kindOf_1 rfl (lv_at hl 1 rfl) ?_
  refine lv_iload_n hx hb dX6_kindOf_2 rfl (lv_at hl 2 rfl) ?_
  have hPc : va_P G vwCl [(qm, .inr (6, [.ref qz, .ref qa, .ref qe, .int (nI sts), .ref qs, .ref qv, .ref qp, .int (nI len), .int go, .ref qn])), (qz, .inl (cI, 46, .inl z)), (qa, .inl (cI, 46, .inl as)), (qe, .inl (cI, 276, .inl be)), (qs, .inl (cI, 92, .inl sl)), (qv, .inl (cZ, 2, .inl sv)), (qp, .inl (cI, 60, .inl pd)), (qn, .inl (cI, 36, .inl nd))] s.heap := hP
  have hDc := hD.tt
  have hFc := va_free (wc := [(qm, .inr (6, [.ref qz, .ref qa, .ref qe, .int (nI sts), .ref qs, .ref qv, .ref qp, .int (nI len), .int go, .ref qn])), (qz, .inl (cI, 46, .inl z)), (qa, .inl (cI, 46, .inl as)), (qe, .inl (cI, 276, .inl be)), (qs, .inl (cI, 92, .inl sl)), (qv, .inl (cZ, 2, .inl sv)), (qp, .inl (cI, 60, .inl pd)), (qn, .inl (cI, 36, .inl nd))]) hD hS hA [0, 1, 2, 3, 4, 5, 6, 7] rfl
  refine va_calli (va_runV (As := [.int (nI k), .int (nI cn)]) (rest := []) ⟨hx, hb, hml, hown, hts⟩ (c_X6_whyNot l G cI cC cZ cG s.heap.size qm qz qa qe qs qv qp qn z as be sl sv pd nd sts len go k cn hz (by omega) hc1 hc) (cf_RX6_88 hts ⟨Nat.le_of_ble_eq_true rfl, Nat.le_of_ble_eq_true rfl⟩) (pre_V hK hPc hDc (ci := 6) (q0 := 0) rfl rfl) rfl rfl hl.1 rfl (lv_room (Nat.le_of_ble_eq_true rfl)) dX6_kindOf_3 ⟨Nat.le_of_ble_eq_true rfl, Nat.le_of_ble_eq_true rfl⟩) hS (fun q _ h => hFc q h) hFc (fun r465 u465 t465 H465 locs465 ht465 hvm465 hw465 hB465 hz465 hk465 hS => ?_)
  obtain ⟨go465, rfl⟩ : ∃ z, z = u465 := ⟨_, rfl⟩
  obtain ⟨hP1, hD1⟩ := hB465
  rw [ht465] at hP1
  try dsimp only at hw465
  obtain ⟨hr465, hw465⟩ := hw465
  subst hr465
  obtain ⟨hP, hD⟩ := va_join (wr := []) (w1 := [(qm, .inr (6, [.ref qz, .ref qa, .ref qe, .int (nI sts), .ref qs, .ref qv, .ref qp, .int (nI len), .int go465, .ref qn])), (qz, .inl (cI, 46, .inl z)), (qa, .inl (cI, 46, .inl as)), (qe, .inl (cI, 276, .inl be)), (qs, .inl (cI, 92, .inl sl)), (qv, .inl (cZ, 2, .inl sv)), (qp, .inl (cI, 60, .inl pd)), (qn, .inl (cI, 36, .inl nd))]) hP hD [0, 1, 2, 3, 4, 5, 6, 7] [] rfl rfl (by decide) (by decide) hk465 hFc hP1 hD1
  have hP : va_P G vwCl [(qm, .inr (6, [.ref qz, .ref qa, .ref qe, .int (nI sts), .ref qs, .ref qv, .ref qp, .int (nI len), .int go465, .ref qn])), (qz, .inl (cI, 46, .inl z)), (qa, .inl (cI, 46, .inl as)), (qe, .inl (cI, 276, .inl be)), (qs, .inl (cI, 92, .inl sl)), (qv, .inl (cZ, 2, .inl sv)), (qp, .inl (cI, 60, .inl pd)), (qn, .inl (cI, 36, .inl nd))] H465 := hP
  have hD : va_D A [(qm, .inr (6, [.ref qz, .ref qa, .ref qe, .int (nI sts), .ref qs, .ref qv, .ref qp, .int (nI len), .int go465, .ref qn])), (qz, .inl (cI, 46, .inl z)), (qa, .inl (cI, 46, .inl as)), (qe, .inl (cI, 276, .inl be)), (qs, .inl (cI, 92, .inl sl)), (qv, .inl (cZ, 2, .inl sv)), (qp, .inl (cI, 60, .inl pd)), (qn, .inl (cI, 36, .inl nd))] := hD
  have ego : go465 = tgtM z (k / 3) (z k) cn := hw465.trans (mgo_free h0)
  rw [ego] at hP hD
  refine lv_pop hx hb dX6_kindOf_6 rfl ?_
  refine lv_iload_n hx hb dX6_kindOf_7 rfl (lv_at hl 1 rfl) ?_
  refine lv_iconst (v := 3) hx hb dX6_kindOf_8 (by decide) ?_
  refine zi_div hx hb k 3 dX6_kindOf_9 rfl rfl (by omega) (by decide) (by decide) ?_
  refine lv_istore_n (lv' := [(3, .int (nI (k / 3))), (0, .ref qm), (1, .int (nI k)), (2, .int (nI cn))]) hx hb dX6_kindOf_10 rfl hl (by decide) rfl (fun ls hl => ?_)
  refine lv_iload_n hx hb dX6_kindOf_11 rfl (lv_at hl 0 rfl) ?_
  refine lv_aload_n hx hb dX6_kindOf_12 rfl (lv_at hl 1 rfl) ?_
  refine va_get (D := G) (ci := 6) (v := .int (tgtM z (k / 3) (z k) cn)) (C := RX6) (T := TX6) (N := 10) hx hb hts inlX6 hown hK.1 hP 0 rfl rfl 8 (by decide) (hts _ wd267) (fun _ h9 => h9) rfl dX6_kindOf_13 ?_
  refine vp_callSi (va_Run.run (va_runS (As := [.int (nI (k / 3)), .int (tgtM z (k / 3) (z k) cn)]) (rest := []) ⟨hx, hb, hml, hown, hts⟩ (c_X6_fieldAt l (k / 3) (tgtM z (k / 3) (z k) cn) (by omega)) (cf_RX6_36 hts ⟨Nat.le_of_ble_eq_true rfl, Nat.le_of_ble_eq_true rfl⟩) pre_P rfl rfl hl.1 rfl (lv_room (Nat.le_of_ble_eq_true rfl)) dX6_kindOf_16 ⟨Nat.le_of_ble_eq_true rfl, Nat.le_of_ble_eq_true rfl⟩)) (fun r466 hr466 => ?_)
  subst hr466
  refine lv_istore (lv' := [(4, .int (rf (k / 3) (tgtM z (k / 3) (z k) cn))), (3, .int (nI (k / 3))), (0, .ref qm), (1, .int (nI k)), (2, .int (nI cn))]) hx hb dX6_kindOf_19 hl (by decide) rfl (fun ls hl => ?_)
  refine lv_aload_n hx hb dX6_kindOf_21 rfl (lv_at hl 2 rfl) ?_
  refine lv_iload_n hx hb dX6_kindOf_22 rfl (lv_at hl 1 rfl) ?_
  refine lv_iload hx hb dX6_kindOf_23 (lv_at hl 0 rfl) ?_
  have hPc : va_P G vwCl [(qm, .inr (6, [.ref qz, .ref qa, .ref qe, .int (nI sts), .ref qs, .ref qv, .ref qp, .int (nI len), .int (tgtM z (k / 3) (z k) cn), .ref qn])), (qz, .inl (cI, 46, .inl z)), (qa, .inl (cI, 46, .inl as)), (qe, .inl (cI, 276, .inl be)), (qs, .inl (cI, 92, .inl sl)), (qv, .inl (cZ, 2, .inl sv)), (qp, .inl (cI, 60, .inl pd)), (qn, .inl (cI, 36, .inl nd))] H465 := hP
  have hDc := hD.tt
  refine vp_callSi (va_Run.run (va_runV (As := [.int (nI (k / 3)), .int (rf (k / 3) (tgtM z (k / 3) (z k) cn))]) (rest := []) ⟨hx, hb, hml, hown, hts⟩ (c_X6_piecesOn l G cI cC cZ cG H465.size qm qz qa qe qs qv qp qn z as be sl sv pd nd sts len (tgtM z (k / 3) (z k) cn) (k / 3) (rf (k / 3) (tgtM z (k / 3) (z k) cn)) (by omega)) (cf_RX6_48 hts ⟨Nat.le_of_ble_eq_true rfl, Nat.le_of_ble_eq_true rfl⟩) (pre_V hK hPc hDc (ci := 6) (q0 := 0) rfl rfl) rfl rfl hl.1 rfl (lv_room (Nat.le_of_ble_eq_true rfl)) dX6_kindOf_25 ⟨Nat.le_of_ble_eq_true rfl, Nat.le_of_ble_eq_true rfl⟩)) (fun r467 hr467 => ?_)
  subst hr467
  have hf468 := (@mpc_le z (k / 3) (rf (k / 3) (tgtM z (k / 3) (z k) cn)))
  refine lv_istore (lv' := [(5, .int (nI (mpc z (k / 3) (rf (k / 3) (tgtM z (k / 3) (z k) cn))))), (4, .int (rf (k / 3) (tgtM z (k / 3) (z k) cn))), (3, .int (nI (k / 3))), (0, .ref qm), (1, .int (nI k)), (2, .int (nI cn))]) hx hb dX6_kindOf_28 hl (by decide) rfl (fun ls hl => ?_)
  refine lv_aload_n hx hb dX6_kindOf_30 rfl (lv_at hl 3 rfl) ?_
  refine va_get (D := G) (ci := 6) (v := .int (tgtM z (k / 3) (z k) cn)) (C := RX6) (T := TX6) (N := 10) hx hb hts inlX6 hown hK.1 hP 0 rfl rfl 8 (by decide) (hts _ wd267) (fun _ h9 => h9) rfl dX6_kindOf_31 ?_
  refine lv_bipush (v := 35) hx hb dX6_kindOf_34 (by decide) ?_
  refine lv_icmp_ne (tgt := 43) hx hb dX6_kindOf_36 (by decide) (fun c_469 => ?_) (fun c_469 => ?_)
  · refine lv_aload_n hx hb dX6_kindOf_43 rfl (lv_at hl 3 rfl) ?_
    refine lv_iload_n hx hb dX6_kindOf_44 rfl (lv_at hl 2 rfl) ?_
    refine lv_iload hx hb dX6_kindOf_45 (lv_at hl 1 rfl) ?_
    have hPc : va_P G vwCl [(qm, .inr (6, [.ref qz, .ref qa, .ref qe, .int (nI sts), .ref qs, .ref qv, .ref qp, .int (nI len), .int (tgtM z (k / 3) (z k) cn), .ref qn])), (qz, .inl (cI, 46, .inl z)), (qa, .inl (cI, 46, .inl as)), (qe, .inl (cI, 276, .inl be)), (qs, .inl (cI, 92, .inl sl)), (qv, .inl (cZ, 2, .inl sv)), (qp, .inl (cI, 60, .inl pd)), (qn, .inl (cI, 36, .inl nd))] H465 := hP
    have hDc := hD.tt
    refine vp_callSi (va_Run.run (va_runV (As := [.int (nI (k / 3)), .int (rf (k / 3) (tgtM z (k / 3) (z k) cn))]) (rest := []) ⟨hx, hb, hml, hown, hts⟩ (c_X6_otherOn l G cI cC cZ cG H465.size qm qz qa qe qs qv qp qn z as be sl sv pd nd sts len (tgtM z (k / 3) (z k) cn) (k / 3) (rf (k / 3) (tgtM z (k / 3) (z k) cn)) (by omega)) (cf_RX6_91 hts ⟨Nat.le_of_ble_eq_true rfl, Nat.le_of_ble_eq_true rfl⟩) (pre_V hK hPc hDc (ci := 6) (q0 := 0) rfl rfl) rfl rfl hl.1 rfl (lv_room (Nat.le_of_ble_eq_true rfl)) dX6_kindOf_47 ⟨Nat.le_of_ble_eq_true rfl, Nat.le_of_ble_eq_true rfl⟩)) (fun r470 hr470 => ?_)
    subst hr470
    refine lv_if_lt (tgt := 57) hx hb dX6_kindOf_50 (by decide) (fun c_471 => ?_) (fun c_471 => ?_)
    · refine lv_iload hx hb dX6_kindOf_57 (lv_at hl 0 rfl) ?_
      refine z0_le (tgt := 66) hx hb (mpc z (k / 3) (rf (k / 3) (tgtM z (k / 3) (z k) cn))) dX6_kindOf_59 (by decide) rfl (by omega) (fun c_472 => ?_) (fun c_472 => ?_)
      · refine lv_iconst (v := 0) hx hb dX6_kindOf_66 (by decide) ?_
        exact W.iret (v := 0) hx hb hr (fun t ht hW => ⟨⟨0, tgtM z (k / 3) (z k) cn, rfl, ⟨by rw [kdM, kdG, if_neg c_469, if_neg (fun h => h c_471), if_neg (by omega)], trivial⟩, by rw [ht]; exact hP, hD⟩, hS.F ht⟩) hS.2.2 dX6_kindOf_67
      · refine lv_iconst (v := 1) hx hb dX6_kindOf_62 (by decide) ?_
        refine lv_goto (tgt := 67) hx hb dX6_kindOf_63 (by decide) ?_
        exact W.iret (v := 1) hx hb hr (fun t ht hW => ⟨⟨1, tgtM z (k / 3) (z k) cn, rfl, ⟨by rw [kdM, kdG, if_neg c_469, if_neg (fun h => h c_471), if_pos (by omega)], trivial⟩, by rw [ht]; exact hP, hD⟩, hS.F ht⟩) hS.2.2 dX6_kindOf_67
    · refine lv_iconst (v := 2) hx hb dX6_kindOf_53 (by decide) ?_
      refine lv_goto (tgt := 67) hx hb dX6_kindOf_54 (by decide) ?_
      exact W.iret (v := 2) hx hb hr (fun t ht hW => ⟨⟨2, tgtM z (k / 3) (z k) cn, rfl, ⟨by rw [kdM, kdG, if_neg c_469, if_pos c_471], trivial⟩, by rw [ht]; exact hP, hD⟩, hS.F ht⟩) hS.2.2 dX6_kindOf_67
  · refine lv_iconst (v := 3) hx hb dX6_kindOf_39 (by decide) ?_
    refine lv_goto (tgt := 67) hx hb dX6_kindOf_40 (by decide) ?_
    exact W.iret (v := 3) hx hb hr (fun t ht hW => ⟨⟨3, tgtM z (k / 3) (z k) cn, rfl, ⟨by rw [kdM, kdG, if_pos c_469], trivial⟩, by rw [ht]; exact hP, hD⟩, hS.F ht⟩) hS.2.2 dX6_kindOf_67

abbrev rm_X6_bestPiece : Room := { frames := 7, cells := 0, slots := 0, locals := 163 }
theorem cf_RX6_161 {R : Room} {s : State} {args : Array Value} (ht : ∀ w ∈ wsL_law, w.before args s = true) (hR : rm_X6_kindOf.frames + 1 ≤ R.frames ∧ 8 + (6 + 11) + rm_X6_kindOf.locals ≤ R.locals) : CallW R s args RX6 RX6 161 yX6_kindOf cX6_kindOf 6 (some .int) (.code yX6_kindOf cX6_kindOf 6 (some .int) :: wsL_law) rm_X6_kindOf 0 0 2 := ⟨cw_B 2 ht wd368 wd5 wd371 (by decide +kernel) rfl rfl hR, ht _ wd369, ht _ wd370⟩
set_option maxHeartbeats 1000000 in
set_option maxRecDepth 100000 in
theorem c_X6_bestPiece (l : Launch) (G : va_G) (cI cC cZ cG : ClassId) (sz : Nat) (qm qz qa qe qs qv qp qn : Nat) (z as be sl sv pd nd : IA) (sts len : Nat) (go : Int32) (pl cn : Nat) (hz : ∀ k, k < 12 → okv (z k)) (hpl : pl < 4) (h40 : z 40 = nI pl) (h41 : z 41 = nI cn) (hc1 : 1 ≤ cn) (hc : cn ≤ 6) : Met l yX6_bestPiece (.code yX6_bestPiece cX6_bestPiece 6 (some .int) :: wsL_law) rm_X6_bestPiece (va_Pc [.ref qm] (bw G cI cC cZ cG false sz [(qm, .inr (6, [.ref qz, .ref qa, .ref qe, .int (nI sts), .ref qs, .ref qv, .ref qp, .int (nI len), .int go, .ref qn])), (qz, .inl (cI, 46, .inl z)), (qa, .inl (cI, 46, .inl as)), (qe, .inl (cI, 276, .inl be)), (qs, .inl (cI, 92, .inl sl)), (qv, .inl (cZ, 2, .inl sv)), (qp, .inl (cI, 60, .inl pd)), (qn, .inl (cI, 36, .inl nd))])) (va_Qi (fun (r : Int32) (u : Int32) => r = bpM z pl cn ∧ True) (fun (u : Int32) t => va_P G vwCl [(qm, .inr (6, [.ref qz, .ref qa, .ref qe, .int (nI sts), .ref qs, .ref qv, .ref qp, .int (nI len), .int u, .ref qn])), (qz, .inl (cI, 46, .inl z)), (qa, .inl (cI, 46, .inl as)), (qe, .inl (cI, 276, .inl be)), (qs, .inl (cI, 92, .inl sl)), (qv, .inl (cZ, 2, .inl sv)), (qp, .inl (cI, 60, .inl pd)), (qn, .inl (cI, 36, .inl nd))] t.heap ∧ va_D (va_A [(qm, .inr (6, [.ref qz, .ref qa, .ref qe, .int (nI sts), .ref qs, .ref qv, .ref qp, .int (nI len), .int go, .ref qn])), (qz, .inl (cI, 46, .inl z)), (qa, .inl (cI, 46, .inl as)), (qe, .inl (cI, 276, .inl be)), (qs, .inl (cI, 92, .inl sl)), (qv, .inl (cZ, 2, .inl sv)), (qp, .inl (cI, 60, .inl pd)), (qn, .inl (cI, 36, .inl nd))] sz) [(qm, .inr (6, [.ref qz, .ref qa, .ref qe, .int (nI sts), .ref qs, .ref qv, .ref qp, .int (nI len), .int u, .ref qn])), (qz, .inl (cI, 46, .inl z)), (qa, .inl (cI, 46, .inl as)), (qe, .inl (cI, 276, .inl be)), (qs, .inl (cI, 92, .inl sl)), (qv, .inl (cZ, 2, .inl sv)), (qp, .inl (cI, 60, .inl pd)), (qn, .inl (cI, 36, .inl nd))]) (va_A [(qm, .inr (6, [.ref qz, .ref qa, .ref qe, .int (nI sts), .ref qs, .ref qv, .ref qp, .int (nI len), .int go, .ref qn])), (qz, .inl (cI, 46, .inl z)), (qa, .inl (cI, 46, .inl as)), (qe, .inl (cI, 276, .inl be)), (qs, .inl (cI, 92, .inl sl)), (qv, .inl (cZ, 2, .inl sv)), (qp, .inl (cI, 60, .inl pd)), (qn, .inl (cI, 36, .inl nd))] sz)) 0 0 (va_A [(qm, .inr (6, [.ref qz, .ref qa, .ref qe, .int (nI sts), .ref qs, .ref qv, .ref qp, .int (nI len), .int go, .ref qn])), (qz, .inl (cI, 46, .inl z)), (qa, .inl (cI, 46, .inl as)), (qe, .inl (cI, 276, .inl be)), (qs, .inl (cI, 92, .inl sl)), (qv, .inl (cZ, 2, .inl sv)), (qp, .inl (cI, 60, .inl pd)), (qn, .inl (cI, 36, .inl nd))] sz) := by
  refine met_bw rfl (Nat.le_of_ble_eq_true rfl) ?_
  intro p e s m below meth c ls hx hb hr hml hown hts hlocks hin hsz hP hK hD0 hX0 hl
  have hown : s.vm.findClass RX6 = some m.cls := hown
  have hl : lv_has ls 6 [(0, .ref qm)] := hl
  subst hsz
  have hD := hD0.self (sz := s.heap.size)
  generalize hAe : va_A [(qm, .inr (6, [.ref qz, .ref qa, .ref qe, .int (nI sts), .ref qs, .ref qv, .ref qp, .int (nI len), .int go, .ref qn])), (qz, .inl (cI, 46, .inl z)), (qa, .inl (cI, 46, .inl as)), (qe, .inl (cI, 276, .inl be)), (qs, .inl (cI, 92, .inl sl)), (qv, .inl (cZ, 2, .inl sv)), (qp, .inl (cI, 60, .inl pd)), (qn, .inl (cI, 36, .inl nd))] s.heap.size = A at hD ⊢
  have hA : ∀ q : Nat, s.heap.size ≤ q → A q := fun q h => by rw [← hAe]; exact Or.inr h
  have hS : va_S A s.heap s.heap [] := va_S.rf
  generalize hQ : MQ below (va_Qi (fun (r : Int32) (u : Int32) => r = bpM z pl cn ∧ True) (fun (u : Int32) t => va_P G vwCl [(qm, .inr (6, [.ref qz, .ref qa, .ref qe, .int (nI sts), .ref qs, .ref qv, .ref qp, .int (nI len), .int u, .ref qn])), (qz, .inl (cI, 46, .inl z)), (qa, .inl (cI, 46, .inl as)), (qe, .inl (cI, 276, .inl be)), (qs, .inl (cI, 92, .inl sl)), (qv, .inl (cZ, 2, .inl sv)), (qp, .inl (cI, 60, .inl pd)), (qn, .inl (cI, 36, .inl nd))] t.heap ∧ va_D A [(qm, .inr (6, [.ref qz, .ref qa, .ref qe, .int (nI sts), .ref qs, .ref qv, .ref qp, .int (nI len), .int u, .ref qn])), (qz, .inl (cI, 46, .inl z)), (qa, .inl (cI, 46, .inl as)), (qe, .inl (cI, 276, .inl be)), (qs, .inl (cI, 92, .inl sl)), (qv, .inl (cZ, 2, .inl sv)), (qp, .inl (cI, 60, .inl pd)), (qn, .inl (cI, 36, .inl nd))]) A) ([.ref qm] : List Value).toArray s 0 0 A = Q
  generalize hag : ([.ref qm] : List Value).toArray = ag at hts hQ ⊢
  refine lv_bipush (v := (-6)) hx hb dX6_bestPiece_0 (by decide) ?_
  refine lv_istore_n (lv' := [(1, .int (-6)), (0, .ref qm)]) hx hb dX6_bestPiece_2 rfl hl (by decide) rfl (fun ls hl => ?_)
  refine lv_iconst (v := 0) hx hb dX6_bestPiece_3 (by decide) ?_
  refine lv_istore_n (lv' := [(2, .int 0), (1, .int (-6)), (0, .ref qm)]) hx hb dX6_bestPiece_4 rfl hl (by decide) rfl (fun ls hl => ?_)
  refine lv_iconst (v := 0) hx hb dX6_bestPiece_5 (by decide) ?_
  refine lv_istore_n (lv' := [(3, .int 0), (2, .int 0), (1, .int (-6)), (0, .ref qm)]) hx hb dX6_bestPiece_6 rfl hl (by decide) rfl (fun ls hl => ?_)
  have L1 : ∀ (n : Nat), ∀ (i : Nat), ∀ (f : Int32), ∀ (w : Int32), ∀ (gc : Int32), ∀ (hi : i ≤ 3), ∀ (hf2 : (f, w) = bpT z pl cn i), ∀ (hn : 4 ≤ i + n), ∀ (H473 : Heap) (locs473 : List Loc), va_P G vwCl [(qm, .inr (6, [.ref qz, .ref qa, .ref qe, .int (nI sts), .ref qs, .ref qv, .ref qp, .int (nI len), .int gc, .ref qn])), (qz, .inl (cI, 46, .inl z)), (qa, .inl (cI, 46, .inl as)), (qe, .inl (cI, 276, .inl be)), (qs, .inl (cI, 92, .inl sl)), (qv, .inl (cZ, 2, .inl sv)), (qp, .inl (cI, 60, .inl pd)), (qn, .inl (cI, 36, .inl nd))] H473 → va_D A [(qm, .inr (6, [.ref qz, .ref qa, .ref qe, .int (nI sts), .ref qs, .ref qv, .ref qp, .int (nI len), .int gc, .ref qn])), (qz, .inl (cI, 46, .inl z)), (qa, .inl (cI, 46, .inl as)), (qe, .inl (cI, 276, .inl be)), (qs, .inl (cI, 92, .inl sl)), (qv, .inl (cZ, 2, .inl sv)), (qp, .inl (cI, 60, .inl pd)), (qn, .inl (cI, 36, .inl nd))] → va_S A s.heap H473 locs473 → ∀ (ls : Array Slot), lv_has ls 6 [(3, .int (nI i)), (2, .int w), (1, .int f), (0, .ref qm)] → W p l e rm_X6_bestPiece s m ag below meth c H473 locs473 0 0 Q (F0 m 7 ls []) := by
    intro n
    induction n with
    | zero =>
      intro i f w gc hi hf2 hn H473 locs473 hP hD hS ls hl
      omega
    | succ n ih1 =>
      intro i f w gc hi hf2 hn H473 locs473 hP hD hS ls hl
      refine lv_iload_n hx hb dX6_bestPiece_7 rfl (lv_at hl 0 rfl) ?_
      refine lv_iconst (v := 3) hx hb dX6_bestPiece_8 (by decide) ?_
      refine zi_ge (tgt := 106) hx hb i 3 dX6_bestPiece_9 (by decide) rfl rfl (by omega) (by decide) (fun c_474 => ?_) (fun c_474 => ?_)
      · refine lv_iload_n hx hb dX6_bestPiece_106 rfl (lv_at hl 2 rfl) ?_
        subst hQ
        exact W.iret (v := f) hx hb hr (fun t ht hW => ⟨⟨f, gc, rfl, ⟨by rw [bpM, ← show i = 3 by omega, ← hf2], trivial⟩, by rw [ht]; exact hP, hD⟩, hS.F ht⟩) hS.2.2 dX6_bestPiece_107
      · refine lv_iconst (v := 3) hx hb dX6_bestPiece_12 (by decide) ?_
        refine lv_aload_n hx hb dX6_bestPiece_13 rfl (lv_at hl 3 rfl) ?_
        refine va_get (D := G) (ci := 6) (v := .ref qz) (C := RX6) (T := TX6) (N := 10) hx hb hts inlX6 hown hK.1 hP 0 rfl rfl 0 (by decide) (hts _ wd78) (fun _ h9 => h9) rfl dX6_bestPiece_14 ?_
        refine lv_bipush (v := 40) hx hb dX6_bestPiece_17 (by decide) ?_
        refine za_ld hx hb hK.1 hP 1 0 rfl rfl 40 rfl (by decide) (by decide) dX6_bestPiece_19 ?_
        refine zi_mul hx hb 3 pl dX6_bestPiece_20 rfl h40 ?_
        refine lv_iload_n hx hb dX6_bestPiece_21 rfl (lv_at hl 0 rfl) ?_
        refine zi_add hx hb (3 * pl) i dX6_bestPiece_22 rfl rfl ?_
        refine lv_istore (lv' := [(4, .int (nI ((3 * pl) + i))), (3, .int (nI i)), (2, .int w), (1, .int f), (0, .ref qm)]) hx hb dX6_bestPiece_23 hl (by decide) rfl (fun ls hl => ?_)
        refine lv_aload_n hx hb dX6_bestPiece_25 rfl (lv_at hl 4 rfl) ?_
        refine lv_iload hx hb dX6_bestPiece_26 (lv_at hl 0 rfl) ?_
        refine lv_aload_n hx hb dX6_bestPiece_28 rfl (lv_at hl 4 rfl) ?_
        refine va_get (D := G) (ci := 6) (v := .ref qz) (C := RX6) (T := TX6) (N := 10) hx hb hts inlX6 hown hK.1 hP 0 rfl rfl 0 (by decide) (hts _ wd78) (fun _ h9 => h9) rfl dX6_bestPiece_29 ?_
        refine lv_bipush (v := 41) hx hb dX6_bestPiece_32 (by decide) ?_
        refine za_ld hx hb hK.1 hP 1 0 rfl rfl 41 rfl (by decide) (by decide) dX6_bestPiece_34 ?_
        rw [h41]
        have hPc : va_P G vwCl [(qm, .inr (6, [.ref qz, .ref qa, .ref qe, .int (nI sts), .ref qs, .ref qv, .ref qp, .int (nI len), .int gc, .ref qn])), (qz, .inl (cI, 46, .inl z)), (qa, .inl (cI, 46, .inl as)), (qe, .inl (cI, 276, .inl be)), (qs, .inl (cI, 92, .inl sl)), (qv, .inl (cZ, 2, .inl sv)), (qp, .inl (cI, 60, .inl pd)), (qn, .inl (cI, 36, .inl nd))] H473 := hP
        have hDc := hD.tt
        have hFc := va_free (wc := [(qm, .inr (6, [.ref qz, .ref qa, .ref qe, .int (nI sts), .ref qs, .ref qv, .ref qp, .int (nI len), .int gc, .ref qn])), (qz, .inl (cI, 46, .inl z)), (qa, .inl (cI, 46, .inl as)), (qe, .inl (cI, 276, .inl be)), (qs, .inl (cI, 92, .inl sl)), (qv, .inl (cZ, 2, .inl sv)), (qp, .inl (cI, 60, .inl pd)), (qn, .inl (cI, 36, .inl nd))]) hD hS hA [0, 1, 2, 3, 4, 5, 6, 7] rfl
        refine va_calli (va_runV (As := [.int (nI ((3 * pl) + i)), .int (nI cn)]) (rest := []) ⟨hx, hb, hml, hown, hts⟩ (c_X6_whyNot l G cI cC cZ cG H473.size qm qz qa qe qs qv qp qn z as be sl sv pd nd sts len gc ((3 * pl) + i) cn hz (by omega) hc1 hc) (cf_RX6_88 hts ⟨Nat.le_of_ble_eq_true rfl, Nat.le_of_ble_eq_true rfl⟩) (pre_V hK hPc hDc (ci := 6) (q0 := 0) rfl rfl) rfl rfl hl.1 rfl (lv_room (Nat.le_of_ble_eq_true rfl)) dX6_bestPiece_35 ⟨Nat.le_of_ble_eq_true rfl, Nat.le_of_ble_eq_true rfl⟩) hS (fun q _ h => hFc q h) hFc (fun r475 u475 t475 H475 locs475 ht475 hvm475 hw475 hB475 hz475 hk475 hS => ?_)
        obtain ⟨go475, rfl⟩ : ∃ z, z = u475 := ⟨_, rfl⟩
        obtain ⟨hP1, hD1⟩ := hB475
        rw [ht475] at hP1
        try dsimp only at hw475
        obtain ⟨hr475, hw475⟩ := hw475
        subst hr475
        obtain ⟨hP, hD⟩ := va_join (wr := []) (w1 := [(qm, .inr (6, [.ref qz, .ref qa, .ref qe, .int (nI sts), .ref qs, .ref qv, .ref qp, .int (nI len), .int go475, .ref qn])), (qz, .inl (cI, 46, .inl z)), (qa, .inl (cI, 46, .inl as)), (qe, .inl (cI, 276, .inl be)), (qs, .inl (cI, 92, .inl sl)), (qv, .inl (cZ, 2, .inl sv)), (qp, .inl (cI, 60, .inl pd)), (qn, .inl (cI, 36, .inl nd))]) hP hD [0, 1, 2, 3, 4, 5, 6, 7] [] rfl rfl (by decide) (by decide) hk475 hFc hP1 hD1
        have hP : va_P G vwCl [(qm, .inr (6, [.ref qz, .ref qa, .ref qe, .int (nI sts), .ref qs, .ref qv, .ref qp, .int (nI len), .int go475, .ref qn])), (qz, .inl (cI, 46, .inl z)), (qa, .inl (cI, 46, .inl as)), (qe, .inl (cI, 276, .inl be)), (qs, .inl (cI, 92, .inl sl)), (qv, .inl (cZ, 2, .inl sv)), (qp, .inl (cI, 60, .inl pd)), (qn, .inl (cI, 36, .inl nd))] H475 := hP
        have hD : va_D A [(qm, .inr (6, [.ref qz, .ref qa, .ref qe, .int (nI sts), .ref qs, .ref qv, .ref qp, .int (nI len), .int go475, .ref qn])), (qz, .inl (cI, 46, .inl z)), (qa, .inl (cI, 46, .inl as)), (qe, .inl (cI, 276, .inl be)), (qs, .inl (cI, 92, .inl sl)), (qv, .inl (cZ, 2, .inl sv)), (qp, .inl (cI, 60, .inl pd)), (qn, .inl (cI, 36, .inl nd))] := hD
        refine lv_if_ne (tgt := 100) hx hb dX6_bestPiece_38 (by decide) (fun c_476 => ?_) (fun c_476 => ?_)
        · refine lv_iinc (v := nI (i + 1)) (lv' := [(3, .int (nI (i + 1))), (4, .int (nI ((3 * pl) + i))), (2, .int w), (1, .int f), (0, .ref qm)]) hx hb dX6_bestPiece_100 hl (k := 1) rfl (nI_inc i) (by decide) rfl (fun ls hl => ?_)
          refine lv_goto (tgt := 7) hx hb dX6_bestPiece_103 (by decide) ?_
          exact ih1 (i + 1) f w go475 (by omega) (by rw [bpT, ← hf2, if_neg (fun h => c_476 h.1)]) (by omega) H475 locs475 hP hD hS _ (lv_sub hl [0, 2, 3, 4] rfl)
        · refine lv_bipush (v := 100) hx hb dX6_bestPiece_41 (by decide) ?_
          refine lv_aload_n hx hb dX6_bestPiece_43 rfl (lv_at hl 4 rfl) ?_
          refine lv_iload hx hb dX6_bestPiece_44 (lv_at hl 0 rfl) ?_
          refine lv_aload_n hx hb dX6_bestPiece_46 rfl (lv_at hl 4 rfl) ?_
          refine va_get (D := G) (ci := 6) (v := .ref qz) (C := RX6) (T := TX6) (N := 10) hx hb hts inlX6 hown hK.1 hP 0 rfl rfl 0 (by decide) (hts _ wd78) (fun _ h9 => h9) rfl dX6_bestPiece_47 ?_
          refine lv_bipush (v := 41) hx hb dX6_bestPiece_50 (by decide) ?_
          refine za_ld hx hb hK.1 hP 1 0 rfl rfl 41 rfl (by decide) (by decide) dX6_bestPiece_52 ?_
          rw [h41]
          have hPc : va_P G vwCl [(qm, .inr (6, [.ref qz, .ref qa, .ref qe, .int (nI sts), .ref qs, .ref qv, .ref qp, .int (nI len), .int go475, .ref qn])), (qz, .inl (cI, 46, .inl z)), (qa, .inl (cI, 46, .inl as)), (qe, .inl (cI, 276, .inl be)), (qs, .inl (cI, 92, .inl sl)), (qv, .inl (cZ, 2, .inl sv)), (qp, .inl (cI, 60, .inl pd)), (qn, .inl (cI, 36, .inl nd))] H475 := hP
          have hDc := hD.tt
          have hFc := va_free (wc := [(qm, .inr (6, [.ref qz, .ref qa, .ref qe, .int (nI sts), .ref qs, .ref qv, .ref qp, .int (nI len), .int go475, .ref qn])), (qz, .inl (cI, 46, .inl z)), (qa, .inl (cI, 46, .inl as)), (qe, .inl (cI, 276, .inl be)), (qs, .inl (cI, 92, .inl sl)), (qv, .inl (cZ, 2, .inl sv)), (qp, .inl (cI, 60, .inl pd)), (qn, .inl (cI, 36, .inl nd))]) hD hS hA [0, 1, 2, 3, 4, 5, 6, 7] rfl
          refine va_calli (va_runV (As := [.int (nI ((3 * pl) + i)), .int (nI cn)]) (rest := [.int 100]) ⟨hx, hb, hml, hown, hts⟩ (c_X6_kindOf l G cI cC cZ cG H475.size qm qz qa qe qs qv qp qn z as be sl sv pd nd sts len go475 ((3 * pl) + i) cn hz (by omega) hc1 hc c_476) (cf_RX6_161 hts ⟨Nat.le_of_ble_eq_true rfl, Nat.le_of_ble_eq_true rfl⟩) (pre_V hK hPc hDc (ci := 6) (q0 := 0) rfl rfl) rfl rfl hl.1 rfl (lv_room (Nat.le_of_ble_eq_true rfl)) dX6_bestPiece_53 ⟨Nat.le_of_ble_eq_true rfl, Nat.le_of_ble_eq_true rfl⟩) hS (fun q _ h => hFc q h) hFc (fun r477 u477 t477 H477 locs477 ht477 hvm477 hw477 hB477 hz477 hk477 hS => ?_)
          obtain ⟨go477, rfl⟩ : ∃ z, z = u477 := ⟨_, rfl⟩
          obtain ⟨hP1, hD1⟩ := hB477
          rw [ht477] at hP1
          try dsimp only at hw477
          obtain ⟨hr477, hw477⟩ := hw477
          subst hr477
          obtain ⟨hP, hD⟩ := va_join (wr := []) (w1 := [(qm, .inr (6, [.ref qz, .ref qa, .ref qe, .int (nI sts), .ref qs, .ref qv, .ref qp, .int (nI len), .int go477, .ref qn])), (qz, .inl (cI, 46, .inl z)), (qa, .inl (cI, 46, .inl as)), (qe, .inl (cI, 276, .inl be)), (qs, .inl (cI, 92, .inl sl)), (qv, .inl (cZ, 2, .inl sv)), (qp, .inl (cI, 60, .inl pd)), (qn, .inl (cI, 36, .inl nd))]) hP hD [0, 1, 2, 3, 4, 5, 6, 7] [] rfl rfl (by decide) (by decide) hk477 hFc hP1 hD1
          have hP : va_P G vwCl [(qm, .inr (6, [.ref qz, .ref qa, .ref qe, .int (nI sts), .ref qs, .ref qv, .ref qp, .int (nI len), .int go477, .ref qn])), (qz, .inl (cI, 46, .inl z)), (qa, .inl (cI, 46, .inl as)), (qe, .inl (cI, 276, .inl be)), (qs, .inl (cI, 92, .inl sl)), (qv, .inl (cZ, 2, .inl sv)), (qp, .inl (cI, 60, .inl pd)), (qn, .inl (cI, 36, .inl nd))] H477 := hP
          have hD : va_D A [(qm, .inr (6, [.ref qz, .ref qa, .ref qe, .int (nI sts), .ref qs, .ref qv, .ref qp, .int (nI len), .int go477, .ref qn])), (qz, .inl (cI, 46, .inl z)), (qa, .inl (cI, 46, .inl as)), (qe, .inl (cI, 276, .inl be)), (qs, .inl (cI, 92, .inl sl)), (qv, .inl (cZ, 2, .inl sv)), (qp, .inl (cI, 60, .inl pd)), (qn, .inl (cI, 36, .inl nd))] := hD
          refine lv_imul hx hb dX6_bestPiece_56 ?_
          refine lv_aload_n hx hb dX6_bestPiece_57 rfl (lv_at hl 4 rfl) ?_
          refine va_get (D := G) (ci := 6) (v := .ref qz) (C := RX6) (T := TX6) (N := 10) hx hb hts inlX6 hown hK.1 hP 0 rfl rfl 0 (by decide) (hts _ wd78) (fun _ h9 => h9) rfl dX6_bestPiece_58 ?_
          refine lv_iload hx hb dX6_bestPiece_61 (lv_at hl 0 rfl) ?_
          refine za_ld hx hb hK.1 hP 1 0 rfl rfl ((3 * pl) + i) rfl (by omega) (by decide) dX6_bestPiece_63 ?_
          refine lv_bipush (v := (-6)) hx hb dX6_bestPiece_64 (by decide) ?_
          refine lv_icmp_ne (tgt := 73) hx hb dX6_bestPiece_66 (by decide) (fun c_478 => ?_) (fun c_478 => ?_)
          · refine lv_aload_n hx hb dX6_bestPiece_73 rfl (lv_at hl 4 rfl) ?_
            refine va_get (D := G) (ci := 6) (v := .ref qz) (C := RX6) (T := TX6) (N := 10) hx hb hts inlX6 hown hK.1 hP 0 rfl rfl 0 (by decide) (hts _ wd78) (fun _ h9 => h9) rfl dX6_bestPiece_74 ?_
            refine lv_iload hx hb dX6_bestPiece_77 (lv_at hl 0 rfl) ?_
            refine za_ld hx hb hK.1 hP 1 0 rfl rfl ((3 * pl) + i) rfl (by omega) (by decide) dX6_bestPiece_79 ?_
            refine lv_iconst (v := 1) hx hb dX6_bestPiece_80 (by decide) ?_
            refine lv_iadd hx hb dX6_bestPiece_81 ?_
            refine lv_iadd hx hb dX6_bestPiece_82 ?_
            refine lv_istore (lv' := [(5, .int ((100 * (kdM z ((3 * pl) + i) cn)) + ((z ((3 * pl) + i)) + 1))), (4, .int (nI ((3 * pl) + i))), (3, .int (nI i)), (2, .int w), (1, .int f), (0, .ref qm)]) hx hb dX6_bestPiece_83 hl (by decide) rfl (fun ls hl => ?_)
            refine lv_iload_n hx hb dX6_bestPiece_85 rfl (lv_at hl 4 rfl) ?_
            refine lv_if_lt (tgt := 95) hx hb dX6_bestPiece_86 (by decide) (fun c_479 => ?_) (fun c_479 => ?_)
            · refine lv_iload_n hx hb dX6_bestPiece_95 rfl (lv_at hl 2 rfl) ?_
              refine lv_istore_n (lv' := [(1, .int (nI i)), (5, .int ((100 * (kdM z ((3 * pl) + i) cn)) + ((z ((3 * pl) + i)) + 1))), (4, .int (nI ((3 * pl) + i))), (3, .int (nI i)), (2, .int w), (0, .ref qm)]) hx hb dX6_bestPiece_96 rfl hl (by decide) rfl (fun ls hl => ?_)
              refine lv_iload hx hb dX6_bestPiece_97 (lv_at hl 1 rfl) ?_
              refine lv_istore_n (lv' := [(2, .int ((100 * (kdM z ((3 * pl) + i) cn)) + ((z ((3 * pl) + i)) + 1))), (1, .int (nI i)), (5, .int ((100 * (kdM z ((3 * pl) + i) cn)) + ((z ((3 * pl) + i)) + 1))), (4, .int (nI ((3 * pl) + i))), (3, .int (nI i)), (0, .ref qm)]) hx hb dX6_bestPiece_99 rfl hl (by decide) rfl (fun ls hl => ?_)
              refine lv_iinc (v := nI (i + 1)) (lv' := [(3, .int (nI (i + 1))), (2, .int ((100 * (kdM z ((3 * pl) + i) cn)) + ((z ((3 * pl) + i)) + 1))), (1, .int (nI i)), (5, .int ((100 * (kdM z ((3 * pl) + i) cn)) + ((z ((3 * pl) + i)) + 1))), (4, .int (nI ((3 * pl) + i))), (0, .ref qm)]) hx hb dX6_bestPiece_100 hl (k := 4) rfl (nI_inc i) (by decide) rfl (fun ls hl => ?_)
              refine lv_goto (tgt := 7) hx hb dX6_bestPiece_103 (by decide) ?_
              exact ih1 (i + 1) (nI i) ((100 * (kdM z ((3 * pl) + i) cn)) + ((z ((3 * pl) + i)) + 1)) go477 (by omega) (by rw [bpT, ← hf2, (show rkM z (3 * pl + i) cn = (100 * (kdM z ((3 * pl) + i) cn)) + ((z ((3 * pl) + i)) + 1) by rw [rkM, if_neg c_478]), if_pos ⟨c_476, Or.inl c_479⟩]) (by omega) H477 locs477 hP hD hS _ (lv_sub hl [0, 1, 2, 5] rfl)
            · refine lv_iload hx hb dX6_bestPiece_89 (lv_at hl 0 rfl) ?_
              refine lv_iload_n hx hb dX6_bestPiece_91 rfl (lv_at hl 3 rfl) ?_
              refine lv_icmp_le (tgt := 100) hx hb dX6_bestPiece_92 (by decide) (fun c_480 => ?_) (fun c_480 => ?_)
              · refine lv_iinc (v := nI (i + 1)) (lv' := [(3, .int (nI (i + 1))), (5, .int ((100 * (kdM z ((3 * pl) + i) cn)) + ((z ((3 * pl) + i)) + 1))), (4, .int (nI ((3 * pl) + i))), (2, .int w), (1, .int f), (0, .ref qm)]) hx hb dX6_bestPiece_100 hl (k := 2) rfl (nI_inc i) (by decide) rfl (fun ls hl => ?_)
                refine lv_goto (tgt := 7) hx hb dX6_bestPiece_103 (by decide) ?_
                exact ih1 (i + 1) f w go477 (by omega) (by rw [bpT, ← hf2, (show rkM z (3 * pl + i) cn = (100 * (kdM z ((3 * pl) + i) cn)) + ((z ((3 * pl) + i)) + 1) by rw [rkM, if_neg c_478]), if_neg (fun h => h.2.elim c_479 (fun q => q c_480))]) (by omega) H477 locs477 hP hD hS _ (lv_sub hl [0, 3, 4, 5] rfl)
              · refine lv_iload_n hx hb dX6_bestPiece_95 rfl (lv_at hl 2 rfl) ?_
                refine lv_istore_n (lv' := [(1, .int (nI i)), (5, .int ((100 * (kdM z ((3 * pl) + i) cn)) + ((z ((3 * pl) + i)) + 1))), (4, .int (nI ((3 * pl) + i))), (3, .int (nI i)), (2, .int w), (0, .ref qm)]) hx hb dX6_bestPiece_96 rfl hl (by decide) rfl (fun ls hl => ?_)
                refine lv_iload hx hb dX6_bestPiece_97 (lv_at hl 1 rfl) ?_
                refine lv_istore_n (lv' := [(2, .int ((100 * (kdM z ((3 * pl) + i) cn)) + ((z ((3 * pl) + i)) + 1))), (1, .int (nI i)), (5, .int ((100 * (kdM z ((3 * pl) + i) cn)) + ((z ((3 * pl) + i)) + 1))), (4, .int (nI ((3 * pl) + i))), (3, .int (nI i)), (0, .ref qm)]) hx hb dX6_bestPiece_99 rfl hl (by decide) rfl (fun ls hl => ?_)
                refine lv_iinc (v := nI (i + 1)) (lv' := [(3, .int (nI (i + 1))), (2, .int ((100 * (kdM z ((3 * pl) + i) cn)) + ((z ((3 * pl) + i)) + 1))), (1, .int (nI i)), (5, .int ((100 * (kdM z ((3 * pl) + i) cn)) + ((z ((3 * pl) + i)) + 1))), (4, .int (nI ((3 * pl) + i))), (0, .ref qm)]) hx hb dX6_bestPiece_100 hl (k := 4) rfl (nI_inc i) (by decide) rfl (fun ls hl => ?_)
                refine lv_goto (tgt := 7) hx hb dX6_bestPiece_103 (by decide) ?_
                exact ih1 (i + 1) (nI i) ((100 * (kdM z ((3 * pl) + i) cn)) + ((z ((3 * pl) + i)) + 1)) go477 (by omega) (by rw [bpT, ← hf2, (show rkM z (3 * pl + i) cn = (100 * (kdM z ((3 * pl) + i) cn)) + ((z ((3 * pl) + i)) + 1) by rw [rkM, if_neg c_478]), if_pos ⟨c_476, Or.inr c_480⟩]) (by omega) H477 locs477 hP hD hS _ (lv_sub hl [0, 1, 2, 5] rfl)
          · refine lv_iconst (v := 0) hx hb dX6_bestPiece_69 (by decide) ?_
            refine lv_goto (tgt := 82) hx hb dX6_bestPiece_70 (by decide) ?_
            refine lv_iadd hx hb dX6_bestPiece_82 ?_
            refine lv_istore (lv' := [(5, .int ((100 * (kdM z ((3 * pl) + i) cn)) + 0)), (4, .int (nI ((3 * pl) + i))), (3, .int (nI i)), (2, .int w), (1, .int f), (0, .ref qm)]) hx hb dX6_bestPiece_83 hl (by decide) rfl (fun ls hl => ?_)
            refine lv_iload_n hx hb dX6_bestPiece_85 rfl (lv_at hl 4 rfl) ?_
            refine lv_if_lt (tgt := 95) hx hb dX6_bestPiece_86 (by decide) (fun c_481 => ?_) (fun c_481 => ?_)
            · refine lv_iload_n hx hb dX6_bestPiece_95 rfl (lv_at hl 2 rfl) ?_
              refine lv_istore_n (lv' := [(1, .int (nI i)), (5, .int ((100 * (kdM z ((3 * pl) + i) cn)) + 0)), (4, .int (nI ((3 * pl) + i))), (3, .int (nI i)), (2, .int w), (0, .ref qm)]) hx hb dX6_bestPiece_96 rfl hl (by decide) rfl (fun ls hl => ?_)
              refine lv_iload hx hb dX6_bestPiece_97 (lv_at hl 1 rfl) ?_
              refine lv_istore_n (lv' := [(2, .int ((100 * (kdM z ((3 * pl) + i) cn)) + 0)), (1, .int (nI i)), (5, .int ((100 * (kdM z ((3 * pl) + i) cn)) + 0)), (4, .int (nI ((3 * pl) + i))), (3, .int (nI i)), (0, .ref qm)]) hx hb dX6_bestPiece_99 rfl hl (by decide) rfl (fun ls hl => ?_)
              refine lv_iinc (v := nI (i + 1)) (lv' := [(3, .int (nI (i + 1))), (2, .int ((100 * (kdM z ((3 * pl) + i) cn)) + 0)), (1, .int (nI i)), (5, .int ((100 * (kdM z ((3 * pl) + i) cn)) + 0)), (4, .int (nI ((3 * pl) + i))), (0, .ref qm)]) hx hb dX6_bestPiece_100 hl (k := 4) rfl (nI_inc i) (by decide) rfl (fun ls hl => ?_)
              refine lv_goto (tgt := 7) hx hb dX6_bestPiece_103 (by decide) ?_
              exact ih1 (i + 1) (nI i) ((100 * (kdM z ((3 * pl) + i) cn)) + 0) go477 (by omega) (by rw [bpT, ← hf2, (show rkM z (3 * pl + i) cn = (100 * (kdM z ((3 * pl) + i) cn)) + 0 by rw [rkM, if_pos c_478]), if_pos ⟨c_476, Or.inl c_481⟩]) (by omega) H477 locs477 hP hD hS _ (lv_sub hl [0, 1, 2, 5] rfl)
            · refine lv_iload hx hb dX6_bestPiece_89 (lv_at hl 0 rfl) ?_
              refine lv_iload_n hx hb dX6_bestPiece_91 rfl (lv_at hl 3 rfl) ?_
              refine lv_icmp_le (tgt := 100) hx hb dX6_bestPiece_92 (by decide) (fun c_482 => ?_) (fun c_482 => ?_)
              · refine lv_iinc (v := nI (i + 1)) (lv' := [(3, .int (nI (i + 1))), (5, .int ((100 * (kdM z ((3 * pl) + i) cn)) + 0)), (4, .int (nI ((3 * pl) + i))), (2, .int w), (1, .int f), (0, .ref qm)]) hx hb dX6_bestPiece_100 hl (k := 2) rfl (nI_inc i) (by decide) rfl (fun ls hl => ?_)
                refine lv_goto (tgt := 7) hx hb dX6_bestPiece_103 (by decide) ?_
                exact ih1 (i + 1) f w go477 (by omega) (by rw [bpT, ← hf2, (show rkM z (3 * pl + i) cn = (100 * (kdM z ((3 * pl) + i) cn)) + 0 by rw [rkM, if_pos c_478]), if_neg (fun h => h.2.elim c_481 (fun q => q c_482))]) (by omega) H477 locs477 hP hD hS _ (lv_sub hl [0, 3, 4, 5] rfl)
              · refine lv_iload_n hx hb dX6_bestPiece_95 rfl (lv_at hl 2 rfl) ?_
                refine lv_istore_n (lv' := [(1, .int (nI i)), (5, .int ((100 * (kdM z ((3 * pl) + i) cn)) + 0)), (4, .int (nI ((3 * pl) + i))), (3, .int (nI i)), (2, .int w), (0, .ref qm)]) hx hb dX6_bestPiece_96 rfl hl (by decide) rfl (fun ls hl => ?_)
                refine lv_iload hx hb dX6_bestPiece_97 (lv_at hl 1 rfl) ?_
                refine lv_istore_n (lv' := [(2, .int ((100 * (kdM z ((3 * pl) + i) cn)) + 0)), (1, .int (nI i)), (5, .int ((100 * (kdM z ((3 * pl) + i) cn)) + 0)), (4, .int (nI ((3 * pl) + i))), (3, .int (nI i)), (0, .ref qm)]) hx hb dX6_bestPiece_99 rfl hl (by decide) rfl (fun ls hl => ?_)
                refine lv_iinc (v := nI (i + 1)) (lv' := [(3, .int (nI (i + 1))), (2, .int ((100 * (kdM z ((3 * pl) + i) cn)) + 0)), (1, .int (nI i)), (5, .int ((100 * (kdM z ((3 * pl) + i) cn)) + 0)), (4, .int (nI ((3 * pl) + i))), (0, .ref qm)]) hx hb dX6_bestPiece_100 hl (k := 4) rfl (nI_inc i) (by decide) rfl (fun ls hl => ?_)
                refine lv_goto (tgt := 7) hx hb dX6_bestPiece_103 (by decide) ?_
                exact ih1 (i + 1) (nI i) ((100 * (kdM z ((3 * pl) + i) cn)) + 0) go477 (by omega) (by rw [bpT, ← hf2, (show rkM z (3 * pl + i) cn = (100 * (kdM z ((3 * pl) + i) cn)) + 0 by rw [rkM, if_pos c_478]), if_pos ⟨c_476, Or.inr c_482⟩]) (by omega) H477 locs477 hP hD hS _ (lv_sub hl [0, 1, 2, 5] rfl)
  exact L1 4 0 (-6) 0 go (by decide) rfl (by decide) s.heap [] hP hD hS _ (lv_sub hl [0, 1, 2, 3] rfl)

abbrev rm_X6_doPlay : Room := { frames := 8, cells := 0, slots := 0, locals := 188 }
theorem cf_RX6_117 {R : Room} {s : State} {args : Array Value} (ht : ∀ w ∈ wsL_law, w.before args s = true) (hR : rm_X6_draw.frames + 1 ≤ R.frames ∧ 8 + (1 + 11) + rm_X6_draw.locals ≤ R.locals) : CallW R s args RX6 RX6 117 yX6_draw cX6_draw 1 (some .int) (.code yX6_draw cX6_draw 1 (some .int) :: wsL_law) rm_X6_draw 0 0 0 := ⟨cw_B 0 ht wd184 wd5 wd187 (by decide +kernel) rfl rfl hR, ht _ wd185, ht _ wd186⟩
theorem cf_RX6_120 {R : Room} {s : State} {args : Array Value} (ht : ∀ w ∈ wsL_law, w.before args s = true) (hR : rm_X6_doCast.frames + 1 ≤ R.frames ∧ 8 + (2 + 11) + rm_X6_doCast.locals ≤ R.locals) : CallW R s args RX6 RX6 120 yX6_doCast cX6_doCast 2 none (.code yX6_doCast cX6_doCast 2 none :: wsL_law) rm_X6_doCast 0 0 1 := ⟨cw_B 1 ht wd192 wd5 wd195 (by decide +kernel) rfl rfl hR, ht _ wd193, ht _ wd194⟩
theorem cf_RX6_134 {R : Room} {s : State} {args : Array Value} (ht : ∀ w ∈ wsL_law, w.before args s = true) (hR : rm_X6_bestPiece.frames + 1 ≤ R.frames ∧ 8 + (6 + 11) + rm_X6_bestPiece.locals ≤ R.locals) : CallW R s args RX6 RX6 134 yX6_bestPiece cX6_bestPiece 6 (some .int) (.code yX6_bestPiece cX6_bestPiece 6 (some .int) :: wsL_law) rm_X6_bestPiece 0 0 0 := ⟨cw_B 0 ht wd364 wd5 wd367 (by decide +kernel) rfl rfl hR, ht _ wd365, ht _ wd366⟩
theorem cf_RX6_128 {R : Room} {s : State} {args : Array Value} (ht : ∀ w ∈ wsL_law, w.before args s = true) (hR : rm_X6_goOn.frames + 1 ≤ R.frames ∧ 8 + (3 + 11) + rm_X6_goOn.locals ≤ R.locals) : CallW R s args RX6 RX6 128 yX6_goOn cX6_goOn 3 none (.code yX6_goOn cX6_goOn 3 none :: wsL_law) rm_X6_goOn 0 0 0 := ⟨cw_B 0 ht wd317 wd5 wd320 (by decide +kernel) rfl rfl hR, ht _ wd318, ht _ wd319⟩
theorem cf_RX6_124 {R : Room} {s : State} {args : Array Value} (ht : ∀ w ∈ wsL_law, w.before args s = true) (hR : rm_X6_doMove.frames + 1 ≤ R.frames ∧ 8 + (4 + 11) + rm_X6_doMove.locals ≤ R.locals) : CallW R s args RX6 RX6 124 yX6_doMove cX6_doMove 4 none (.code yX6_doMove cX6_doMove 4 none :: wsL_law) rm_X6_doMove 0 0 2 := ⟨cw_B 2 ht wd301 wd5 wd304 (by decide +kernel) rfl rfl hR, ht _ wd302, ht _ wd303⟩
set_option maxHeartbeats 1000000 in
set_option maxRecDepth 100000 in
theorem c_X6_doPlay (l : Launch) (G : va_G) (cI cC cZ cG : ClassId) (sz : Nat) (qm qz qa qe qs qv qp qn : Nat) (z as be sl sv pd nd : IA) (sts len : Nat) (go : Int32) (mo : Nat) (hz : okm z) (hmo : mo ≤ 400) : Met l yX6_doPlay (.code yX6_doPlay cX6_doPlay 4 (some .int) :: wsL_law) rm_X6_doPlay (va_Pc [.ref qm, .int (nI mo)] (bw G cI cC cZ cG false sz [(qm, .inr (6, [.ref qz, .ref qa, .ref qe, .int (nI sts), .ref qs, .ref qv, .ref qp, .int (nI len), .int go, .ref qn])), (qz, .inl (cI, 46, .inl z)), (qa, .inl (cI, 46, .inl as)), (qe, .inl (cI, 276, .inl be)), (qs, .inl (cI, 92, .inl sl)), (qv, .inl (cZ, 2, .inl sv)), (qp, .inl (cI, 60, .inl pd)), (qn, .inl (cI, 36, .inl nd))])) (va_Qi (fun (r : Int32) (u : IA × Int32) => r = nI ((pgM mo z).2) ∧ u.1 = (pgM mo z).1) (fun (u : IA × Int32) t => va_P G vwCl [(qm, .inr (6, [.ref qz, .ref qa, .ref qe, .int (nI sts), .ref qs, .ref qv, .ref qp, .int (nI len), .int u.2, .ref qn])), (qz, .inl (cI, 46, .inl u.1)), (qa, .inl (cI, 46, .inl as)), (qe, .inl (cI, 276, .inl be)), (qs, .inl (cI, 92, .inl sl)), (qv, .inl (cZ, 2, .inl sv)), (qp, .inl (cI, 60, .inl pd)), (qn, .inl (cI, 36, .inl nd))] t.heap ∧ va_D (va_A [(qm, .inr (6, [.ref qz, .ref qa, .ref qe, .int (nI sts), .ref qs, .ref qv, .ref qp, .int (nI len), .int go, .ref qn])), (qz, .inl (cI, 46, .inl z)), (qa, .inl (cI, 46, .inl as)), (qe, .inl (cI, 276, .inl be)), (qs, .inl (cI, 92, .inl sl)), (qv, .inl (cZ, 2, .inl sv)), (qp, .inl (cI, 60, .inl pd)), (qn, .inl (cI, 36, .inl nd))] sz) [(qm, .inr (6, [.ref qz, .ref qa, .ref qe, .int (nI sts), .ref qs, .ref qv, .ref qp, .int (nI len), .int u.2, .ref qn])), (qz, .inl (cI, 46, .inl u.1)), (qa, .inl (cI, 46, .inl as)), (qe, .inl (cI, 276, .inl be)), (qs, .inl (cI, 92, .inl sl)), (qv, .inl (cZ, 2, .inl sv)), (qp, .inl (cI, 60, .inl pd)), (qn, .inl (cI, 36, .inl nd))]) (va_A [(qm, .inr (6, [.ref qz, .ref qa, .ref qe, .int (nI sts), .ref qs, .ref qv, .ref qp, .int (nI len), .int go, .ref qn])), (qz, .inl (cI, 46, .inl z)), (qa, .inl (cI, 46, .inl as)), (qe, .inl (cI, 276, .inl be)), (qs, .inl (cI, 92, .inl sl)), (qv, .inl (cZ, 2, .inl sv)), (qp, .inl (cI, 60, .inl pd)), (qn, .inl (cI, 36, .inl nd))] sz)) 0 0 (va_A [(qm, .inr (6, [.ref qz, .ref qa, .ref qe, .int (nI sts), .ref qs, .ref qv, .ref qp, .int (nI len), .int go, .ref qn])), (qz, .inl (cI, 46, .inl z)), (qa, .inl (cI, 46, .inl as)), (qe, .inl (cI, 276, .inl be)), (qs, .inl (cI, 92, .inl sl)), (qv, .inl (cZ, 2, .inl sv)), (qp, .inl (cI, 60, .inl pd)), (qn, .inl (cI, 36, .inl nd))] sz) := by
  refine met_bw rfl (Nat.le_of_ble_eq_true rfl) ?_
  intro p e s m below meth c ls hx hb hr hml hown hts hlocks hin hsz hP hK hD0 hX0 hl
  have hown : s.vm.findClass RX6 = some m.cls := hown
  have hl : lv_has ls 4 [(0, .ref qm), (1, .int (nI mo))] := hl
  subst hsz
  have hD := hD0.self (sz := s.heap.size)
  generalize hAe : va_A [(qm, .inr (6, [.ref qz, .ref qa, .ref qe, .int (nI sts), .ref qs, .ref qv, .ref qp, .int (nI len), .int go, .ref qn])), (qz, .inl (cI, 46, .inl z)), (qa, .inl (cI, 46, .inl as)), (qe, .inl (cI, 276, .inl be)), (qs, .inl (cI, 92, .inl sl)), (qv, .inl (cZ, 2, .inl sv)), (qp, .inl (cI, 60, .inl pd)), (qn, .inl (cI, 36, .inl nd))] s.heap.size = A at hD ⊢
  have hA : ∀ q : Nat, s.heap.size ≤ q → A q := fun q h => by rw [← hAe]; exact Or.inr h
  have hS : va_S A s.heap s.heap [] := va_S.rf
  generalize hQ : MQ below (va_Qi (fun (r : Int32) (u : IA × Int32) => r = nI ((pgM mo z).2) ∧ u.1 = (pgM mo z).1) (fun (u : IA × Int32) t => va_P G vwCl [(qm, .inr (6, [.ref qz, .ref qa, .ref qe, .int (nI sts), .ref qs, .ref qv, .ref qp, .int (nI len), .int u.2, .ref qn])), (qz, .inl (cI, 46, .inl u.1)), (qa, .inl (cI, 46, .inl as)), (qe, .inl (cI, 276, .inl be)), (qs, .inl (cI, 92, .inl sl)), (qv, .inl (cZ, 2, .inl sv)), (qp, .inl (cI, 60, .inl pd)), (qn, .inl (cI, 36, .inl nd))] t.heap ∧ va_D A [(qm, .inr (6, [.ref qz, .ref qa, .ref qe, .int (nI sts), .ref qs, .ref qv, .ref qp, .int (nI len), .int u.2, .ref qn])), (qz, .inl (cI, 46, .inl u.1)), (qa, .inl (cI, 46, .inl as)), (qe, .inl (cI, 276, .inl be)), (qs, .inl (cI, 92, .inl sl)), (qv, .inl (cZ, 2, .inl sv)), (qp, .inl (cI, 60, .inl pd)), (qn, .inl (cI, 36, .inl nd))]) A) ([.ref qm, .int (nI mo)] : List Value).toArray s 0 0 A = Q
  generalize hag : ([.ref qm, .int (nI mo)] : List Value).toArray = ag at hts hQ ⊢
  refine lv_iconst (v := 0) hx hb dX6_doPlay_0 (by decide) ?_
  refine lv_istore_n (lv' := [(2, .int 0), (0, .ref qm), (1, .int (nI mo))]) hx hb dX6_doPlay_1 rfl hl (by decide) rfl (fun ls hl => ?_)
  have L1 : ∀ (n : Nat), ∀ (i : Nat), ∀ (zc : IA), ∀ (gc : Int32), ∀ (hk1 : ∀ k, k < 12 → okv (zc k)), ∀ (hk2 : ¬ zc 39 < 0), ∀ (hk3 : ∃ pl, pl < 4 ∧ zc 40 = nI pl), ∀ (hi : i ≤ mo), ∀ (hf2 : pgM mo z = ((pgM (mo - i) zc).1, (pgM (mo - i) zc).2 + i)), ∀ (hn : mo + 1 ≤ i + n), ∀ (H483 : Heap) (locs483 : List Loc), va_P G vwCl [(qm, .inr (6, [.ref qz, .ref qa, .ref qe, .int (nI sts), .ref qs, .ref qv, .ref qp, .int (nI len), .int gc, .ref qn])), (qz, .inl (cI, 46, .inl zc)), (qa, .inl (cI, 46, .inl as)), (qe, .inl (cI, 276, .inl be)), (qs, .inl (cI, 92, .inl sl)), (qv, .inl (cZ, 2, .inl sv)), (qp, .inl (cI, 60, .inl pd)), (qn, .inl (cI, 36, .inl nd))] H483 → va_D A [(qm, .inr (6, [.ref qz, .ref qa, .ref qe, .int (nI sts), .ref qs, .ref qv, .ref qp, .int (nI len), .int gc, .ref qn])), (qz, .inl (cI, 46, .inl zc)), (qa, .inl (cI, 46, .inl as)), (qe, .inl (cI, 276, .inl be)), (qs, .inl (cI, 92, .inl sl)), (qv, .inl (cZ, 2, .inl sv)), (qp, .inl (cI, 60, .inl pd)), (qn, .inl (cI, 36, .inl nd))] → va_S A s.heap H483 locs483 → ∀ (ls : Array Slot), lv_has ls 4 [(2, .int (nI i)), (0, .ref qm), (1, .int (nI mo))] → W p l e rm_X6_doPlay s m ag below meth c H483 locs483 0 0 Q (F0 m 2 ls []) := by
    intro n
    induction n with
    | zero =>
      intro i zc gc hk1 hk2 hk3 hi hf2 hn H483 locs483 hP hD hS ls hl
      omega
    | succ n ih1 =>
      intro i zc gc hk1 hk2 hk3 hi hf2 hn H483 locs483 hP hD hS ls hl
      obtain ⟨pl, hpl, h40⟩ := hk3
      refine lv_iload_n hx hb dX6_doPlay_2 rfl (lv_at hl 0 rfl) ?_
      refine lv_iload_n hx hb dX6_doPlay_3 rfl (lv_at hl 2 rfl) ?_
      refine zi_ge (tgt := 63) hx hb i mo dX6_doPlay_4 (by decide) rfl rfl (by omega) (by omega) (fun c_484 => ?_) (fun c_484 => ?_)
      · refine lv_iload_n hx hb dX6_doPlay_63 rfl (lv_at hl 0 rfl) ?_
        subst hQ
        exact W.iret (v := nI i) hx hb hr (fun t ht hW => ⟨⟨nI i, (zc, gc), rfl, ⟨(by rw [pgM_end (g := zc) (by first | exact Or.inl c_484 | exact Or.inr c_484) hi hf2]), (by rw [pgM_end (g := zc) (by first | exact Or.inl c_484 | exact Or.inr c_484) hi hf2])⟩, by rw [ht]; exact hP, hD⟩, hS.F ht⟩) hS.2.2 dX6_doPlay_64
      · refine lv_aload_n hx hb dX6_doPlay_7 rfl (lv_at hl 1 rfl) ?_
        have hPc : va_P G vwCl [(qm, .inr (6, [.ref qz, .ref qa, .ref qe, .int (nI sts), .ref qs, .ref qv, .ref qp, .int (nI len), .int gc, .ref qn])), (qz, .inl (cI, 46, .inl zc)), (qa, .inl (cI, 46, .inl as)), (qe, .inl (cI, 276, .inl be)), (qs, .inl (cI, 92, .inl sl)), (qv, .inl (cZ, 2, .inl sv)), (qp, .inl (cI, 60, .inl pd)), (qn, .inl (cI, 36, .inl nd))] H483 := hP
        have hDc := hD.tt
        refine vp_callSi (va_Run.run (va_runV (As := []) (rest := []) ⟨hx, hb, hml, hown, hts⟩ (c_X6_isOver l G cI cC cZ cG H483.size qm qz qa qe qs qv qp qn zc as be sl sv pd nd sts len gc) (cf_RX6_97 hts ⟨Nat.le_of_ble_eq_true rfl, Nat.le_of_ble_eq_true rfl⟩) (pre_V hK hPc hDc (ci := 6) (q0 := 0) rfl rfl) rfl rfl hl.1 rfl (lv_room (Nat.le_of_ble_eq_true rfl)) dX6_doPlay_8 ⟨Nat.le_of_ble_eq_true rfl, Nat.le_of_ble_eq_true rfl⟩)) (fun r485 hr485 => ?_)
        subst hr485
        refine zb_ne (tgt := 63) hx hb dX6_doPlay_11 (by decide) (fun c_486 => ?_) (fun c_486 => ?_)
        · refine lv_iload_n hx hb dX6_doPlay_63 rfl (lv_at hl 0 rfl) ?_
          subst hQ
          exact W.iret (v := nI i) hx hb hr (fun t ht hW => ⟨⟨nI i, (zc, gc), rfl, ⟨(by rw [pgM_end (g := zc) (by first | exact Or.inl c_486 | exact Or.inr c_486) hi hf2]), (by rw [pgM_end (g := zc) (by first | exact Or.inl c_486 | exact Or.inr c_486) hi hf2])⟩, by rw [ht]; exact hP, hD⟩, hS.F ht⟩) hS.2.2 dX6_doPlay_64
        · refine lv_aload_n hx hb dX6_doPlay_14 rfl (lv_at hl 1 rfl) ?_
          refine lv_aload_n hx hb dX6_doPlay_15 rfl (lv_at hl 1 rfl) ?_
          have hPc : va_P G vwCl [(qm, .inr (6, [.ref qz, .ref qa, .ref qe, .int (nI sts), .ref qs, .ref qv, .ref qp, .int (nI len), .int gc, .ref qn])), (qz, .inl (cI, 46, .inl zc)), (qa, .inl (cI, 46, .inl as)), (qe, .inl (cI, 276, .inl be)), (qs, .inl (cI, 92, .inl sl)), (qv, .inl (cZ, 2, .inl sv)), (qp, .inl (cI, 60, .inl pd)), (qn, .inl (cI, 36, .inl nd))] H483 := hP
          have hDc := hD.tt
          have hFc := va_free (wc := [(qm, .inr (6, [.ref qz, .ref qa, .ref qe, .int (nI sts), .ref qs, .ref qv, .ref qp, .int (nI len), .int gc, .ref qn])), (qz, .inl (cI, 46, .inl zc)), (qa, .inl (cI, 46, .inl as)), (qe, .inl (cI, 276, .inl be)), (qs, .inl (cI, 92, .inl sl)), (qv, .inl (cZ, 2, .inl sv)), (qp, .inl (cI, 60, .inl pd)), (qn, .inl (cI, 36, .inl nd))]) hD hS hA [0, 1, 2, 3, 4, 5, 6, 7] rfl
          refine va_calli (va_runV (As := []) (rest := [.ref qm]) ⟨hx, hb, hml, hown, hts⟩ (c_X6_draw l G cI cC cZ cG H483.size qm qz qa qe qs qv qp qn zc as be sl sv pd nd sts len gc) (cf_RX6_117 hts ⟨Nat.le_of_ble_eq_true rfl, Nat.le_of_ble_eq_true rfl⟩) (pre_V hK hPc hDc (ci := 6) (q0 := 0) rfl rfl) rfl rfl hl.1 rfl (lv_room (Nat.le_of_ble_eq_true rfl)) dX6_doPlay_16 ⟨Nat.le_of_ble_eq_true rfl, Nat.le_of_ble_eq_true rfl⟩) hS (fun q _ h => hFc q h) hFc (fun r487 u487 t487 H487 locs487 ht487 hvm487 hw487 hB487 hz487 hk487 hS => ?_)
          obtain ⟨q487, rfl⟩ : ∃ z, z = u487 := ⟨_, rfl⟩
          obtain ⟨hP1, hD1⟩ := hB487
          rw [ht487] at hP1
          try dsimp only at hw487
          obtain ⟨hr487, hw487⟩ := hw487
          subst hr487
          obtain ⟨hP, hD⟩ := va_join (wr := []) (w1 := [(qm, .inr (6, [.ref qz, .ref qa, .ref qe, .int (nI sts), .ref qs, .ref qv, .ref qp, .int (nI len), .int gc, .ref qn])), (qz, .inl (cI, 46, .inl (drM zc))), (qa, .inl (cI, 46, .inl as)), (qe, .inl (cI, 276, .inl be)), (qs, .inl (cI, 92, .inl sl)), (qv, .inl (cZ, 2, .inl sv)), (qp, .inl (cI, 60, .inl pd)), (qn, .inl (cI, 36, .inl nd))]) hP hD [0, 1, 2, 3, 4, 5, 6, 7] [] rfl rfl (by decide) (by decide) hk487 hFc hP1 hD1
          have hP : va_P G vwCl [(qm, .inr (6, [.ref qz, .ref qa, .ref qe, .int (nI sts), .ref qs, .ref qv, .ref qp, .int (nI len), .int gc, .ref qn])), (qz, .inl (cI, 46, .inl (drM zc))), (qa, .inl (cI, 46, .inl as)), (qe, .inl (cI, 276, .inl be)), (qs, .inl (cI, 92, .inl sl)), (qv, .inl (cZ, 2, .inl sv)), (qp, .inl (cI, 60, .inl pd)), (qn, .inl (cI, 36, .inl nd))] H487 := hP
          have hD : va_D A [(qm, .inr (6, [.ref qz, .ref qa, .ref qe, .int (nI sts), .ref qs, .ref qv, .ref qp, .int (nI len), .int gc, .ref qn])), (qz, .inl (cI, 46, .inl (drM zc))), (qa, .inl (cI, 46, .inl as)), (qe, .inl (cI, 276, .inl be)), (qs, .inl (cI, 92, .inl sl)), (qv, .inl (cZ, 2, .inl sv)), (qp, .inl (cI, 60, .inl pd)), (qn, .inl (cI, 36, .inl nd))] := hD
          have hPc : va_P G vwCl [(qm, .inr (6, [.ref qz, .ref qa, .ref qe, .int (nI sts), .ref qs, .ref qv, .ref qp, .int (nI len), .int gc, .ref qn])), (qz, .inl (cI, 46, .inl (drM zc))), (qa, .inl (cI, 46, .inl as)), (qe, .inl (cI, 276, .inl be)), (qs, .inl (cI, 92, .inl sl)), (qv, .inl (cZ, 2, .inl sv)), (qp, .inl (cI, 60, .inl pd)), (qn, .inl (cI, 36, .inl nd))] H487 := hP
          have hDc := hD.tt
          have hFc := va_free (wc := [(qm, .inr (6, [.ref qz, .ref qa, .ref qe, .int (nI sts), .ref qs, .ref qv, .ref qp, .int (nI len), .int gc, .ref qn])), (qz, .inl (cI, 46, .inl (drM zc))), (qa, .inl (cI, 46, .inl as)), (qe, .inl (cI, 276, .inl be)), (qs, .inl (cI, 92, .inl sl)), (qv, .inl (cZ, 2, .inl sv)), (qp, .inl (cI, 60, .inl pd)), (qn, .inl (cI, 36, .inl nd))]) hD hS hA [0, 1, 2, 3, 4, 5, 6, 7] rfl
          refine va_callv (va_runV (As := [.int (co (nx (zc 39)))]) (rest := []) ⟨hx, hb, hml, hown, hts⟩ (c_X6_doCast l G cI cC cZ cG H487.size qm qz qa qe qs qv qp qn (drM zc) as be sl sv pd nd sts len gc (co (nx (zc 39)))) (cf_RX6_120 hts ⟨Nat.le_of_ble_eq_true rfl, Nat.le_of_ble_eq_true rfl⟩) (pre_V hK hPc hDc (ci := 6) (q0 := 0) rfl rfl) rfl rfl hl.1 rfl (lv_room (Nat.le_of_ble_eq_true rfl)) dX6_doPlay_19 ⟨Nat.le_of_ble_eq_true rfl, Nat.le_of_ble_eq_true rfl⟩) hS (fun q _ h => hFc q h) hFc (fun u488 t488 H488 locs488 ht488 hvm488 hw488 hB488 hz488 hk488 hS => ?_)
          obtain ⟨q488, rfl⟩ : ∃ z, z = u488 := ⟨_, rfl⟩
          obtain ⟨hP1, hD1⟩ := hB488
          rw [ht488] at hP1
          try dsimp only at hw488
          obtain ⟨hP, hD⟩ := va_join (wr := []) (w1 := [(qm, .inr (6, [.ref qz, .ref qa, .ref qe, .int (nI sts), .ref qs, .ref qv, .ref qp, .int (nI len), .int gc, .ref qn])), (qz, .inl (cI, 46, .inl (dcM (drM zc) (co (nx (zc 39)))))), (qa, .inl (cI, 46, .inl as)), (qe, .inl (cI, 276, .inl be)), (qs, .inl (cI, 92, .inl sl)), (qv, .inl (cZ, 2, .inl sv)), (qp, .inl (cI, 60, .inl pd)), (qn, .inl (cI, 36, .inl nd))]) hP hD [0, 1, 2, 3, 4, 5, 6, 7] [] rfl rfl (by decide) (by decide) hk488 hFc hP1 hD1
          have hP : va_P G vwCl [(qm, .inr (6, [.ref qz, .ref qa, .ref qe, .int (nI sts), .ref qs, .ref qv, .ref qp, .int (nI len), .int gc, .ref qn])), (qz, .inl (cI, 46, .inl (dcM (drM zc) (co (nx (zc 39)))))), (qa, .inl (cI, 46, .inl as)), (qe, .inl (cI, 276, .inl be)), (qs, .inl (cI, 92, .inl sl)), (qv, .inl (cZ, 2, .inl sv)), (qp, .inl (cI, 60, .inl pd)), (qn, .inl (cI, 36, .inl nd))] H488 := hP
          have hD : va_D A [(qm, .inr (6, [.ref qz, .ref qa, .ref qe, .int (nI sts), .ref qs, .ref qv, .ref qp, .int (nI len), .int gc, .ref qn])), (qz, .inl (cI, 46, .inl (dcM (drM zc) (co (nx (zc 39)))))), (qa, .inl (cI, 46, .inl as)), (qe, .inl (cI, 276, .inl be)), (qs, .inl (cI, 92, .inl sl)), (qv, .inl (cZ, 2, .inl sv)), (qp, .inl (cI, 60, .inl pd)), (qn, .inl (cI, 36, .inl nd))] := hD
          have hP : va_P G vwCl [(qm, .inr (6, [.ref qz, .ref qa, .ref qe, .int (nI sts), .ref qs, .ref qv, .ref qp, .int (nI len), .int gc, .ref qn])), (qz, .inl (cI, 46, .inl (thM zc))), (qa, .inl (cI, 46, .inl as)), (qe, .inl (cI, 276, .inl be)), (qs, .inl (cI, 92, .inl sl)), (qv, .inl (cZ, 2, .inl sv)), (qp, .inl (cI, 60, .inl pd)), (qn, .inl (cI, 36, .inl nd))] H488 := hP
          have hD : va_D A [(qm, .inr (6, [.ref qz, .ref qa, .ref qe, .int (nI sts), .ref qs, .ref qv, .ref qp, .int (nI len), .int gc, .ref qn])), (qz, .inl (cI, 46, .inl (thM zc))), (qa, .inl (cI, 46, .inl as)), (qe, .inl (cI, 276, .inl be)), (qs, .inl (cI, 92, .inl sl)), (qv, .inl (cZ, 2, .inl sv)), (qp, .inl (cI, 60, .inl pd)), (qn, .inl (cI, 36, .inl nd))] := hD
          obtain ⟨cn, hc1, hc, ec⟩ := co_ok (nx_nn hk2)
          have t1 : ∀ k, k < 12 → okv (thM zc k) := fun k hk => by rw [thM_at (by omega) (by omega) (by omega)]; exact hk1 k hk
          have t40 : thM zc 40 = nI pl := by rw [thM_at (by omega) (by omega) (by omega)]; exact h40
          have t41 : thM zc 41 = nI cn := by rw [thM_41]; exact ec
          refine lv_aload_n hx hb dX6_doPlay_22 rfl (lv_at hl 1 rfl) ?_
          have hPc : va_P G vwCl [(qm, .inr (6, [.ref qz, .ref qa, .ref qe, .int (nI sts), .ref qs, .ref qv, .ref qp, .int (nI len), .int gc, .ref qn])), (qz, .inl (cI, 46, .inl (thM zc))), (qa, .inl (cI, 46, .inl as)), (qe, .inl (cI, 276, .inl be)), (qs, .inl (cI, 92, .inl sl)), (qv, .inl (cZ, 2, .inl sv)), (qp, .inl (cI, 60, .inl pd)), (qn, .inl (cI, 36, .inl nd))] H488 := hP
          have hDc := hD.tt
          have hFc := va_free (wc := [(qm, .inr (6, [.ref qz, .ref qa, .ref qe, .int (nI sts), .ref qs, .ref qv, .ref qp, .int (nI len), .int gc, .ref qn])), (qz, .inl (cI, 46, .inl (thM zc))), (qa, .inl (cI, 46, .inl as)), (qe, .inl (cI, 276, .inl be)), (qs, .inl (cI, 92, .inl sl)), (qv, .inl (cZ, 2, .inl sv)), (qp, .inl (cI, 60, .inl pd)), (qn, .inl (cI, 36, .inl nd))]) hD hS hA [0, 1, 2, 3, 4, 5, 6, 7] rfl
          refine va_calli (va_runV (As := []) (rest := []) ⟨hx, hb, hml, hown, hts⟩ (c_X6_bestPiece l G cI cC cZ cG H488.size qm qz qa qe qs qv qp qn (thM zc) as be sl sv pd nd sts len gc pl cn t1 hpl t40 t41 hc1 hc) (cf_RX6_134 hts ⟨Nat.le_of_ble_eq_true rfl, Nat.le_of_ble_eq_true rfl⟩) (pre_V hK hPc hDc (ci := 6) (q0 := 0) rfl rfl) rfl rfl hl.1 rfl (lv_room (Nat.le_of_ble_eq_true rfl)) dX6_doPlay_23 ⟨Nat.le_of_ble_eq_true rfl, Nat.le_of_ble_eq_true rfl⟩) hS (fun q _ h => hFc q h) hFc (fun r489 u489 t489 H489 locs489 ht489 hvm489 hw489 hB489 hz489 hk489 hS => ?_)
          obtain ⟨go489, rfl⟩ : ∃ z, z = u489 := ⟨_, rfl⟩
          obtain ⟨hP1, hD1⟩ := hB489
          rw [ht489] at hP1
          try dsimp only at hw489
          obtain ⟨hr489, hw489⟩ := hw489
          subst hr489
          obtain ⟨hP, hD⟩ := va_join (wr := []) (w1 := [(qm, .inr (6, [.ref qz, .ref qa, .ref qe, .int (nI sts), .ref qs, .ref qv, .ref qp, .int (nI len), .int go489, .ref qn])), (qz, .inl (cI, 46, .inl (thM zc))), (qa, .inl (cI, 46, .inl as)), (qe, .inl (cI, 276, .inl be)), (qs, .inl (cI, 92, .inl sl)), (qv, .inl (cZ, 2, .inl sv)), (qp, .inl (cI, 60, .inl pd)), (qn, .inl (cI, 36, .inl nd))]) hP hD [0, 1, 2, 3, 4, 5, 6, 7] [] rfl rfl (by decide) (by decide) hk489 hFc hP1 hD1
          have hP : va_P G vwCl [(qm, .inr (6, [.ref qz, .ref qa, .ref qe, .int (nI sts), .ref qs, .ref qv, .ref qp, .int (nI len), .int go489, .ref qn])), (qz, .inl (cI, 46, .inl (thM zc))), (qa, .inl (cI, 46, .inl as)), (qe, .inl (cI, 276, .inl be)), (qs, .inl (cI, 92, .inl sl)), (qv, .inl (cZ, 2, .inl sv)), (qp, .inl (cI, 60, .inl pd)), (qn, .inl (cI, 36, .inl nd))] H489 := hP
          have hD : va_D A [(qm, .inr (6, [.ref qz, .ref qa, .ref qe, .int (nI sts), .ref qs, .ref qv, .ref qp, .int (nI len), .int go489, .ref qn])), (qz, .inl (cI, 46, .inl (thM zc))), (qa, .inl (cI, 46, .inl as)), (qe, .inl (cI, 276, .inl be)), (qs, .inl (cI, 92, .inl sl)), (qv, .inl (cZ, 2, .inl sv)), (qp, .inl (cI, 60, .inl pd)), (qn, .inl (cI, 36, .inl nd))] := hD
          refine lv_istore_n (lv' := [(3, .int (bpM (thM zc) pl cn)), (2, .int (nI i)), (0, .ref qm), (1, .int (nI mo))]) hx hb dX6_doPlay_26 rfl hl (by decide) rfl (fun ls hl => ?_)
          refine lv_iload_n hx hb dX6_doPlay_27 rfl (lv_at hl 0 rfl) ?_
          refine lv_if_lt (tgt := 53) hx hb dX6_doPlay_28 (by decide) (fun c_490 => ?_) (fun c_490 => ?_)
          · refine lv_aload_n hx hb dX6_doPlay_53 rfl (lv_at hl 2 rfl) ?_
            have q40 := t40
            have hPc : va_P G vwCl [(qm, .inr (6, [.ref qz, .ref qa, .ref qe, .int (nI sts), .ref qs, .ref qv, .ref qp, .int (nI len), .int go489, .ref qn])), (qz, .inl (cI, 46, .inl (thM zc))), (qa, .inl (cI, 46, .inl as)), (qe, .inl (cI, 276, .inl be)), (qs, .inl (cI, 92, .inl sl)), (qv, .inl (cZ, 2, .inl sv)), (qp, .inl (cI, 60, .inl pd)), (qn, .inl (cI, 36, .inl nd))] H489 := hP
            have hDc := hD.tt
            have hFc := va_free (wc := [(qm, .inr (6, [.ref qz, .ref qa, .ref qe, .int (nI sts), .ref qs, .ref qv, .ref qp, .int (nI len), .int go489, .ref qn])), (qz, .inl (cI, 46, .inl (thM zc))), (qa, .inl (cI, 46, .inl as)), (qe, .inl (cI, 276, .inl be)), (qs, .inl (cI, 92, .inl sl)), (qv, .inl (cZ, 2, .inl sv)), (qp, .inl (cI, 60, .inl pd)), (qn, .inl (cI, 36, .inl nd))]) hD hS hA [0, 1, 2, 3, 4, 5, 6, 7] rfl
            refine va_callv (va_runV (As := []) (rest := []) ⟨hx, hb, hml, hown, hts⟩ (c_X6_goOn l G cI cC cZ cG H489.size qm qz qa qe qs qv qp qn (thM zc) as be sl sv pd nd sts len go489 pl hpl q40) (cf_RX6_128 hts ⟨Nat.le_of_ble_eq_true rfl, Nat.le_of_ble_eq_true rfl⟩) (pre_V hK hPc hDc (ci := 6) (q0 := 0) rfl rfl) rfl rfl hl.1 rfl (lv_room (Nat.le_of_ble_eq_true rfl)) dX6_doPlay_54 ⟨Nat.le_of_ble_eq_true rfl, Nat.le_of_ble_eq_true rfl⟩) hS (fun q _ h => hFc q h) hFc (fun u491 t491 H491 locs491 ht491 hvm491 hw491 hB491 hz491 hk491 hS => ?_)
            obtain ⟨z491, rfl⟩ : ∃ z, z = u491 := ⟨_, rfl⟩
            obtain ⟨hP1, hD1⟩ := hB491
            rw [ht491] at hP1
            try dsimp only at hw491
            obtain ⟨hP, hD⟩ := va_join (wr := []) (w1 := [(qm, .inr (6, [.ref qz, .ref qa, .ref qe, .int (nI sts), .ref qs, .ref qv, .ref qp, .int (nI len), .int go489, .ref qn])), (qz, .inl (cI, 46, .inl z491)), (qa, .inl (cI, 46, .inl as)), (qe, .inl (cI, 276, .inl be)), (qs, .inl (cI, 92, .inl sl)), (qv, .inl (cZ, 2, .inl sv)), (qp, .inl (cI, 60, .inl pd)), (qn, .inl (cI, 36, .inl nd))]) hP hD [0, 1, 2, 3, 4, 5, 6, 7] [] rfl rfl (by decide) (by decide) hk491 hFc hP1 hD1
            have hP : va_P G vwCl [(qm, .inr (6, [.ref qz, .ref qa, .ref qe, .int (nI sts), .ref qs, .ref qv, .ref qp, .int (nI len), .int go489, .ref qn])), (qz, .inl (cI, 46, .inl z491)), (qa, .inl (cI, 46, .inl as)), (qe, .inl (cI, 276, .inl be)), (qs, .inl (cI, 92, .inl sl)), (qv, .inl (cZ, 2, .inl sv)), (qp, .inl (cI, 60, .inl pd)), (qn, .inl (cI, 36, .inl nd))] H491 := hP
            have hD : va_D A [(qm, .inr (6, [.ref qz, .ref qa, .ref qe, .int (nI sts), .ref qs, .ref qv, .ref qp, .int (nI len), .int go489, .ref qn])), (qz, .inl (cI, 46, .inl z491)), (qa, .inl (cI, 46, .inl as)), (qe, .inl (cI, 276, .inl be)), (qs, .inl (cI, 92, .inl sl)), (qv, .inl (cZ, 2, .inl sv)), (qp, .inl (cI, 60, .inl pd)), (qn, .inl (cI, 36, .inl nd))] := hD
            refine lv_iinc (v := nI (i + 1)) (lv' := [(2, .int (nI (i + 1))), (3, .int (bpM (thM zc) pl cn)), (0, .ref qm), (1, .int (nI mo))]) hx hb dX6_doPlay_57 hl (k := 1) rfl (nI_inc i) (by decide) rfl (fun ls hl => ?_)
            refine lv_goto (tgt := 2) hx hb dX6_doPlay_60 (by decide) ?_
            have hone : z491 = oneM zc := by rw [hw491]; exact oneM_y hpl h40 hc ec c_490
            have hok : okm z491 := by rw [hone]; exact oneM_ok ⟨hk1, hk2, pl, hpl, h40⟩
            exact ih1 (i + 1) z491 go489 hok.1 hok.2.1 hok.2.2 (by omega) (pgM_step c_484 (Decidable.not_not.mp c_486) hone hf2) (by omega) H491 locs491 hP hD hS _ (lv_sub hl [0, 2, 3] rfl)
          · obtain ⟨j, hj, ebp, hw0⟩ := bpM_ok c_490
            rw [ebp] at hl
            refine lv_aload_n hx hb dX6_doPlay_31 rfl (lv_at hl 2 rfl) ?_
            refine lv_iconst (v := 3) hx hb dX6_doPlay_32 (by decide) ?_
            refine lv_aload_n hx hb dX6_doPlay_33 rfl (lv_at hl 2 rfl) ?_
            refine va_get (D := G) (ci := 6) (v := .ref qz) (C := RX6) (T := TX6) (N := 10) hx hb hts inlX6 hown hK.1 hP 0 rfl rfl 0 (by decide) (hts _ wd78) (fun _ h9 => h9) rfl dX6_doPlay_34 ?_
            refine lv_bipush (v := 40) hx hb dX6_doPlay_37 (by decide) ?_
            refine za_ld hx hb hK.1 hP 1 0 rfl rfl 40 rfl (by decide) (by decide) dX6_doPlay_39 ?_
            refine zi_mul hx hb 3 pl dX6_doPlay_40 rfl t40 ?_
            refine lv_iload_n hx hb dX6_doPlay_41 rfl (lv_at hl 0 rfl) ?_
            refine zi_add hx hb (3 * pl) j dX6_doPlay_42 rfl rfl ?_
            refine lv_aload_n hx hb dX6_doPlay_43 rfl (lv_at hl 2 rfl) ?_
            refine va_get (D := G) (ci := 6) (v := .ref qz) (C := RX6) (T := TX6) (N := 10) hx hb hts inlX6 hown hK.1 hP 0 rfl rfl 0 (by decide) (hts _ wd78) (fun _ h9 => h9) rfl dX6_doPlay_44 ?_
            refine lv_bipush (v := 41) hx hb dX6_doPlay_47 (by decide) ?_
            refine za_ld hx hb hK.1 hP 1 0 rfl rfl 41 rfl (by decide) (by decide) dX6_doPlay_49 ?_
            rw [t41]
            have hPc : va_P G vwCl [(qm, .inr (6, [.ref qz, .ref qa, .ref qe, .int (nI sts), .ref qs, .ref qv, .ref qp, .int (nI len), .int go489, .ref qn])), (qz, .inl (cI, 46, .inl (thM zc))), (qa, .inl (cI, 46, .inl as)), (qe, .inl (cI, 276, .inl be)), (qs, .inl (cI, 92, .inl sl)), (qv, .inl (cZ, 2, .inl sv)), (qp, .inl (cI, 60, .inl pd)), (qn, .inl (cI, 36, .inl nd))] H489 := hP
            have hDc := hD.tt
            have hFc := va_free (wc := [(qm, .inr (6, [.ref qz, .ref qa, .ref qe, .int (nI sts), .ref qs, .ref qv, .ref qp, .int (nI len), .int go489, .ref qn])), (qz, .inl (cI, 46, .inl (thM zc))), (qa, .inl (cI, 46, .inl as)), (qe, .inl (cI, 276, .inl be)), (qs, .inl (cI, 92, .inl sl)), (qv, .inl (cZ, 2, .inl sv)), (qp, .inl (cI, 60, .inl pd)), (qn, .inl (cI, 36, .inl nd))]) hD hS hA [0, 1, 2, 3, 4, 5, 6, 7] rfl
            refine va_callv (va_runV (As := [.int (nI ((3 * pl) + j)), .int (nI cn)]) (rest := []) ⟨hx, hb, hml, hown, hts⟩ (c_X6_doMove l G cI cC cZ cG H489.size qm qz qa qe qs qv qp qn (thM zc) as be sl sv pd nd sts len go489 ((3 * pl) + j) cn t1 (by omega) hc1 hc hw0) (cf_RX6_124 hts ⟨Nat.le_of_ble_eq_true rfl, Nat.le_of_ble_eq_true rfl⟩) (pre_V hK hPc hDc (ci := 6) (q0 := 0) rfl rfl) rfl rfl hl.1 rfl (lv_room (Nat.le_of_ble_eq_true rfl)) dX6_doPlay_50 ⟨Nat.le_of_ble_eq_true rfl, Nat.le_of_ble_eq_true rfl⟩) hS (fun q _ h => hFc q h) hFc (fun u492 t492 H492 locs492 ht492 hvm492 hw492 hB492 hz492 hk492 hS => ?_)
            obtain ⟨z492, go492⟩ := u492
            obtain ⟨hP1, hD1⟩ := hB492
            rw [ht492] at hP1
            try dsimp only at hw492
            obtain ⟨hP, hD⟩ := va_join (wr := []) (w1 := [(qm, .inr (6, [.ref qz, .ref qa, .ref qe, .int (nI sts), .ref qs, .ref qv, .ref qp, .int (nI len), .int go492, .ref qn])), (qz, .inl (cI, 46, .inl z492)), (qa, .inl (cI, 46, .inl as)), (qe, .inl (cI, 276, .inl be)), (qs, .inl (cI, 92, .inl sl)), (qv, .inl (cZ, 2, .inl sv)), (qp, .inl (cI, 60, .inl pd)), (qn, .inl (cI, 36, .inl nd))]) hP hD [0, 1, 2, 3, 4, 5, 6, 7] [] rfl rfl (by decide) (by decide) hk492 hFc hP1 hD1
            have hP : va_P G vwCl [(qm, .inr (6, [.ref qz, .ref qa, .ref qe, .int (nI sts), .ref qs, .ref qv, .ref qp, .int (nI len), .int go492, .ref qn])), (qz, .inl (cI, 46, .inl z492)), (qa, .inl (cI, 46, .inl as)), (qe, .inl (cI, 276, .inl be)), (qs, .inl (cI, 92, .inl sl)), (qv, .inl (cZ, 2, .inl sv)), (qp, .inl (cI, 60, .inl pd)), (qn, .inl (cI, 36, .inl nd))] H492 := hP
            have hD : va_D A [(qm, .inr (6, [.ref qz, .ref qa, .ref qe, .int (nI sts), .ref qs, .ref qv, .ref qp, .int (nI len), .int go492, .ref qn])), (qz, .inl (cI, 46, .inl z492)), (qa, .inl (cI, 46, .inl as)), (qe, .inl (cI, 276, .inl be)), (qs, .inl (cI, 92, .inl sl)), (qv, .inl (cZ, 2, .inl sv)), (qp, .inl (cI, 60, .inl pd)), (qn, .inl (cI, 36, .inl nd))] := hD
            refine lv_aload_n hx hb dX6_doPlay_53 rfl (lv_at hl 2 rfl) ?_
            have em493 : z492 = mv2 (thM zc) pl cn j := hw492
            have q40 : z492 40 = nI pl := by rw [em493, mv2, mvM_hi (by omega) (by omega) (by omega) (by omega)]; exact t40
            have hPc : va_P G vwCl [(qm, .inr (6, [.ref qz, .ref qa, .ref qe, .int (nI sts), .ref qs, .ref qv, .ref qp, .int (nI len), .int go492, .ref qn])), (qz, .inl (cI, 46, .inl z492)), (qa, .inl (cI, 46, .inl as)), (qe, .inl (cI, 276, .inl be)), (qs, .inl (cI, 92, .inl sl)), (qv, .inl (cZ, 2, .inl sv)), (qp, .inl (cI, 60, .inl pd)), (qn, .inl (cI, 36, .inl nd))] H492 := hP
            have hDc := hD.tt
            have hFc := va_free (wc := [(qm, .inr (6, [.ref qz, .ref qa, .ref qe, .int (nI sts), .ref qs, .ref qv, .ref qp, .int (nI len), .int go492, .ref qn])), (qz, .inl (cI, 46, .inl z492)), (qa, .inl (cI, 46, .inl as)), (qe, .inl (cI, 276, .inl be)), (qs, .inl (cI, 92, .inl sl)), (qv, .inl (cZ, 2, .inl sv)), (qp, .inl (cI, 60, .inl pd)), (qn, .inl (cI, 36, .inl nd))]) hD hS hA [0, 1, 2, 3, 4, 5, 6, 7] rfl
            refine va_callv (va_runV (As := []) (rest := []) ⟨hx, hb, hml, hown, hts⟩ (c_X6_goOn l G cI cC cZ cG H492.size qm qz qa qe qs qv qp qn z492 as be sl sv pd nd sts len go492 pl hpl q40) (cf_RX6_128 hts ⟨Nat.le_of_ble_eq_true rfl, Nat.le_of_ble_eq_true rfl⟩) (pre_V hK hPc hDc (ci := 6) (q0 := 0) rfl rfl) rfl rfl hl.1 rfl (lv_room (Nat.le_of_ble_eq_true rfl)) dX6_doPlay_54 ⟨Nat.le_of_ble_eq_true rfl, Nat.le_of_ble_eq_true rfl⟩) hS (fun q _ h => hFc q h) hFc (fun u494 t494 H494 locs494 ht494 hvm494 hw494 hB494 hz494 hk494 hS => ?_)
            obtain ⟨z494, rfl⟩ : ∃ z, z = u494 := ⟨_, rfl⟩
            obtain ⟨hP1, hD1⟩ := hB494
            rw [ht494] at hP1
            try dsimp only at hw494
            obtain ⟨hP, hD⟩ := va_join (wr := []) (w1 := [(qm, .inr (6, [.ref qz, .ref qa, .ref qe, .int (nI sts), .ref qs, .ref qv, .ref qp, .int (nI len), .int go492, .ref qn])), (qz, .inl (cI, 46, .inl z494)), (qa, .inl (cI, 46, .inl as)), (qe, .inl (cI, 276, .inl be)), (qs, .inl (cI, 92, .inl sl)), (qv, .inl (cZ, 2, .inl sv)), (qp, .inl (cI, 60, .inl pd)), (qn, .inl (cI, 36, .inl nd))]) hP hD [0, 1, 2, 3, 4, 5, 6, 7] [] rfl rfl (by decide) (by decide) hk494 hFc hP1 hD1
            have hP : va_P G vwCl [(qm, .inr (6, [.ref qz, .ref qa, .ref qe, .int (nI sts), .ref qs, .ref qv, .ref qp, .int (nI len), .int go492, .ref qn])), (qz, .inl (cI, 46, .inl z494)), (qa, .inl (cI, 46, .inl as)), (qe, .inl (cI, 276, .inl be)), (qs, .inl (cI, 92, .inl sl)), (qv, .inl (cZ, 2, .inl sv)), (qp, .inl (cI, 60, .inl pd)), (qn, .inl (cI, 36, .inl nd))] H494 := hP
            have hD : va_D A [(qm, .inr (6, [.ref qz, .ref qa, .ref qe, .int (nI sts), .ref qs, .ref qv, .ref qp, .int (nI len), .int go492, .ref qn])), (qz, .inl (cI, 46, .inl z494)), (qa, .inl (cI, 46, .inl as)), (qe, .inl (cI, 276, .inl be)), (qs, .inl (cI, 92, .inl sl)), (qv, .inl (cZ, 2, .inl sv)), (qp, .inl (cI, 60, .inl pd)), (qn, .inl (cI, 36, .inl nd))] := hD
            refine lv_iinc (v := nI (i + 1)) (lv' := [(2, .int (nI (i + 1))), (3, .int (nI j)), (0, .ref qm), (1, .int (nI mo))]) hx hb dX6_doPlay_57 hl (k := 1) rfl (nI_inc i) (by decide) rfl (fun ls hl => ?_)
            refine lv_goto (tgt := 2) hx hb dX6_doPlay_60 (by decide) ?_
            have hone : z494 = oneM zc := by rw [hw494, em493]; exact oneM_m hpl h40 hc ec hj ebp
            have hok : okm z494 := by rw [hone]; exact oneM_ok ⟨hk1, hk2, pl, hpl, h40⟩
            exact ih1 (i + 1) z494 go492 hok.1 hok.2.1 hok.2.2 (by omega) (pgM_step c_484 (Decidable.not_not.mp c_486) hone hf2) (by omega) H494 locs494 hP hD hS _ (lv_sub hl [0, 2, 3] rfl)
  exact L1 (mo + 1) 0 z go hz.1 hz.2.1 hz.2.2 (by omega) rfl (by omega) s.heap [] hP hD hS _ (lv_sub hl [0, 1, 2] rfl)
