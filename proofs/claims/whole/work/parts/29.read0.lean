abbrev rm_X6_read : Room := { frames := 7, cells := 0, slots := 0, locals := 161 }
set_option maxHeartbeats 1000000 in
set_option maxRecDepth 100000 in
theorem c_X6_read (l : Launch) (G : va_G) (cI cC cZ cG : ClassId) (sz : Nat) (qm qz qa qe qs qv qp qn : Nat) (z as be sl sv pd nd : IA) (sts len : Nat) (go : Int32) (pl : Nat) (hz : ∀ k, k < 12 → okv (z k)) (hx0 : ¬ z 39 < 0) (hpl : pl < 4) (h40 : z 40 = nI pl) (h4c : okc (z 41)) (hst : sts ≤ 6) (hln : len ≤ 60) : Met l yX6_read (.code yX6_read cX6_read 6 (some .int) :: wsL_law) rm_X6_read (va_Pc [.ref qm] (bw G cI cC cZ cG false sz [(qm, .inr (6, [.ref qz, .ref qa, .ref qe, .int (nI sts), .ref qs, .ref qv, .ref qp, .int (nI len), .int go, .ref qn])), (qz, .inl (cI, 46, .inl z)), (qa, .inl (cI, 46, .inl as)), (qe, .inl (cI, 276, .inl be)), (qs, .inl (cI, 92, .inl sl)), (qv, .inl (cZ, 2, .inl sv)), (qp, .inl (cI, 60, .inl pd)), (qn, .inl (cI, 36, .inl nd))])) (va_Qi (fun (r : Int32) (u : MS) => r = (m_read (z, be, sts, sl, sv, pd, len)).1 ∧ cor u = (m_read (z, be, sts, sl, sv, pd, len)).2) (fun (u : MS) t => va_P G vwCl [(qm, .inr (6, [.ref qz, .ref qa, .ref qe, .int (nI u.2.2.1), .ref qs, .ref qv, .ref qp, .int (nI u.2.2.2.2.2.2.1), .int u.2.2.2.2.2.2.2.2.1, .ref qn])), (qz, .inl (cI, 46, .inl u.1)), (qa, .inl (cI, 46, .inl u.2.2.2.2.2.2.2.1)), (qe, .inl (cI, 276, .inl u.2.1)), (qs, .inl (cI, 92, .inl u.2.2.2.1)), (qv, .inl (cZ, 2, .inl u.2.2.2.2.1)), (qp, .inl (cI, 60, .inl u.2.2.2.2.2.1)), (qn, .inl (cI, 36, .inl u.2.2.2.2.2.2.2.2.2))] t.heap ∧ va_D (va_A [(qm, .inr (6, [.ref qz, .ref qa, .ref qe, .int (nI sts), .ref qs, .ref qv, .ref qp, .int (nI len), .int go, .ref qn])), (qz, .inl (cI, 46, .inl z)), (qa, .inl (cI, 46, .inl as)), (qe, .inl (cI, 276, .inl be)), (qs, .inl (cI, 92, .inl sl)), (qv, .inl (cZ, 2, .inl sv)), (qp, .inl (cI, 60, .inl pd)), (qn, .inl (cI, 36, .inl nd))] sz) [(qm, .inr (6, [.ref qz, .ref qa, .ref qe, .int (nI u.2.2.1), .ref qs, .ref qv, .ref qp, .int (nI u.2.2.2.2.2.2.1), .int u.2.2.2.2.2.2.2.2.1, .ref qn])), (qz, .inl (cI, 46, .inl u.1)), (qa, .inl (cI, 46, .inl u.2.2.2.2.2.2.2.1)), (qe, .inl (cI, 276, .inl u.2.1)), (qs, .inl (cI, 92, .inl u.2.2.2.1)), (qv, .inl (cZ, 2, .inl u.2.2.2.2.1)), (qp, .inl (cI, 60, .inl u.2.2.2.2.2.1)), (qn, .inl (cI, 36, .inl u.2.2.2.2.2.2.2.2.2))]) (va_A [(qm, .inr (6, [.ref qz, .ref qa, .ref qe, .int (nI sts), .ref qs, .ref qv, .ref qp, .int (nI len), .int go, .ref qn])), (qz, .inl (cI, 46, .inl z)), (qa, .inl (cI, 46, .inl as)), (qe, .inl (cI, 276, .inl be)), (qs, .inl (cI, 92, .inl sl)), (qv, .inl (cZ, 2, .inl sv)), (qp, .inl (cI, 60, .inl pd)), (qn, .inl (cI, 36, .inl nd))] sz)) 0 0 (va_A [(qm, .inr (6, [.ref qz, .ref qa, .ref qe, .int (nI sts), .ref qs, .ref qv, .ref qp, .int (nI len), .int go, .ref qn])), (qz, .inl (cI, 46, .inl z)), (qa, .inl (cI, 46, .inl as)), (qe, .inl (cI, 276, .inl be)), (qs, .inl (cI, 92, .inl sl)), (qv, .inl (cZ, 2, .inl sv)), (qp, .inl (cI, 60, .inl pd)), (qn, .inl (cI, 36, .inl nd))] sz) := by
  refine met_bw rfl (Nat.le_of_ble_eq_true rfl) ?_
  intro p e s m below meth c ls hx hb hr hml hown hts hlocks hin hsz hP hK hD0 hX0 hl
  have hown : s.vm.findClass RX6 = some m.cls := hown
  have hl : lv_has ls 6 [(0, .ref qm)] := hl
  subst hsz
  have hD := hD0.self (sz := s.heap.size)
  generalize hAe : va_A [(qm, .inr (6, [.ref qz, .ref qa, .ref qe, .int (nI sts), .ref qs, .ref qv, .ref qp, .int (nI len), .int go, .ref qn])), (qz, .inl (cI, 46, .inl z)), (qa, .inl (cI, 46, .inl as)), (qe, .inl (cI, 276, .inl be)), (qs, .inl (cI, 92, .inl sl)), (qv, .inl (cZ, 2, .inl sv)), (qp, .inl (cI, 60, .inl pd)), (qn, .inl (cI, 36, .inl nd))] s.heap.size = A at hD ⊢
  have hA : ∀ q : Nat, s.heap.size ≤ q → A q := fun q h => by rw [← hAe]; exact Or.inr h
  have hS : va_S A s.heap s.heap [] := va_S.rf
  generalize hQ : MQ below (va_Qi (fun (r : Int32) (u : MS) => r = (m_read (z, be, sts, sl, sv, pd, len)).1 ∧ cor u = (m_read (z, be, sts, sl, sv, pd, len)).2) (fun (u : MS) t => va_P G vwCl [(qm, .inr (6, [.ref qz, .ref qa, .ref qe, .int (nI u.2.2.1), .ref qs, .ref qv, .ref qp, .int (nI u.2.2.2.2.2.2.1), .int u.2.2.2.2.2.2.2.2.1, .ref qn])), (qz, .inl (cI, 46, .inl u.1)), (qa, .inl (cI, 46, .inl u.2.2.2.2.2.2.2.1)), (qe, .inl (cI, 276, .inl u.2.1)), (qs, .inl (cI, 92, .inl u.2.2.2.1)), (qv, .inl (cZ, 2, .inl u.2.2.2.2.1)), (qp, .inl (cI, 60, .inl u.2.2.2.2.2.1)), (qn, .inl (cI, 36, .inl u.2.2.2.2.2.2.2.2.2))] t.heap ∧ va_D A [(qm, .inr (6, [.ref qz, .ref qa, .ref qe, .int (nI u.2.2.1), .ref qs, .ref qv, .ref qp, .int (nI u.2.2.2.2.2.2.1), .int u.2.2.2.2.2.2.2.2.1, .ref qn])), (qz, .inl (cI, 46, .inl u.1)), (qa, .inl (cI, 46, .inl u.2.2.2.2.2.2.2.1)), (qe, .inl (cI, 276, .inl u.2.1)), (qs, .inl (cI, 92, .inl u.2.2.2.1)), (qv, .inl (cZ, 2, .inl u.2.2.2.2.1)), (qp, .inl (cI, 60, .inl u.2.2.2.2.2.1)), (qn, .inl (cI, 36, .inl u.2.2.2.2.2.2.2.2.2))]) A) ([.ref qm] : List Value).toArray s 0 0 A = Q
  generalize hag : ([.ref qm] : List Value).toArray = ag at hts hQ ⊢
  refine lv_aload_n hx hb dX6_read_0 rfl (lv_at hl 0 rfl) ?_
  have hPc : va_P G vwCl [(qm, .inr (6, [.ref qz, .ref qa, .ref qe, .int (nI sts), .ref qs, .ref qv, .ref qp, .int (nI len), .int go, .ref qn])), (qz, .inl (cI, 46, .inl z)), (qa, .inl (cI, 46, .inl as)), (qe, .inl (cI, 276, .inl be)), (qs, .inl (cI, 92, .inl sl)), (qv, .inl (cZ, 2, .inl sv)), (qp, .inl (cI, 60, .inl pd)), (qn, .inl (cI, 36, .inl nd))] s.heap := hP
  have hDc := hD.tt
  refine vp_callSi (va_Run.run (va_runV (As := []) (rest := []) ⟨hx, hb, hml, hown, hts⟩ (c_X6_findFault l G cI cC cZ cG s.heap.size qm qz qa qe qs qv qp qn z as be sl sv pd nd sts len go hln) (cf_RX6_140 hts ⟨Nat.le_of_ble_eq_true rfl, Nat.le_of_ble_eq_true rfl⟩) (pre_V hK hPc hDc (ci := 6) (q0 := 0) rfl rfl) rfl rfl hl.1 rfl (lv_room (Nat.le_of_ble_eq_true rfl)) dX6_read_1 ⟨Nat.le_of_ble_eq_true rfl, Nat.le_of_ble_eq_true rfl⟩)) (fun r761 hr761 => ?_)
  subst hr761
  refine lv_if_lt (tgt := 10) hx hb dX6_read_4 (by decide) (fun c_762 => ?_) (fun c_762 => ?_)
  · have hff : ffM pd len < 0 := c_762
    have hev := (ffM_ok hln hff).1
    refine lv_aload_n hx hb dX6_read_10 rfl (lv_at hl 0 rfl) ?_
    have hPc : va_P G vwCl [(qm, .inr (6, [.ref qz, .ref qa, .ref qe, .int (nI sts), .ref qs, .ref qv, .ref qp, .int (nI len), .int go, .ref qn])), (qz, .inl (cI, 46, .inl z)), (qa, .inl (cI, 46, .inl as)), (qe, .inl (cI, 276, .inl be)), (qs, .inl (cI, 92, .inl sl)), (qv, .inl (cZ, 2, .inl sv)), (qp, .inl (cI, 60, .inl pd)), (qn, .inl (cI, 36, .inl nd))] s.heap := hP
    have hDc := hD.tt
    refine vp_callSi (va_Run.run (va_runV (As := []) (rest := []) ⟨hx, hb, hml, hown, hts⟩ (c_X6_hasCast l G cI cC cZ cG s.heap.size qm qz qa qe qs qv qp qn z as be sl sv pd nd sts len go) (cf_RX6_114 hts ⟨Nat.le_of_ble_eq_true rfl, Nat.le_of_ble_eq_true rfl⟩) (pre_V hK hPc hDc (ci := 6) (q0 := 0) rfl rfl) rfl rfl hl.1 rfl (lv_room (Nat.le_of_ble_eq_true rfl)) dX6_read_11 ⟨Nat.le_of_ble_eq_true rfl, Nat.le_of_ble_eq_true rfl⟩)) (fun r763 hr763 => ?_)
    subst hr763
    refine zb_eq (tgt := 20) hx hb dX6_read_14 (by decide) (fun c_764 => ?_) (fun c_764 => ?_)
    · refine lv_aload_n hx hb dX6_read_20 rfl (lv_at hl 0 rfl) ?_
      have hPc : va_P G vwCl [(qm, .inr (6, [.ref qz, .ref qa, .ref qe, .int (nI sts), .ref qs, .ref qv, .ref qp, .int (nI len), .int go, .ref qn])), (qz, .inl (cI, 46, .inl z)), (qa, .inl (cI, 46, .inl as)), (qe, .inl (cI, 276, .inl be)), (qs, .inl (cI, 92, .inl sl)), (qv, .inl (cZ, 2, .inl sv)), (qp, .inl (cI, 60, .inl pd)), (qn, .inl (cI, 36, .inl nd))] s.heap := hP
      have hDc := hD.tt
      have hFc := va_free (wc := [(qm, .inr (6, [.ref qz, .ref qa, .ref qe, .int (nI sts), .ref qs, .ref qv, .ref qp, .int (nI len), .int go, .ref qn])), (qz, .inl (cI, 46, .inl z)), (qa, .inl (cI, 46, .inl as)), (qe, .inl (cI, 276, .inl be)), (qs, .inl (cI, 92, .inl sl)), (qv, .inl (cZ, 2, .inl sv)), (qp, .inl (cI, 60, .inl pd)), (qn, .inl (cI, 36, .inl nd))]) hD hS hA [0, 1, 2, 3, 4, 5, 6, 7] rfl
      refine va_callv (va_runV (As := []) (rest := []) ⟨hx, hb, hml, hown, hts⟩ (c_X6_record l G cI cC cZ cG s.heap.size qm qz qa qe qs qv qp qn z as be sl sv pd nd sts len go hst) (cf_RX6_68 hts ⟨Nat.le_of_ble_eq_true rfl, Nat.le_of_ble_eq_true rfl⟩) (pre_V hK hPc hDc (ci := 6) (q0 := 0) rfl rfl) rfl rfl hl.1 rfl (lv_room (Nat.le_of_ble_eq_true rfl)) dX6_read_21 ⟨Nat.le_of_ble_eq_true rfl, Nat.le_of_ble_eq_true rfl⟩) hS (fun q _ h => hFc q h) hFc (fun u765 t765 H765 locs765 ht765 hvm765 hw765 hB765 hz765 hk765 hS => ?_)
      obtain ⟨q765, rfl⟩ : ∃ z, z = u765 := ⟨_, rfl⟩
      obtain ⟨hP1, hD1⟩ := hB765
      rw [ht765] at hP1
      try dsimp only at hw765
      obtain ⟨hP, hD⟩ := va_join (wr := []) (w1 := [(qm, .inr (6, [.ref qz, .ref qa, .ref qe, .int (nI (rcN sts)), .ref qs, .ref qv, .ref qp, .int (nI len), .int go, .ref qn])), (qz, .inl (cI, 46, .inl z)), (qa, .inl (cI, 46, .inl as)), (qe, .inl (cI, 276, .inl (rcB be z sts))), (qs, .inl (cI, 92, .inl sl)), (qv, .inl (cZ, 2, .inl sv)), (qp, .inl (cI, 60, .inl pd)), (qn, .inl (cI, 36, .inl nd))]) hP hD [0, 1, 2, 3, 4, 5, 6, 7] [] rfl rfl (by decide) (by decide) hk765 hFc hP1 hD1
      have hP : va_P G vwCl [(qm, .inr (6, [.ref qz, .ref qa, .ref qe, .int (nI (rcN sts)), .ref qs, .ref qv, .ref qp, .int (nI len), .int go, .ref qn])), (qz, .inl (cI, 46, .inl z)), (qa, .inl (cI, 46, .inl as)), (qe, .inl (cI, 276, .inl (rcB be z sts))), (qs, .inl (cI, 92, .inl sl)), (qv, .inl (cZ, 2, .inl sv)), (qp, .inl (cI, 60, .inl pd)), (qn, .inl (cI, 36, .inl nd))] H765 := hP
      have hD : va_D A [(qm, .inr (6, [.ref qz, .ref qa, .ref qe, .int (nI (rcN sts)), .ref qs, .ref qv, .ref qp, .int (nI len), .int go, .ref qn])), (qz, .inl (cI, 46, .inl z)), (qa, .inl (cI, 46, .inl as)), (qe, .inl (cI, 276, .inl (rcB be z sts))), (qs, .inl (cI, 92, .inl sl)), (qv, .inl (cZ, 2, .inl sv)), (qp, .inl (cI, 60, .inl pd)), (qn, .inl (cI, 36, .inl nd))] := hD
      refine lv_iconst (v := 0) hx hb dX6_read_24 (by decide) ?_
      refine lv_istore_n (lv' := [(1, .int 0), (0, .ref qm)]) hx hb dX6_read_25 rfl hl (by decide) rfl (fun ls hl => ?_)
      refine lv_iconst (v := 1) hx hb dX6_read_26 (by decide) ?_
      refine lv_istore_n (lv' := [(2, .int 1), (1, .int 0), (0, .ref qm)]) hx hb dX6_read_27 rfl hl (by decide) rfl (fun ls hl => ?_)
      refine lv_iconst (v := 0) hx hb dX6_read_28 (by decide) ?_
      refine lv_istore_n (lv' := [(3, .int 0), (2, .int 1), (1, .int 0), (0, .ref qm)]) hx hb dX6_read_29 rfl hl (by decide) rfl (fun ls hl => ?_)
      have L1 : ∀ (n : Nat), ∀ (t0 : Nat), ∀ (dn : Nat), ∀ (b0 : Bool), ∀ (zc : IA), ∀ (gc : Int32), ∀ (hm : okm zc), ∀ (ht0 : 2 * t0 ≤ len), ∀ (hdn : dn ≤ t0), ∀ (hf2 : (zc, dn, b0) = rdS pd z t0), ∀ (hn : len / 2 + 1 ≤ t0 + n), ∀ (H766 : Heap) (locs766 : List Loc), va_P G vwCl [(qm, .inr (6, [.ref qz, .ref qa, .ref qe, .int (nI (rcN sts)), .ref qs, .ref qv, .ref qp, .int (nI len), .int gc, .ref qn])), (qz, .inl (cI, 46, .inl zc)), (qa, .inl (cI, 46, .inl as)), (qe, .inl (cI, 276, .inl (rcB be z sts))), (qs, .inl (cI, 92, .inl sl)), (qv, .inl (cZ, 2, .inl sv)), (qp, .inl (cI, 60, .inl pd)), (qn, .inl (cI, 36, .inl nd))] H766 → va_D A [(qm, .inr (6, [.ref qz, .ref qa, .ref qe, .int (nI (rcN sts)), .ref qs, .ref qv, .ref qp, .int (nI len), .int gc, .ref qn])), (qz, .inl (cI, 46, .inl zc)), (qa, .inl (cI, 46, .inl as)), (qe, .inl (cI, 276, .inl (rcB be z sts))), (qs, .inl (cI, 92, .inl sl)), (qv, .inl (cZ, 2, .inl sv)), (qp, .inl (cI, 60, .inl pd)), (qn, .inl (cI, 36, .inl nd))] → va_S A s.heap H766 locs766 → ∀ (ls : Array Slot), lv_has ls 6 [(3, .int (nI (2 * t0))), (2, .int (bz (b0 = true))), (1, .int (nI dn)), (0, .ref qm)] → W p l e rm_X6_read s m ag below meth c H766 locs766 0 0 Q (F0 m 30 ls []) := by
        intro n
        induction n with
        | zero =>
          intro t0 dn b0 zc gc hm ht0 hdn hf2 hn H766 locs766 hP hD hS ls hl
          omega
        | succ n ih1 =>
          intro t0 dn b0 zc gc hm ht0 hdn hf2 hn H766 locs766 hP hD hS ls hl
          refine lv_iload_n hx hb dX6_read_30 rfl (lv_at hl 0 rfl) ?_
          refine lv_aload_n hx hb dX6_read_31 rfl (lv_at hl 3 rfl) ?_
          refine va_get (D := G) (ci := 6) (v := .int (nI len)) (C := RX6) (T := TX6) (N := 10) hx hb hts inlX6 hown hK.1 hP 0 rfl rfl 7 (by decide) (hts _ wd402) (fun _ h9 => h9) rfl dX6_read_32 ?_
          refine zi_ge (tgt := 169) hx hb (2 * t0) len dX6_read_35 (by decide) rfl rfl (by omega) (by omega) (fun c_767 => ?_) (fun c_767 => ?_)
          · have hE : rdS pd z (len / 2) = (zc, dn, b0) := by rw [show len / 2 = t0 by omega]; exact hf2.symm
            refine lv_aload_n hx hb dX6_read_169 rfl (lv_at hl 3 rfl) ?_
            refine lv_iconst (v := 0) hx hb dX6_read_170 (by decide) ?_
            refine va_put (D := G) (ci := 6) (v := .int 0) (ty := .int) (C := RX6) (T := TX6) (N := 10) hx hb hts inlX6 tyX6 tyX6_ok nmX6 hown hK.1 hP hD hS 0 rfl rfl 7 (by decide) (hts _ wd402) (fun _ h9 => h9) rfl (by decide +kernel) rfl rfl (Nat.le_of_ble_eq_true rfl) dX6_read_171 (fun H768 locs768 hP hD hS => ?_)
            have hP : va_P G vwCl [(qm, .inr (6, [.ref qz, .ref qa, .ref qe, .int (nI (rcN sts)), .ref qs, .ref qv, .ref qp, .int 0, .int gc, .ref qn])), (qz, .inl (cI, 46, .inl zc)), (qa, .inl (cI, 46, .inl as)), (qe, .inl (cI, 276, .inl (rcB be z sts))), (qs, .inl (cI, 92, .inl sl)), (qv, .inl (cZ, 2, .inl sv)), (qp, .inl (cI, 60, .inl pd)), (qn, .inl (cI, 36, .inl nd))] H768 := hP
            have hD : va_D A [(qm, .inr (6, [.ref qz, .ref qa, .ref qe, .int (nI (rcN sts)), .ref qs, .ref qv, .ref qp, .int 0, .int gc, .ref qn])), (qz, .inl (cI, 46, .inl zc)), (qa, .inl (cI, 46, .inl as)), (qe, .inl (cI, 276, .inl (rcB be z sts))), (qs, .inl (cI, 92, .inl sl)), (qv, .inl (cZ, 2, .inl sv)), (qp, .inl (cI, 60, .inl pd)), (qn, .inl (cI, 36, .inl nd))] := hD
            refine lv_iload_n hx hb dX6_read_174 rfl (lv_at hl 2 rfl) ?_
            subst hQ
            exact W.iret (v := nI dn) hx hb hr (fun t ht hW => ⟨⟨nI dn, (zc, rcB be z sts, rcN sts, sl, sv, pd, 0, as, gc, nd), rfl, ⟨by show _ = Prod.fst (_ : Int32 × KS); rw [m_read, if_neg (fun h => h c_762), if_neg c_764, hE], by rw [m_read, if_neg (fun h => h c_762), if_neg c_764, hE]; rfl⟩, by rw [ht]; exact hP, hD⟩, hS.F ht⟩) hS.2.2 dX6_read_175
          · refine lv_iload_n hx hb dX6_read_38 rfl (lv_at hl 1 rfl) ?_
            refine zb_eq (tgt := 169) hx hb dX6_read_39 (by decide) (fun c_769 => ?_) (fun c_769 => ?_)
            · have hE : rdS pd z (len / 2) = (zc, dn, b0) := by rw [show len / 2 = t0 + (len / 2 - t0) by omega, rdS_stop (by rw [← hf2]; exact bool_n c_769)]; exact hf2.symm
              refine lv_aload_n hx hb dX6_read_169 rfl (lv_at hl 3 rfl) ?_
              refine lv_iconst (v := 0) hx hb dX6_read_170 (by decide) ?_
              refine va_put (D := G) (ci := 6) (v := .int 0) (ty := .int) (C := RX6) (T := TX6) (N := 10) hx hb hts inlX6 tyX6 tyX6_ok nmX6 hown hK.1 hP hD hS 0 rfl rfl 7 (by decide) (hts _ wd402) (fun _ h9 => h9) rfl (by decide +kernel) rfl rfl (Nat.le_of_ble_eq_true rfl) dX6_read_171 (fun H770 locs770 hP hD hS => ?_)
              have hP : va_P G vwCl [(qm, .inr (6, [.ref qz, .ref qa, .ref qe, .int (nI (rcN sts)), .ref qs, .ref qv, .ref qp, .int 0, .int gc, .ref qn])), (qz, .inl (cI, 46, .inl zc)), (qa, .inl (cI, 46, .inl as)), (qe, .inl (cI, 276, .inl (rcB be z sts))), (qs, .inl (cI, 92, .inl sl)), (qv, .inl (cZ, 2, .inl sv)), (qp, .inl (cI, 60, .inl pd)), (qn, .inl (cI, 36, .inl nd))] H770 := hP
              have hD : va_D A [(qm, .inr (6, [.ref qz, .ref qa, .ref qe, .int (nI (rcN sts)), .ref qs, .ref qv, .ref qp, .int 0, .int gc, .ref qn])), (qz, .inl (cI, 46, .inl zc)), (qa, .inl (cI, 46, .inl as)), (qe, .inl (cI, 276, .inl (rcB be z sts))), (qs, .inl (cI, 92, .inl sl)), (qv, .inl (cZ, 2, .inl sv)), (qp, .inl (cI, 60, .inl pd)), (qn, .inl (cI, 36, .inl nd))] := hD
              refine lv_iload_n hx hb dX6_read_174 rfl (lv_at hl 2 rfl) ?_
              subst hQ
              exact W.iret (v := nI dn) hx hb hr (fun t ht hW => ⟨⟨nI dn, (zc, rcB be z sts, rcN sts, sl, sv, pd, 0, as, gc, nd), rfl, ⟨by show _ = Prod.fst (_ : Int32 × KS); rw [m_read, if_neg (fun h => h c_762), if_neg c_764, hE], by rw [m_read, if_neg (fun h => h c_762), if_neg c_764, hE]; rfl⟩, by rw [ht]; exact hP, hD⟩, hS.F ht⟩) hS.2.2 dX6_read_175
            · obtain rfl : b0 = true := c_769
              obtain ⟨⟨cv, hv1, hv2, ev⟩, hch⟩ := rd_ch hln hff c_767
              obtain ⟨pl2, hpl2, h40z⟩ := hm.2.2
              rcases hch with h45 | ⟨jv, hj1, hj2, ej⟩
              · refine lv_aload_n hx hb dX6_read_42 rfl (lv_at hl 3 rfl) ?_
                refine va_get (D := G) (ci := 6) (v := .ref qp) (C := RX6) (T := TX6) (N := 10) hx hb hts inlX6 hown hK.1 hP 0 rfl rfl 6 (by decide) (hts _ wd84) (fun _ h9 => h9) rfl dX6_read_43 ?_
                refine lv_iload_n hx hb dX6_read_46 rfl (lv_at hl 0 rfl) ?_
                refine za_ld hx hb hK.1 hP 6 0 rfl rfl (2 * t0) rfl (by omega) (by decide) dX6_read_47 ?_
                refine lv_bipush (v := 48) hx hb dX6_read_48 (by decide) ?_
                refine zi_sub hx hb cv 48 dX6_read_50 ev rfl (by omega) ?_
                refine lv_istore (lv' := [(4, .int (nI (cv - 48))), (3, .int (nI (2 * t0))), (2, .int (bz (true = true))), (1, .int (nI dn)), (0, .ref qm)]) hx hb dX6_read_51 hl (by decide) rfl (fun ls hl => ?_)
                refine lv_iconst (v := 3) hx hb dX6_read_53 (by decide) ?_
                refine lv_aload_n hx hb dX6_read_54 rfl (lv_at hl 4 rfl) ?_
                refine va_get (D := G) (ci := 6) (v := .ref qz) (C := RX6) (T := TX6) (N := 10) hx hb hts inlX6 hown hK.1 hP 0 rfl rfl 0 (by decide) (hts _ wd78) (fun _ h9 => h9) rfl dX6_read_55 ?_
                refine lv_bipush (v := 40) hx hb dX6_read_58 (by decide) ?_
                refine za_ld hx hb hK.1 hP 1 0 rfl rfl 40 rfl (by decide) (by decide) dX6_read_60 ?_
                refine zi_mul hx hb 3 pl2 dX6_read_61 rfl h40z ?_
                refine lv_aload_n hx hb dX6_read_62 rfl (lv_at hl 4 rfl) ?_
                refine va_get (D := G) (ci := 6) (v := .ref qp) (C := RX6) (T := TX6) (N := 10) hx hb hts inlX6 hown hK.1 hP 0 rfl rfl 6 (by decide) (hts _ wd84) (fun _ h9 => h9) rfl dX6_read_63 ?_
                refine lv_iload_n hx hb dX6_read_66 rfl (lv_at hl 1 rfl) ?_
                refine lv_iconst (v := 1) hx hb dX6_read_67 (by decide) ?_
                refine zi_add hx hb (2 * t0) 1 dX6_read_68 rfl rfl ?_
                refine za_ld hx hb hK.1 hP 6 0 rfl rfl ((2 * t0) + 1) rfl (by omega) (by decide) dX6_read_69 ?_
                refine lv_iadd hx hb dX6_read_70 ?_
                refine lv_bipush (v := 97) hx hb dX6_read_71 (by decide) ?_
                refine lv_isub hx hb dX6_read_73 ?_
                refine lv_istore (lv' := [(5, .int (((nI (3 * pl2)) + (pd ((2 * t0) + 1))) - 97)), (4, .int (nI (cv - 48))), (3, .int (nI (2 * t0))), (2, .int (bz (true = true))), (1, .int (nI dn)), (0, .ref qm)]) hx hb dX6_read_74 hl (by decide) rfl (fun ls hl => ?_)
                refine lv_aload_n hx hb dX6_read_76 rfl (lv_at hl 5 rfl) ?_
                have hPc : va_P G vwCl [(qm, .inr (6, [.ref qz, .ref qa, .ref qe, .int (nI (rcN sts)), .ref qs, .ref qv, .ref qp, .int (nI len), .int gc, .ref qn])), (qz, .inl (cI, 46, .inl zc)), (qa, .inl (cI, 46, .inl as)), (qe, .inl (cI, 276, .inl (rcB be z sts))), (qs, .inl (cI, 92, .inl sl)), (qv, .inl (cZ, 2, .inl sv)), (qp, .inl (cI, 60, .inl pd)), (qn, .inl (cI, 36, .inl nd))] H766 := hP
                have hDc := hD.tt
                refine vp_callSi (va_Run.run (va_runV (As := []) (rest := []) ⟨hx, hb, hml, hown, hts⟩ (c_X6_isOver l G cI cC cZ cG H766.size qm qz qa qe qs qv qp qn zc as (rcB be z sts) sl sv pd nd (rcN sts) len gc) (cf_RX6_97 hts ⟨Nat.le_of_ble_eq_true rfl, Nat.le_of_ble_eq_true rfl⟩) (pre_V hK hPc hDc (ci := 6) (q0 := 0) rfl rfl) rfl rfl hl.1 rfl (lv_room (Nat.le_of_ble_eq_true rfl)) dX6_read_77 ⟨Nat.le_of_ble_eq_true rfl, Nat.le_of_ble_eq_true rfl⟩)) (fun r771 hr771 => ?_)
                subst hr771
                refine zb_ne (tgt := 123) hx hb dX6_read_80 (by decide) (fun c_772 => ?_) (fun c_772 => ?_)
                · refine lv_iconst (v := 0) hx hb dX6_read_123 (by decide) ?_
                  refine lv_istore_n (lv' := [(2, .int 0), (5, .int (((nI (3 * pl2)) + (pd ((2 * t0) + 1))) - 97)), (4, .int (nI (cv - 48))), (3, .int (nI (2 * t0))), (1, .int (nI dn)), (0, .ref qm)]) hx hb dX6_read_124 rfl hl (by decide) rfl (fun ls hl => ?_)
                  refine lv_iload_n hx hb dX6_read_125 rfl (lv_at hl 0 rfl) ?_
                  refine lv_if_eq (tgt := 163) hx hb dX6_read_126 (by decide) (fun c_773 => ?_) (fun c_773 => ?_)
                  · refine lv_iinc (v := nI ((2 * t0) + 2)) (lv' := [(3, .int (nI ((2 * t0) + 2))), (2, .int 0), (5, .int (((nI (3 * pl2)) + (pd ((2 * t0) + 1))) - 97)), (4, .int (nI (cv - 48))), (1, .int (nI dn)), (0, .ref qm)]) hx hb dX6_read_163 hl (k := 3) rfl (nI_incn (2 * t0) 2) (by decide) rfl (fun ls hl => ?_)
                    refine lv_goto (tgt := 30) hx hb dX6_read_166 (by decide) ?_
                    exact ih1 (t0 + 1) dn false zc gc hm (by omega) (by omega) (rdS_no hf2 (by rw [rdG_p hv1 hv2 ev h40z hpl2 h45, decide_eq_false c_772]; simp)) (by omega) H766 locs766 hP hD hS _ (lv_sub hl [0, 1, 4, 5] rfl)
                  · exact absurd c_773 (by decide)
                · refine lv_aload_n hx hb dX6_read_83 rfl (lv_at hl 5 rfl) ?_
                  refine va_get (D := G) (ci := 6) (v := .ref qp) (C := RX6) (T := TX6) (N := 10) hx hb hts inlX6 hown hK.1 hP 0 rfl rfl 6 (by decide) (hts _ wd84) (fun _ h9 => h9) rfl dX6_read_84 ?_
                  refine lv_iload_n hx hb dX6_read_87 rfl (lv_at hl 2 rfl) ?_
                  refine lv_iconst (v := 1) hx hb dX6_read_88 (by decide) ?_
                  refine zi_add hx hb (2 * t0) 1 dX6_read_89 rfl rfl ?_
                  refine za_ld hx hb hK.1 hP 6 0 rfl rfl ((2 * t0) + 1) rfl (by omega) (by decide) dX6_read_90 ?_
                  refine lv_bipush (v := 45) hx hb dX6_read_91 (by decide) ?_
                  refine lv_icmp_ne (tgt := 108) hx hb dX6_read_93 (by decide) (fun c_774 => ?_) (fun c_774 => ?_)
                  · exact absurd h45 c_774
                  · refine lv_aload_n hx hb dX6_read_96 rfl (lv_at hl 5 rfl) ?_
                    refine lv_iload hx hb dX6_read_97 (lv_at hl 1 rfl) ?_
                    have hPc : va_P G vwCl [(qm, .inr (6, [.ref qz, .ref qa, .ref qe, .int (nI (rcN sts)), .ref qs, .ref qv, .ref qp, .int (nI len), .int gc, .ref qn])), (qz, .inl (cI, 46, .inl zc)), (qa, .inl (cI, 46, .inl as)), (qe, .inl (cI, 276, .inl (rcB be z sts))), (qs, .inl (cI, 92, .inl sl)), (qv, .inl (cZ, 2, .inl sv)), (qp, .inl (cI, 60, .inl pd)), (qn, .inl (cI, 36, .inl nd))] H766 := hP
                    have hDc := hD.tt
                    have hFc := va_free (wc := [(qm, .inr (6, [.ref qz, .ref qa, .ref qe, .int (nI (rcN sts)), .ref qs, .ref qv, .ref qp, .int (nI len), .int gc, .ref qn])), (qz, .inl (cI, 46, .inl zc)), (qa, .inl (cI, 46, .inl as)), (qe, .inl (cI, 276, .inl (rcB be z sts))), (qs, .inl (cI, 92, .inl sl)), (qv, .inl (cZ, 2, .inl sv)), (qp, .inl (cI, 60, .inl pd)), (qn, .inl (cI, 36, .inl nd))]) hD hS hA [0, 1, 2, 3, 4, 5, 6, 7] rfl
                    refine va_calli (va_runV (As := [.int (nI (cv - 48))]) (rest := []) ⟨hx, hb, hml, hown, hts⟩ (c_X6_canMove l G cI cC cZ cG H766.size qm qz qa qe qs qv qp qn zc as (rcB be z sts) sl sv pd nd (rcN sts) len gc pl2 (cv - 48) hm.1 hpl2 h40z (by omega) (by omega)) (cf_RX6_131 hts ⟨Nat.le_of_ble_eq_true rfl, Nat.le_of_ble_eq_true rfl⟩) (pre_V hK hPc hDc (ci := 6) (q0 := 0) rfl rfl) rfl rfl hl.1 rfl (lv_room (Nat.le_of_ble_eq_true rfl)) dX6_read_99 ⟨Nat.le_of_ble_eq_true rfl, Nat.le_of_ble_eq_true rfl⟩) hS (fun q _ h => hFc q h) hFc (fun r775 u775 t775 H775 locs775 ht775 hvm775 hw775 hB775 hz775 hk775 hS => ?_)
                    obtain ⟨go775, rfl⟩ : ∃ z, z = u775 := ⟨_, rfl⟩
                    obtain ⟨hP1, hD1⟩ := hB775
                    rw [ht775] at hP1
                    try dsimp only at hw775
                    obtain ⟨hr775, hw775⟩ := hw775
                    subst hr775
                    obtain ⟨hP, hD⟩ := va_join (wr := []) (w1 := [(qm, .inr (6, [.ref qz, .ref qa, .ref qe, .int (nI (rcN sts)), .ref qs, .ref qv, .ref qp, .int (nI len), .int go775, .ref qn])), (qz, .inl (cI, 46, .inl zc)), (qa, .inl (cI, 46, .inl as)), (qe, .inl (cI, 276, .inl (rcB be z sts))), (qs, .inl (cI, 92, .inl sl)), (qv, .inl (cZ, 2, .inl sv)), (qp, .inl (cI, 60, .inl pd)), (qn, .inl (cI, 36, .inl nd))]) hP hD [0, 1, 2, 3, 4, 5, 6, 7] [] rfl rfl (by decide) (by decide) hk775 hFc hP1 hD1
                    have hP : va_P G vwCl [(qm, .inr (6, [.ref qz, .ref qa, .ref qe, .int (nI (rcN sts)), .ref qs, .ref qv, .ref qp, .int (nI len), .int go775, .ref qn])), (qz, .inl (cI, 46, .inl zc)), (qa, .inl (cI, 46, .inl as)), (qe, .inl (cI, 276, .inl (rcB be z sts))), (qs, .inl (cI, 92, .inl sl)), (qv, .inl (cZ, 2, .inl sv)), (qp, .inl (cI, 60, .inl pd)), (qn, .inl (cI, 36, .inl nd))] H775 := hP
                    have hD : va_D A [(qm, .inr (6, [.ref qz, .ref qa, .ref qe, .int (nI (rcN sts)), .ref qs, .ref qv, .ref qp, .int (nI len), .int go775, .ref qn])), (qz, .inl (cI, 46, .inl zc)), (qa, .inl (cI, 46, .inl as)), (qe, .inl (cI, 276, .inl (rcB be z sts))), (qs, .inl (cI, 92, .inl sl)), (qv, .inl (cZ, 2, .inl sv)), (qp, .inl (cI, 60, .inl pd)), (qn, .inl (cI, 36, .inl nd))] := hD
                    refine zb_ne (tgt := 123) hx hb dX6_read_102 (by decide) (fun c_776 => ?_) (fun c_776 => ?_)
                    · refine lv_iconst (v := 0) hx hb dX6_read_123 (by decide) ?_
                      refine lv_istore_n (lv' := [(2, .int 0), (5, .int (((nI (3 * pl2)) + (pd ((2 * t0) + 1))) - 97)), (4, .int (nI (cv - 48))), (3, .int (nI (2 * t0))), (1, .int (nI dn)), (0, .ref qm)]) hx hb dX6_read_124 rfl hl (by decide) rfl (fun ls hl => ?_)
                      refine lv_iload_n hx hb dX6_read_125 rfl (lv_at hl 0 rfl) ?_
                      refine lv_if_eq (tgt := 163) hx hb dX6_read_126 (by decide) (fun c_777 => ?_) (fun c_777 => ?_)
                      · refine lv_iinc (v := nI ((2 * t0) + 2)) (lv' := [(3, .int (nI ((2 * t0) + 2))), (2, .int 0), (5, .int (((nI (3 * pl2)) + (pd ((2 * t0) + 1))) - 97)), (4, .int (nI (cv - 48))), (1, .int (nI dn)), (0, .ref qm)]) hx hb dX6_read_163 hl (k := 3) rfl (nI_incn (2 * t0) 2) (by decide) rfl (fun ls hl => ?_)
                        refine lv_goto (tgt := 30) hx hb dX6_read_166 (by decide) ?_
                        exact ih1 (t0 + 1) dn false zc go775 hm (by omega) (by omega) (rdS_no hf2 (by rw [rdG_p hv1 hv2 ev h40z hpl2 h45, Bool.and_comm]; simp [c_776])) (by omega) H775 locs775 hP hD hS _ (lv_sub hl [0, 1, 4, 5] rfl)
                      · exact absurd c_777 (by decide)
                    · refine lv_goto (tgt := 119) hx hb dX6_read_105 (by decide) ?_
                      refine lv_iconst (v := 1) hx hb dX6_read_119 (by decide) ?_
                      refine lv_goto (tgt := 124) hx hb dX6_read_120 (by decide) ?_
                      refine lv_istore_n (lv' := [(2, .int 1), (5, .int (((nI (3 * pl2)) + (pd ((2 * t0) + 1))) - 97)), (4, .int (nI (cv - 48))), (3, .int (nI (2 * t0))), (1, .int (nI dn)), (0, .ref qm)]) hx hb dX6_read_124 rfl hl (by decide) rfl (fun ls hl => ?_)
                      refine lv_iload_n hx hb dX6_read_125 rfl (lv_at hl 0 rfl) ?_
                      refine lv_if_eq (tgt := 163) hx hb dX6_read_126 (by decide) (fun c_778 => ?_) (fun c_778 => ?_)
                      · exact absurd c_778 (by decide)
                      · refine lv_aload_n hx hb dX6_read_129 rfl (lv_at hl 5 rfl) ?_
                        refine lv_iload hx hb dX6_read_130 (lv_at hl 2 rfl) ?_
                        have hPc : va_P G vwCl [(qm, .inr (6, [.ref qz, .ref qa, .ref qe, .int (nI (rcN sts)), .ref qs, .ref qv, .ref qp, .int (nI len), .int go775, .ref qn])), (qz, .inl (cI, 46, .inl zc)), (qa, .inl (cI, 46, .inl as)), (qe, .inl (cI, 276, .inl (rcB be z sts))), (qs, .inl (cI, 92, .inl sl)), (qv, .inl (cZ, 2, .inl sv)), (qp, .inl (cI, 60, .inl pd)), (qn, .inl (cI, 36, .inl nd))] H775 := hP
                        have hDc := hD.tt
                        have hFc := va_free (wc := [(qm, .inr (6, [.ref qz, .ref qa, .ref qe, .int (nI (rcN sts)), .ref qs, .ref qv, .ref qp, .int (nI len), .int go775, .ref qn])), (qz, .inl (cI, 46, .inl zc)), (qa, .inl (cI, 46, .inl as)), (qe, .inl (cI, 276, .inl (rcB be z sts))), (qs, .inl (cI, 92, .inl sl)), (qv, .inl (cZ, 2, .inl sv)), (qp, .inl (cI, 60, .inl pd)), (qn, .inl (cI, 36, .inl nd))]) hD hS hA [0, 1, 2, 3, 4, 5, 6, 7] rfl
                        refine va_callv (va_runV (As := [.int (nI (cv - 48))]) (rest := []) ⟨hx, hb, hml, hown, hts⟩ (c_X6_doCast l G cI cC cZ cG H775.size qm qz qa qe qs qv qp qn zc as (rcB be z sts) sl sv pd nd (rcN sts) len go775 (nI (cv - 48))) (cf_RX6_120 hts ⟨Nat.le_of_ble_eq_true rfl, Nat.le_of_ble_eq_true rfl⟩) (pre_V hK hPc hDc (ci := 6) (q0 := 0) rfl rfl) rfl rfl hl.1 rfl (lv_room (Nat.le_of_ble_eq_true rfl)) dX6_read_132 ⟨Nat.le_of_ble_eq_true rfl, Nat.le_of_ble_eq_true rfl⟩) hS (fun q _ h => hFc q h) hFc (fun u779 t779 H779 locs779 ht779 hvm779 hw779 hB779 hz779 hk779 hS => ?_)
                        obtain ⟨q779, rfl⟩ : ∃ z, z = u779 := ⟨_, rfl⟩
                        obtain ⟨hP1, hD1⟩ := hB779
                        rw [ht779] at hP1
                        try dsimp only at hw779
                        obtain ⟨hP, hD⟩ := va_join (wr := []) (w1 := [(qm, .inr (6, [.ref qz, .ref qa, .ref qe, .int (nI (rcN sts)), .ref qs, .ref qv, .ref qp, .int (nI len), .int go775, .ref qn])), (qz, .inl (cI, 46, .inl (dcM zc (nI (cv - 48))))), (qa, .inl (cI, 46, .inl as)), (qe, .inl (cI, 276, .inl (rcB be z sts))), (qs, .inl (cI, 92, .inl sl)), (qv, .inl (cZ, 2, .inl sv)), (qp, .inl (cI, 60, .inl pd)), (qn, .inl (cI, 36, .inl nd))]) hP hD [0, 1, 2, 3, 4, 5, 6, 7] [] rfl rfl (by decide) (by decide) hk779 hFc hP1 hD1
                        have hP : va_P G vwCl [(qm, .inr (6, [.ref qz, .ref qa, .ref qe, .int (nI (rcN sts)), .ref qs, .ref qv, .ref qp, .int (nI len), .int go775, .ref qn])), (qz, .inl (cI, 46, .inl (dcM zc (nI (cv - 48))))), (qa, .inl (cI, 46, .inl as)), (qe, .inl (cI, 276, .inl (rcB be z sts))), (qs, .inl (cI, 92, .inl sl)), (qv, .inl (cZ, 2, .inl sv)), (qp, .inl (cI, 60, .inl pd)), (qn, .inl (cI, 36, .inl nd))] H779 := hP
                        have hD : va_D A [(qm, .inr (6, [.ref qz, .ref qa, .ref qe, .int (nI (rcN sts)), .ref qs, .ref qv, .ref qp, .int (nI len), .int go775, .ref qn])), (qz, .inl (cI, 46, .inl (dcM zc (nI (cv - 48))))), (qa, .inl (cI, 46, .inl as)), (qe, .inl (cI, 276, .inl (rcB be z sts))), (qs, .inl (cI, 92, .inl sl)), (qv, .inl (cZ, 2, .inl sv)), (qp, .inl (cI, 60, .inl pd)), (qn, .inl (cI, 36, .inl nd))] := hD
                        have dm : okm (dcM zc (nI (cv - 48))) := dcM_okm hm
                        have d40 : (dcM zc (nI (cv - 48))) 40 = nI pl2 := by rw [dcM_lo (by decide)]; exact h40z
                        refine lv_aload_n hx hb dX6_read_135 rfl (lv_at hl 5 rfl) ?_
                        refine va_get (D := G) (ci := 6) (v := .ref qp) (C := RX6) (T := TX6) (N := 10) hx hb hts inlX6 hown hK.1 hP 0 rfl rfl 6 (by decide) (hts _ wd84) (fun _ h9 => h9) rfl dX6_read_136 ?_
                        refine lv_iload_n hx hb dX6_read_139 rfl (lv_at hl 3 rfl) ?_
                        refine lv_iconst (v := 1) hx hb dX6_read_140 (by decide) ?_
                        refine zi_add hx hb (2 * t0) 1 dX6_read_141 rfl rfl ?_
                        refine za_ld hx hb hK.1 hP 6 0 rfl rfl ((2 * t0) + 1) rfl (by omega) (by decide) dX6_read_142 ?_
                        refine lv_bipush (v := 45) hx hb dX6_read_143 (by decide) ?_
                        refine lv_icmp_eq (tgt := 156) hx hb dX6_read_145 (by decide) (fun c_780 => ?_) (fun c_780 => ?_)
                        · have q40 := d40
                          refine lv_aload_n hx hb dX6_read_156 rfl (lv_at hl 5 rfl) ?_
                          have hPc : va_P G vwCl [(qm, .inr (6, [.ref qz, .ref qa, .ref qe, .int (nI (rcN sts)), .ref qs, .ref qv, .ref qp, .int (nI len), .int go775, .ref qn])), (qz, .inl (cI, 46, .inl (dcM zc (nI (cv - 48))))), (qa, .inl (cI, 46, .inl as)), (qe, .inl (cI, 276, .inl (rcB be z sts))), (qs, .inl (cI, 92, .inl sl)), (qv, .inl (cZ, 2, .inl sv)), (qp, .inl (cI, 60, .inl pd)), (qn, .inl (cI, 36, .inl nd))] H779 := hP
                          have hDc := hD.tt
                          have hFc := va_free (wc := [(qm, .inr (6, [.ref qz, .ref qa, .ref qe, .int (nI (rcN sts)), .ref qs, .ref qv, .ref qp, .int (nI len), .int go775, .ref qn])), (qz, .inl (cI, 46, .inl (dcM zc (nI (cv - 48))))), (qa, .inl (cI, 46, .inl as)), (qe, .inl (cI, 276, .inl (rcB be z sts))), (qs, .inl (cI, 92, .inl sl)), (qv, .inl (cZ, 2, .inl sv)), (qp, .inl (cI, 60, .inl pd)), (qn, .inl (cI, 36, .inl nd))]) hD hS hA [0, 1, 2, 3, 4, 5, 6, 7] rfl
                          refine va_callv (va_runV (As := []) (rest := []) ⟨hx, hb, hml, hown, hts⟩ (c_X6_goOn l G cI cC cZ cG H779.size qm qz qa qe qs qv qp qn (dcM zc (nI (cv - 48))) as (rcB be z sts) sl sv pd nd (rcN sts) len go775 pl2 hpl2 q40) (cf_RX6_128 hts ⟨Nat.le_of_ble_eq_true rfl, Nat.le_of_ble_eq_true rfl⟩) (pre_V hK hPc hDc (ci := 6) (q0 := 0) rfl rfl) rfl rfl hl.1 rfl (lv_room (Nat.le_of_ble_eq_true rfl)) dX6_read_157 ⟨Nat.le_of_ble_eq_true rfl, Nat.le_of_ble_eq_true rfl⟩) hS (fun q _ h => hFc q h) hFc (fun u781 t781 H781 locs781 ht781 hvm781 hw781 hB781 hz781 hk781 hS => ?_)
                          obtain ⟨z781, rfl⟩ : ∃ z, z = u781 := ⟨_, rfl⟩
                          obtain ⟨hP1, hD1⟩ := hB781
                          rw [ht781] at hP1
                          try dsimp only at hw781
                          obtain ⟨hP, hD⟩ := va_join (wr := []) (w1 := [(qm, .inr (6, [.ref qz, .ref qa, .ref qe, .int (nI (rcN sts)), .ref qs, .ref qv, .ref qp, .int (nI len), .int go775, .ref qn])), (qz, .inl (cI, 46, .inl z781)), (qa, .inl (cI, 46, .inl as)), (qe, .inl (cI, 276, .inl (rcB be z sts))), (qs, .inl (cI, 92, .inl sl)), (qv, .inl (cZ, 2, .inl sv)), (qp, .inl (cI, 60, .inl pd)), (qn, .inl (cI, 36, .inl nd))]) hP hD [0, 1, 2, 3, 4, 5, 6, 7] [] rfl rfl (by decide) (by decide) hk781 hFc hP1 hD1
                          have hP : va_P G vwCl [(qm, .inr (6, [.ref qz, .ref qa, .ref qe, .int (nI (rcN sts)), .ref qs, .ref qv, .ref qp, .int (nI len), .int go775, .ref qn])), (qz, .inl (cI, 46, .inl z781)), (qa, .inl (cI, 46, .inl as)), (qe, .inl (cI, 276, .inl (rcB be z sts))), (qs, .inl (cI, 92, .inl sl)), (qv, .inl (cZ, 2, .inl sv)), (qp, .inl (cI, 60, .inl pd)), (qn, .inl (cI, 36, .inl nd))] H781 := hP
                          have hD : va_D A [(qm, .inr (6, [.ref qz, .ref qa, .ref qe, .int (nI (rcN sts)), .ref qs, .ref qv, .ref qp, .int (nI len), .int go775, .ref qn])), (qz, .inl (cI, 46, .inl z781)), (qa, .inl (cI, 46, .inl as)), (qe, .inl (cI, 276, .inl (rcB be z sts))), (qs, .inl (cI, 92, .inl sl)), (qv, .inl (cZ, 2, .inl sv)), (qp, .inl (cI, 60, .inl pd)), (qn, .inl (cI, 36, .inl nd))] := hD
                          refine lv_iinc (v := nI (dn + 1)) (lv' := [(1, .int (nI (dn + 1))), (2, .int 1), (5, .int (((nI (3 * pl2)) + (pd ((2 * t0) + 1))) - 97)), (4, .int (nI (cv - 48))), (3, .int (nI (2 * t0))), (0, .ref qm)]) hx hb dX6_read_160 hl (k := 4) rfl (nI_inc dn) (by decide) rfl (fun ls hl => ?_)
                          refine lv_iinc (v := nI ((2 * t0) + 2)) (lv' := [(3, .int (nI ((2 * t0) + 2))), (1, .int (nI (dn + 1))), (2, .int 1), (5, .int (((nI (3 * pl2)) + (pd ((2 * t0) + 1))) - 97)), (4, .int (nI (cv - 48))), (0, .ref qm)]) hx hb dX6_read_163 hl (k := 4) rfl (nI_incn (2 * t0) 2) (by decide) rfl (fun ls hl => ?_)
                          refine lv_goto (tgt := 30) hx hb dX6_read_166 (by decide) ?_
                          have hfz : z781 = rdZ pd zc t0 := (by rw [rdZ_p hv1 hv2 ev h40z hpl2 h45]; exact hw781)
                          exact ih1 (t0 + 1) (dn + 1) true z781 go775 (by rw [hfz, rdZ_p hv1 hv2 ev h40z hpl2 h45]; exact goM_okm hpl2 d40 dm) (by omega) (by omega) (rdS_go hf2 (by rw [rdG_p hv1 hv2 ev h40z hpl2 h45, Bool.and_comm]; simp [Decidable.not_not.mp c_772, c_776]) hfz) (by omega) H781 locs781 hP hD hS _ (lv_sub hl [0, 2, 1, 5] rfl)
                        · exact absurd h45 c_780
              · refine lv_aload_n hx hb dX6_read_42 rfl (lv_at hl 3 rfl) ?_
                refine va_get (D := G) (ci := 6) (v := .ref qp) (C := RX6) (T := TX6) (N := 10) hx hb hts inlX6 hown hK.1 hP 0 rfl rfl 6 (by decide) (hts _ wd84) (fun _ h9 => h9) rfl dX6_read_43 ?_
                refine lv_iload_n hx hb dX6_read_46 rfl (lv_at hl 0 rfl) ?_
                refine za_ld hx hb hK.1 hP 6 0 rfl rfl (2 * t0) rfl (by omega) (by decide) dX6_read_47 ?_
                refine lv_bipush (v := 48) hx hb dX6_read_48 (by decide) ?_
                refine zi_sub hx hb cv 48 dX6_read_50 ev rfl (by omega) ?_
                refine lv_istore (lv' := [(4, .int (nI (cv - 48))), (3, .int (nI (2 * t0))), (2, .int (bz (true = true))), (1, .int (nI dn)), (0, .ref qm)]) hx hb dX6_read_51 hl (by decide) rfl (fun ls hl => ?_)
                refine lv_iconst (v := 3) hx hb dX6_read_53 (by decide) ?_
                refine lv_aload_n hx hb dX6_read_54 rfl (lv_at hl 4 rfl) ?_
                refine va_get (D := G) (ci := 6) (v := .ref qz) (C := RX6) (T := TX6) (N := 10) hx hb hts inlX6 hown hK.1 hP 0 rfl rfl 0 (by decide) (hts _ wd78) (fun _ h9 => h9) rfl dX6_read_55 ?_
                refine lv_bipush (v := 40) hx hb dX6_read_58 (by decide) ?_
                refine za_ld hx hb hK.1 hP 1 0 rfl rfl 40 rfl (by decide) (by decide) dX6_read_60 ?_
                refine zi_mul hx hb 3 pl2 dX6_read_61 rfl h40z ?_
                refine lv_aload_n hx hb dX6_read_62 rfl (lv_at hl 4 rfl) ?_
                refine va_get (D := G) (ci := 6) (v := .ref qp) (C := RX6) (T := TX6) (N := 10) hx hb hts inlX6 hown hK.1 hP 0 rfl rfl 6 (by decide) (hts _ wd84) (fun _ h9 => h9) rfl dX6_read_63 ?_
                refine lv_iload_n hx hb dX6_read_66 rfl (lv_at hl 1 rfl) ?_
                refine lv_iconst (v := 1) hx hb dX6_read_67 (by decide) ?_
                refine zi_add hx hb (2 * t0) 1 dX6_read_68 rfl rfl ?_
                refine za_ld hx hb hK.1 hP 6 0 rfl rfl ((2 * t0) + 1) rfl (by omega) (by decide) dX6_read_69 ?_
                refine zi_add hx hb (3 * pl2) jv dX6_read_70 rfl ej ?_
                refine lv_bipush (v := 97) hx hb dX6_read_71 (by decide) ?_
                refine zi_sub hx hb ((3 * pl2) + jv) 97 dX6_read_73 rfl rfl (by omega) ?_
                refine lv_istore (lv' := [(5, .int (nI (((3 * pl2) + jv) - 97))), (4, .int (nI (cv - 48))), (3, .int (nI (2 * t0))), (2, .int (bz (true = true))), (1, .int (nI dn)), (0, .ref qm)]) hx hb dX6_read_74 hl (by decide) rfl (fun ls hl => ?_)
                refine lv_aload_n hx hb dX6_read_76 rfl (lv_at hl 5 rfl) ?_
                have hPc : va_P G vwCl [(qm, .inr (6, [.ref qz, .ref qa, .ref qe, .int (nI (rcN sts)), .ref qs, .ref qv, .ref qp, .int (nI len), .int gc, .ref qn])), (qz, .inl (cI, 46, .inl zc)), (qa, .inl (cI, 46, .inl as)), (qe, .inl (cI, 276, .inl (rcB be z sts))), (qs, .inl (cI, 92, .inl sl)), (qv, .inl (cZ, 2, .inl sv)), (qp, .inl (cI, 60, .inl pd)), (qn, .inl (cI, 36, .inl nd))] H766 := hP
                have hDc := hD.tt
                refine vp_callSi (va_Run.run (va_runV (As := []) (rest := []) ⟨hx, hb, hml, hown, hts⟩ (c_X6_isOver l G cI cC cZ cG H766.size qm qz qa qe qs qv qp qn zc as (rcB be z sts) sl sv pd nd (rcN sts) len gc) (cf_RX6_97 hts ⟨Nat.le_of_ble_eq_true rfl, Nat.le_of_ble_eq_true rfl⟩) (pre_V hK hPc hDc (ci := 6) (q0 := 0) rfl rfl) rfl rfl hl.1 rfl (lv_room (Nat.le_of_ble_eq_true rfl)) dX6_read_77 ⟨Nat.le_of_ble_eq_true rfl, Nat.le_of_ble_eq_true rfl⟩)) (fun r782 hr782 => ?_)
                subst hr782
                refine zb_ne (tgt := 123) hx hb dX6_read_80 (by decide) (fun c_783 => ?_) (fun c_783 => ?_)
                · refine lv_iconst (v := 0) hx hb dX6_read_123 (by decide) ?_
                  refine lv_istore_n (lv' := [(2, .int 0), (5, .int (nI (((3 * pl2) + jv) - 97))), (4, .int (nI (cv - 48))), (3, .int (nI (2 * t0))), (1, .int (nI dn)), (0, .ref qm)]) hx hb dX6_read_124 rfl hl (by decide) rfl (fun ls hl => ?_)
                  refine lv_iload_n hx hb dX6_read_125 rfl (lv_at hl 0 rfl) ?_
                  refine lv_if_eq (tgt := 163) hx hb dX6_read_126 (by decide) (fun c_784 => ?_) (fun c_784 => ?_)
                  · refine lv_iinc (v := nI ((2 * t0) + 2)) (lv' := [(3, .int (nI ((2 * t0) + 2))), (2, .int 0), (5, .int (nI (((3 * pl2) + jv) - 97))), (4, .int (nI (cv - 48))), (1, .int (nI dn)), (0, .ref qm)]) hx hb dX6_read_163 hl (k := 3) rfl (nI_incn (2 * t0) 2) (by decide) rfl (fun ls hl => ?_)
                    refine lv_goto (tgt := 30) hx hb dX6_read_166 (by decide) ?_
                    exact ih1 (t0 + 1) dn false zc gc hm (by omega) (by omega) (rdS_no hf2 (by rw [rdG_m hv1 hv2 ev h40z hpl2 hj1 hj2 ej, decide_eq_false c_783]; simp)) (by omega) H766 locs766 hP hD hS _ (lv_sub hl [0, 1, 4, 5] rfl)
                  · exact absurd c_784 (by decide)
                · refine lv_aload_n hx hb dX6_read_83 rfl (lv_at hl 5 rfl) ?_
                  refine va_get (D := G) (ci := 6) (v := .ref qp) (C := RX6) (T := TX6) (N := 10) hx hb hts inlX6 hown hK.1 hP 0 rfl rfl 6 (by decide) (hts _ wd84) (fun _ h9 => h9) rfl dX6_read_84 ?_
                  refine lv_iload_n hx hb dX6_read_87 rfl (lv_at hl 2 rfl) ?_
                  refine lv_iconst (v := 1) hx hb dX6_read_88 (by decide) ?_
                  refine zi_add hx hb (2 * t0) 1 dX6_read_89 rfl rfl ?_
                  refine za_ld hx hb hK.1 hP 6 0 rfl rfl ((2 * t0) + 1) rfl (by omega) (by decide) dX6_read_90 ?_
                  refine lv_bipush (v := 45) hx hb dX6_read_91 (by decide) ?_
                  refine zi_ne (tgt := 108) hx hb jv 45 dX6_read_93 (by decide) ej rfl (by omega) (by decide) (fun c_785 => ?_) (fun c_785 => ?_)
                  · refine lv_aload_n hx hb dX6_read_108 rfl (lv_at hl 5 rfl) ?_
                    refine lv_iload hx hb dX6_read_109 (lv_at hl 0 rfl) ?_
                    refine lv_iload hx hb dX6_read_111 (lv_at hl 1 rfl) ?_
                    have hPc : va_P G vwCl [(qm, .inr (6, [.ref qz, .ref qa, .ref qe, .int (nI (rcN sts)), .ref qs, .ref qv, .ref qp, .int (nI len), .int gc, .ref qn])), (qz, .inl (cI, 46, .inl zc)), (qa, .inl (cI, 46, .inl as)), (qe, .inl (cI, 276, .inl (rcB be z sts))), (qs, .inl (cI, 92, .inl sl)), (qv, .inl (cZ, 2, .inl sv)), (qp, .inl (cI, 60, .inl pd)), (qn, .inl (cI, 36, .inl nd))] H766 := hP
                    have hDc := hD.tt
                    have hFc := va_free (wc := [(qm, .inr (6, [.ref qz, .ref qa, .ref qe, .int (nI (rcN sts)), .ref qs, .ref qv, .ref qp, .int (nI len), .int gc, .ref qn])), (qz, .inl (cI, 46, .inl zc)), (qa, .inl (cI, 46, .inl as)), (qe, .inl (cI, 276, .inl (rcB be z sts))), (qs, .inl (cI, 92, .inl sl)), (qv, .inl (cZ, 2, .inl sv)), (qp, .inl (cI, 60, .inl pd)), (qn, .inl (cI, 36, .inl nd))]) hD hS hA [0, 1, 2, 3, 4, 5, 6, 7] rfl
                    refine va_calli (va_runV (As := [.int (nI (((3 * pl2) + jv) - 97)), .int (nI (cv - 48))]) (rest := []) ⟨hx, hb, hml, hown, hts⟩ (c_X6_whyNot l G cI cC cZ cG H766.size qm qz qa qe qs qv qp qn zc as (rcB be z sts) sl sv pd nd (rcN sts) len gc (((3 * pl2) + jv) - 97) (cv - 48) hm.1 (by omega) (by omega) (by omega)) (cf_RX6_88 hts ⟨Nat.le_of_ble_eq_true rfl, Nat.le_of_ble_eq_true rfl⟩) (pre_V hK hPc hDc (ci := 6) (q0 := 0) rfl rfl) rfl rfl hl.1 rfl (lv_room (Nat.le_of_ble_eq_true rfl)) dX6_read_113 ⟨Nat.le_of_ble_eq_true rfl, Nat.le_of_ble_eq_true rfl⟩) hS (fun q _ h => hFc q h) hFc (fun r786 u786 t786 H786 locs786 ht786 hvm786 hw786 hB786 hz786 hk786 hS => ?_)
                    obtain ⟨go786, rfl⟩ : ∃ z, z = u786 := ⟨_, rfl⟩
                    obtain ⟨hP1, hD1⟩ := hB786
                    rw [ht786] at hP1
                    try dsimp only at hw786
                    obtain ⟨hr786, hw786⟩ := hw786
                    subst hr786
                    obtain ⟨hP, hD⟩ := va_join (wr := []) (w1 := [(qm, .inr (6, [.ref qz, .ref qa, .ref qe, .int (nI (rcN sts)), .ref qs, .ref qv, .ref qp, .int (nI len), .int go786, .ref qn])), (qz, .inl (cI, 46, .inl zc)), (qa, .inl (cI, 46, .inl as)), (qe, .inl (cI, 276, .inl (rcB be z sts))), (qs, .inl (cI, 92, .inl sl)), (qv, .inl (cZ, 2, .inl sv)), (qp, .inl (cI, 60, .inl pd)), (qn, .inl (cI, 36, .inl nd))]) hP hD [0, 1, 2, 3, 4, 5, 6, 7] [] rfl rfl (by decide) (by decide) hk786 hFc hP1 hD1
                    have hP : va_P G vwCl [(qm, .inr (6, [.ref qz, .ref qa, .ref qe, .int (nI (rcN sts)), .ref qs, .ref qv, .ref qp, .int (nI len), .int go786, .ref qn])), (qz, .inl (cI, 46, .inl zc)), (qa, .inl (cI, 46, .inl as)), (qe, .inl (cI, 276, .inl (rcB be z sts))), (qs, .inl (cI, 92, .inl sl)), (qv, .inl (cZ, 2, .inl sv)), (qp, .inl (cI, 60, .inl pd)), (qn, .inl (cI, 36, .inl nd))] H786 := hP
                    have hD : va_D A [(qm, .inr (6, [.ref qz, .ref qa, .ref qe, .int (nI (rcN sts)), .ref qs, .ref qv, .ref qp, .int (nI len), .int go786, .ref qn])), (qz, .inl (cI, 46, .inl zc)), (qa, .inl (cI, 46, .inl as)), (qe, .inl (cI, 276, .inl (rcB be z sts))), (qs, .inl (cI, 92, .inl sl)), (qv, .inl (cZ, 2, .inl sv)), (qp, .inl (cI, 60, .inl pd)), (qn, .inl (cI, 36, .inl nd))] := hD
                    refine lv_if_ne (tgt := 123) hx hb dX6_read_116 (by decide) (fun c_787 => ?_) (fun c_787 => ?_)
                    · refine lv_iconst (v := 0) hx hb dX6_read_123 (by decide) ?_
                      refine lv_istore_n (lv' := [(2, .int 0), (5, .int (nI (((3 * pl2) + jv) - 97))), (4, .int (nI (cv - 48))), (3, .int (nI (2 * t0))), (1, .int (nI dn)), (0, .ref qm)]) hx hb dX6_read_124 rfl hl (by decide) rfl (fun ls hl => ?_)
                      refine lv_iload_n hx hb dX6_read_125 rfl (lv_at hl 0 rfl) ?_
                      refine lv_if_eq (tgt := 163) hx hb dX6_read_126 (by decide) (fun c_788 => ?_) (fun c_788 => ?_)
                      · refine lv_iinc (v := nI ((2 * t0) + 2)) (lv' := [(3, .int (nI ((2 * t0) + 2))), (2, .int 0), (5, .int (nI (((3 * pl2) + jv) - 97))), (4, .int (nI (cv - 48))), (1, .int (nI dn)), (0, .ref qm)]) hx hb dX6_read_163 hl (k := 3) rfl (nI_incn (2 * t0) 2) (by decide) rfl (fun ls hl => ?_)
                        refine lv_goto (tgt := 30) hx hb dX6_read_166 (by decide) ?_
                        exact ih1 (t0 + 1) dn false zc go786 hm (by omega) (by omega) (rdS_no hf2 (by rw [rdG_m hv1 hv2 ev h40z hpl2 hj1 hj2 ej, ← show 3 * pl2 + jv - 97 = 3 * pl2 + (jv - 97) by omega]; simp [c_787])) (by omega) H786 locs786 hP hD hS _ (lv_sub hl [0, 1, 4, 5] rfl)
                      · exact absurd c_788 (by decide)
                    · refine lv_iconst (v := 1) hx hb dX6_read_119 (by decide) ?_
                      refine lv_goto (tgt := 124) hx hb dX6_read_120 (by decide) ?_
                      refine lv_istore_n (lv' := [(2, .int 1), (5, .int (nI (((3 * pl2) + jv) - 97))), (4, .int (nI (cv - 48))), (3, .int (nI (2 * t0))), (1, .int (nI dn)), (0, .ref qm)]) hx hb dX6_read_124 rfl hl (by decide) rfl (fun ls hl => ?_)
                      refine lv_iload_n hx hb dX6_read_125 rfl (lv_at hl 0 rfl) ?_
                      refine lv_if_eq (tgt := 163) hx hb dX6_read_126 (by decide) (fun c_789 => ?_) (fun c_789 => ?_)
                      · exact absurd c_789 (by decide)
                      · refine lv_aload_n hx hb dX6_read_129 rfl (lv_at hl 5 rfl) ?_
                        refine lv_iload hx hb dX6_read_130 (lv_at hl 2 rfl) ?_
                        have hPc : va_P G vwCl [(qm, .inr (6, [.ref qz, .ref qa, .ref qe, .int (nI (rcN sts)), .ref qs, .ref qv, .ref qp, .int (nI len), .int go786, .ref qn])), (qz, .inl (cI, 46, .inl zc)), (qa, .inl (cI, 46, .inl as)), (qe, .inl (cI, 276, .inl (rcB be z sts))), (qs, .inl (cI, 92, .inl sl)), (qv, .inl (cZ, 2, .inl sv)), (qp, .inl (cI, 60, .inl pd)), (qn, .inl (cI, 36, .inl nd))] H786 := hP
                        have hDc := hD.tt
                        have hFc := va_free (wc := [(qm, .inr (6, [.ref qz, .ref qa, .ref qe, .int (nI (rcN sts)), .ref qs, .ref qv, .ref qp, .int (nI len), .int go786, .ref qn])), (qz, .inl (cI, 46, .inl zc)), (qa, .inl (cI, 46, .inl as)), (qe, .inl (cI, 276, .inl (rcB be z sts))), (qs, .inl (cI, 92, .inl sl)), (qv, .inl (cZ, 2, .inl sv)), (qp, .inl (cI, 60, .inl pd)), (qn, .inl (cI, 36, .inl nd))]) hD hS hA [0, 1, 2, 3, 4, 5, 6, 7] rfl
                        refine va_callv (va_runV (As := [.int (nI (cv - 48))]) (rest := []) ⟨hx, hb, hml, hown, hts⟩ (c_X6_doCast l G cI cC cZ cG H786.size qm qz qa qe qs qv qp qn zc as (rcB be z sts) sl sv pd nd (rcN sts) len go786 (nI (cv - 48))) (cf_RX6_120 hts ⟨Nat.le_of_ble_eq_true rfl, Nat.le_of_ble_eq_true rfl⟩) (pre_V hK hPc hDc (ci := 6) (q0 := 0) rfl rfl) rfl rfl hl.1 rfl (lv_room (Nat.le_of_ble_eq_true rfl)) dX6_read_132 ⟨Nat.le_of_ble_eq_true rfl, Nat.le_of_ble_eq_true rfl⟩) hS (fun q _ h => hFc q h) hFc (fun u790 t790 H790 locs790 ht790 hvm790 hw790 hB790 hz790 hk790 hS => ?_)
                        obtain ⟨q790, rfl⟩ : ∃ z, z = u790 := ⟨_, rfl⟩
                        obtain ⟨hP1, hD1⟩ := hB790
                        rw [ht790] at hP1
                        try dsimp only at hw790
                        obtain ⟨hP, hD⟩ := va_join (wr := []) (w1 := [(qm, .inr (6, [.ref qz, .ref qa, .ref qe, .int (nI (rcN sts)), .ref qs, .ref qv, .ref qp, .int (nI len), .int go786, .ref qn])), (qz, .inl (cI, 46, .inl (dcM zc (nI (cv - 48))))), (qa, .inl (cI, 46, .inl as)), (qe, .inl (cI, 276, .inl (rcB be z sts))), (qs, .inl (cI, 92, .inl sl)), (qv, .inl (cZ, 2, .inl sv)), (qp, .inl (cI, 60, .inl pd)), (qn, .inl (cI, 36, .inl nd))]) hP hD [0, 1, 2, 3, 4, 5, 6, 7] [] rfl rfl (by decide) (by decide) hk790 hFc hP1 hD1
                        have hP : va_P G vwCl [(qm, .inr (6, [.ref qz, .ref qa, .ref qe, .int (nI (rcN sts)), .ref qs, .ref qv, .ref qp, .int (nI len), .int go786, .ref qn])), (qz, .inl (cI, 46, .inl (dcM zc (nI (cv - 48))))), (qa, .inl (cI, 46, .inl as)), (qe, .inl (cI, 276, .inl (rcB be z sts))), (qs, .inl (cI, 92, .inl sl)), (qv, .inl (cZ, 2, .inl sv)), (qp, .inl (cI, 60, .inl pd)), (qn, .inl (cI, 36, .inl nd))] H790 := hP
                        have hD : va_D A [(qm, .inr (6, [.ref qz, .ref qa, .ref qe, .int (nI (rcN sts)), .ref qs, .ref qv, .ref qp, .int (nI len), .int go786, .ref qn])), (qz, .inl (cI, 46, .inl (dcM zc (nI (cv - 48))))), (qa, .inl (cI, 46, .inl as)), (qe, .inl (cI, 276, .inl (rcB be z sts))), (qs, .inl (cI, 92, .inl sl)), (qv, .inl (cZ, 2, .inl sv)), (qp, .inl (cI, 60, .inl pd)), (qn, .inl (cI, 36, .inl nd))] := hD
                        have dm : okm (dcM zc (nI (cv - 48))) := dcM_okm hm
                        have d40 : (dcM zc (nI (cv - 48))) 40 = nI pl2 := by rw [dcM_lo (by decide)]; exact h40z
                        have h0d : mwn (dcM zc (nI (cv - 48))) (3 * pl2 + jv - 97) (cv - 48) = 0 := by rw [mwn_dc (by omega)]; exact c_787
                        refine lv_aload_n hx hb dX6_read_135 rfl (lv_at hl 5 rfl) ?_
                        refine va_get (D := G) (ci := 6) (v := .ref qp) (C := RX6) (T := TX6) (N := 10) hx hb hts inlX6 hown hK.1 hP 0 rfl rfl 6 (by decide) (hts _ wd84) (fun _ h9 => h9) rfl dX6_read_136 ?_
                        refine lv_iload_n hx hb dX6_read_139 rfl (lv_at hl 3 rfl) ?_
                        refine lv_iconst (v := 1) hx hb dX6_read_140 (by decide) ?_
                        refine zi_add hx hb (2 * t0) 1 dX6_read_141 rfl rfl ?_
                        refine za_ld hx hb hK.1 hP 6 0 rfl rfl ((2 * t0) + 1) rfl (by omega) (by decide) dX6_read_142 ?_
                        refine lv_bipush (v := 45) hx hb dX6_read_143 (by decide) ?_
                        refine zi_eq (tgt := 156) hx hb jv 45 dX6_read_145 (by decide) ej rfl (by omega) (by decide) (fun c_791 => ?_) (fun c_791 => ?_)
                        · exact absurd c_791 (by omega)
                        · refine lv_aload_n hx hb dX6_read_148 rfl (lv_at hl 5 rfl) ?_
                          refine lv_iload hx hb dX6_read_149 (lv_at hl 1 rfl) ?_
                          refine lv_iload hx hb dX6_read_151 (lv_at hl 2 rfl) ?_
                          have hPc : va_P G vwCl [(qm, .inr (6, [.ref qz, .ref qa, .ref qe, .int (nI (rcN sts)), .ref qs, .ref qv, .ref qp, .int (nI len), .int go786, .ref qn])), (qz, .inl (cI, 46, .inl (dcM zc (nI (cv - 48))))), (qa, .inl (cI, 46, .inl as)), (qe, .inl (cI, 276, .inl (rcB be z sts))), (qs, .inl (cI, 92, .inl sl)), (qv, .inl (cZ, 2, .inl sv)), (qp, .inl (cI, 60, .inl pd)), (qn, .inl (cI, 36, .inl nd))] H790 := hP
                          have hDc := hD.tt
                          have hFc := va_free (wc := [(qm, .inr (6, [.ref qz, .ref qa, .ref qe, .int (nI (rcN sts)), .ref qs, .ref qv, .ref qp, .int (nI len), .int go786, .ref qn])), (qz, .inl (cI, 46, .inl (dcM zc (nI (cv - 48))))), (qa, .inl (cI, 46, .inl as)), (qe, .inl (cI, 276, .inl (rcB be z sts))), (qs, .inl (cI, 92, .inl sl)), (qv, .inl (cZ, 2, .inl sv)), (qp, .inl (cI, 60, .inl pd)), (qn, .inl (cI, 36, .inl nd))]) hD hS hA [0, 1, 2, 3, 4, 5, 6, 7] rfl
                          refine va_callv (va_runV (As := [.int (nI (((3 * pl2) + jv) - 97)), .int (nI (cv - 48))]) (rest := []) ⟨hx, hb, hml, hown, hts⟩ (c_X6_doMove l G cI cC cZ cG H790.size qm qz qa qe qs qv qp qn (dcM zc (nI (cv - 48))) as (rcB be z sts) sl sv pd nd (rcN sts) len go786 (((3 * pl2) + jv) - 97) (cv - 48) dm.1 (by omega) (by omega) (by omega) h0d) (cf_RX6_124 hts ⟨Nat.le_of_ble_eq_true rfl, Nat.le_of_ble_eq_true rfl⟩) (pre_V hK hPc hDc (ci := 6) (q0 := 0) rfl rfl) rfl rfl hl.1 rfl (lv_room (Nat.le_of_ble_eq_true rfl)) dX6_read_153 ⟨Nat.le_of_ble_eq_true rfl, Nat.le_of_ble_eq_true rfl⟩) hS (fun q _ h => hFc q h) hFc (fun u792 t792 H792 locs792 ht792 hvm792 hw792 hB792 hz792 hk792 hS => ?_)
                          obtain ⟨z792, go792⟩ := u792
                          obtain ⟨hP1, hD1⟩ := hB792
                          rw [ht792] at hP1
                          try dsimp only at hw792
                          obtain ⟨hP, hD⟩ := va_join (wr := []) (w1 := [(qm, .inr (6, [.ref qz, .ref qa, .ref qe, .int (nI (rcN sts)), .ref qs, .ref qv, .ref qp, .int (nI len), .int go792, .ref qn])), (qz, .inl (cI, 46, .inl z792)), (qa, .inl (cI, 46, .inl as)), (qe, .inl (cI, 276, .inl (rcB be z sts))), (qs, .inl (cI, 92, .inl sl)), (qv, .inl (cZ, 2, .inl sv)), (qp, .inl (cI, 60, .inl pd)), (qn, .inl (cI, 36, .inl nd))]) hP hD [0, 1, 2, 3, 4, 5, 6, 7] [] rfl rfl (by decide) (by decide) hk792 hFc hP1 hD1
                          have hP : va_P G vwCl [(qm, .inr (6, [.ref qz, .ref qa, .ref qe, .int (nI (rcN sts)), .ref qs, .ref qv, .ref qp, .int (nI len), .int go792, .ref qn])), (qz, .inl (cI, 46, .inl z792)), (qa, .inl (cI, 46, .inl as)), (qe, .inl (cI, 276, .inl (rcB be z sts))), (qs, .inl (cI, 92, .inl sl)), (qv, .inl (cZ, 2, .inl sv)), (qp, .inl (cI, 60, .inl pd)), (qn, .inl (cI, 36, .inl nd))] H792 := hP
                          have hD : va_D A [(qm, .inr (6, [.ref qz, .ref qa, .ref qe, .int (nI (rcN sts)), .ref qs, .ref qv, .ref qp, .int (nI len), .int go792, .ref qn])), (qz, .inl (cI, 46, .inl z792)), (qa, .inl (cI, 46, .inl as)), (qe, .inl (cI, 276, .inl (rcB be z sts))), (qs, .inl (cI, 92, .inl sl)), (qv, .inl (cZ, 2, .inl sv)), (qp, .inl (cI, 60, .inl pd)), (qn, .inl (cI, 36, .inl nd))] := hD
                          have em : z792 = mv2 (dcM zc (nI (cv - 48))) pl2 (cv - 48) (jv - 97) := by rw [mv2, ← show 3 * pl2 + jv - 97 = 3 * pl2 + (jv - 97) by omega]; exact hw792
                          have q40 : z792 40 = nI pl2 := by rw [em, mv2, mvM_hi (by omega) (by omega) (by omega) (by omega)]; exact d40
                          refine lv_aload_n hx hb dX6_read_156 rfl (lv_at hl 5 rfl) ?_
                          have hPc : va_P G vwCl [(qm, .inr (6, [.ref qz, .ref qa, .ref qe, .int (nI (rcN sts)), .ref qs, .ref qv, .ref qp, .int (nI len), .int go792, .ref qn])), (qz, .inl (cI, 46, .inl z792)), (qa, .inl (cI, 46, .inl as)), (qe, .inl (cI, 276, .inl (rcB be z sts))), (qs, .inl (cI, 92, .inl sl)), (qv, .inl (cZ, 2, .inl sv)), (qp, .inl (cI, 60, .inl pd)), (qn, .inl (cI, 36, .inl nd))] H792 := hP
                          have hDc := hD.tt
                          have hFc := va_free (wc := [(qm, .inr (6, [.ref qz, .ref qa, .ref qe, .int (nI (rcN sts)), .ref qs, .ref qv, .ref qp, .int (nI len), .int go792, .ref qn])), (qz, .inl (cI, 46, .inl z792)), (qa, .inl (cI, 46, .inl as)), (qe, .inl (cI, 276, .inl (rcB be z sts))), (qs, .inl (cI, 92, .inl sl)), (qv, .inl (cZ, 2, .inl sv)), (qp, .inl (cI, 60, .inl pd)), (qn, .inl (cI, 36, .inl nd))]) hD hS hA [0, 1, 2, 3, 4, 5, 6, 7] rfl
                          refine va_callv (va_runV (As := []) (rest := []) ⟨hx, hb, hml, hown, hts⟩ (c_X6_goOn l G cI cC cZ cG H792.size qm qz qa qe qs qv qp qn z792 as (rcB be z sts) sl sv pd nd (rcN sts) len go792 pl2 hpl2 q40) (cf_RX6_128 hts ⟨Nat.le_of_ble_eq_true rfl, Nat.le_of_ble_eq_true rfl⟩) (pre_V hK hPc hDc (ci := 6) (q0 := 0) rfl rfl) rfl rfl hl.1 rfl (lv_room (Nat.le_of_ble_eq_true rfl)) dX6_read_157 ⟨Nat.le_of_ble_eq_true rfl, Nat.le_of_ble_eq_true rfl⟩) hS (fun q _ h => hFc q h) hFc (fun u793 t793 H793 locs793 ht793 hvm793 hw793 hB793 hz793 hk793 hS => ?_)
                          obtain ⟨z793, rfl⟩ : ∃ z, z = u793 := ⟨_, rfl⟩
                          obtain ⟨hP1, hD1⟩ := hB793
                          rw [ht793] at hP1
                          try dsimp only at hw793
                          obtain ⟨hP, hD⟩ := va_join (wr := []) (w1 := [(qm, .inr (6, [.ref qz, .ref qa, .ref qe, .int (nI (rcN sts)), .ref qs, .ref qv, .ref qp, .int (nI len), .int go792, .ref qn])), (qz, .inl (cI, 46, .inl z793)), (qa, .inl (cI, 46, .inl as)), (qe, .inl (cI, 276, .inl (rcB be z sts))), (qs, .inl (cI, 92, .inl sl)), (qv, .inl (cZ, 2, .inl sv)), (qp, .inl (cI, 60, .inl pd)), (qn, .inl (cI, 36, .inl nd))]) hP hD [0, 1, 2, 3, 4, 5, 6, 7] [] rfl rfl (by decide) (by decide) hk793 hFc hP1 hD1
                          have hP : va_P G vwCl [(qm, .inr (6, [.ref qz, .ref qa, .ref qe, .int (nI (rcN sts)), .ref qs, .ref qv, .ref qp, .int (nI len), .int go792, .ref qn])), (qz, .inl (cI, 46, .inl z793)), (qa, .inl (cI, 46, .inl as)), (qe, .inl (cI, 276, .inl (rcB be z sts))), (qs, .inl (cI, 92, .inl sl)), (qv, .inl (cZ, 2, .inl sv)), (qp, .inl (cI, 60, .inl pd)), (qn, .inl (cI, 36, .inl nd))] H793 := hP
                          have hD : va_D A [(qm, .inr (6, [.ref qz, .ref qa, .ref qe, .int (nI (rcN sts)), .ref qs, .ref qv, .ref qp, .int (nI len), .int go792, .ref qn])), (qz, .inl (cI, 46, .inl z793)), (qa, .inl (cI, 46, .inl as)), (qe, .inl (cI, 276, .inl (rcB be z sts))), (qs, .inl (cI, 92, .inl sl)), (qv, .inl (cZ, 2, .inl sv)), (qp, .inl (cI, 60, .inl pd)), (qn, .inl (cI, 36, .inl nd))] := hD
                          refine lv_iinc (v := nI (dn + 1)) (lv' := [(1, .int (nI (dn + 1))), (2, .int 1), (5, .int (nI (((3 * pl2) + jv) - 97))), (4, .int (nI (cv - 48))), (3, .int (nI (2 * t0))), (0, .ref qm)]) hx hb dX6_read_160 hl (k := 4) rfl (nI_inc dn) (by decide) rfl (fun ls hl => ?_)
                          refine lv_iinc (v := nI ((2 * t0) + 2)) (lv' := [(3, .int (nI ((2 * t0) + 2))), (1, .int (nI (dn + 1))), (2, .int 1), (5, .int (nI (((3 * pl2) + jv) - 97))), (4, .int (nI (cv - 48))), (0, .ref qm)]) hx hb dX6_read_163 hl (k := 4) rfl (nI_incn (2 * t0) 2) (by decide) rfl (fun ls hl => ?_)
                          refine lv_goto (tgt := 30) hx hb dX6_read_166 (by decide) ?_
                          have hfz : z793 = rdZ pd zc t0 := (by rw [rdZ_m hv1 hv2 ev h40z hpl2 hj1 hj2 ej]; exact (by rw [← em]; exact hw793))
                          exact ih1 (t0 + 1) (dn + 1) true z793 go792 (by rw [hfz, rdZ_m hv1 hv2 ev h40z hpl2 hj1 hj2 ej]; exact goM_okm hpl2 (by rw [← em]; exact q40) (mv2_okm (by omega) dm)) (by omega) (by omega) (rdS_go hf2 (by rw [rdG_m hv1 hv2 ev h40z hpl2 hj1 hj2 ej, ← show 3 * pl2 + jv - 97 = 3 * pl2 + (jv - 97) by omega]; simp [Decidable.not_not.mp c_783, c_787]) hfz) (by omega) H793 locs793 hP hD hS _ (lv_sub hl [0, 2, 1, 5] rfl)
                  · exact absurd c_785 (by omega)
      exact L1 (len / 2 + 1) 0 0 true z go (⟨hz, hx0, pl, hpl, h40⟩) (by omega) (by decide) rfl (by omega) H765 locs765 hP hD hS _ (lv_sub hl [0, 1, 2, 3] rfl)
    · refine lv_bipush (v := (-5)) hx hb dX6_read_17 (by decide) ?_
      subst hQ
      exact W.iret (v := (-5)) hx hb hr (fun t ht hW => ⟨⟨(-5), (z, be, sts, sl, sv, pd, len, as, go, nd), rfl, ⟨by show _ = Prod.fst (_ : Int32 × KS); rw [m_read, if_neg (fun h => h c_762), if_pos c_764], by rw [m_read, if_neg (fun h => h c_762), if_pos c_764]; rfl⟩, by rw [ht]; exact hP, hD⟩, hS.F ht⟩) hS.2.2 dX6_read_19
  · refine lv_bipush (v := (-3)) hx hb dX6_read_7 (by decide) ?_
    subst hQ
    exact W.iret (v := (-3)) hx hb hr (fun t ht hW => ⟨⟨(-3), (z, be, sts, sl, sv, pd, len, as, go, nd), rfl, ⟨by show _ = Prod.fst (_ : Int32 × KS); rw [m_read, if_pos c_762], by rw [m_read, if_pos c_762]; rfl⟩, by rw [ht]; exact hP, hD⟩, hS.F ht⟩) hS.2.2 dX6_read_9
