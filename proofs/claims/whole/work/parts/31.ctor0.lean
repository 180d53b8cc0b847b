abbrev rm_X0_init : Room := { frames := 1, cells := 4, slots := 32, locals := 30 }
set_option maxHeartbeats 1000000 in
set_option maxRecDepth 100000 in
theorem c_X0_init (l : Launch) (G : va_G) (cI cC cZ cG : ClassId) (sz : Nat) (qb : Nat) : Met l yX0_init (.code yX0_init cX0_init 2 none :: wsL_law) rm_X0_init (va_Pc [.ref qb] (bw G cI cC cZ cG false sz [(qb, .inr (0, [.null, .null, .null, .null, .int 0]))])) (va_Qv (fun (u : Nat × Nat × Nat × Nat) => True) (fun (u : Nat × Nat × Nat × Nat) t => va_P G vwCl [(qb, .inr (0, [.ref u.1, .ref u.2.1, .ref u.2.2.1, .ref u.2.2.2, .int 0])), (u.1, .inl (cI, 12, .inl iPr)), (u.2.1, .inl (cI, 12, .inl zrA)), (u.2.2.1, .inl (cI, 4, .inl iBr)), (u.2.2.2, .inl (cI, 4, .inl zrA))] t.heap ∧ va_D (va_A [(qb, .inr (0, [.null, .null, .null, .null, .int 0]))] sz) [(qb, .inr (0, [.ref u.1, .ref u.2.1, .ref u.2.2.1, .ref u.2.2.2, .int 0])), (u.1, .inl (cI, 12, .inl iPr)), (u.2.1, .inl (cI, 12, .inl zrA)), (u.2.2.1, .inl (cI, 4, .inl iBr)), (u.2.2.2, .inl (cI, 4, .inl zrA))]) (va_A [(qb, .inr (0, [.null, .null, .null, .null, .int 0]))] sz)) 4 32 (va_A [(qb, .inr (0, [.null, .null, .null, .null, .int 0]))] sz) := by
  refine met_bw rfl (Nat.le_of_ble_eq_true rfl) ?_
  intro p e s m below meth c ls hx hb hr hml hown hts hlocks hin hsz hP hK hD0 hX0 hl
  have hown : s.vm.findClass RX0 = some m.cls := hown
  have hl : lv_has ls 2 [(0, .ref qb)] := hl
  subst hsz
  have hD := hD0.self (sz := s.heap.size)
  generalize hAe : va_A [(qb, .inr (0, [.null, .null, .null, .null, .int 0]))] s.heap.size = A at hD ⊢
  have hA : ∀ q : Nat, s.heap.size ≤ q → A q := fun q h => by rw [← hAe]; exact Or.inr h
  have hS : va_S A s.heap s.heap [] := va_S.rf
  generalize hQ : MQ below (va_Qv (fun (u : Nat × Nat × Nat × Nat) => True) (fun (u : Nat × Nat × Nat × Nat) t => va_P G vwCl [(qb, .inr (0, [.ref u.1, .ref u.2.1, .ref u.2.2.1, .ref u.2.2.2, .int 0])), (u.1, .inl (cI, 12, .inl iPr)), (u.2.1, .inl (cI, 12, .inl zrA)), (u.2.2.1, .inl (cI, 4, .inl iBr)), (u.2.2.2, .inl (cI, 4, .inl zrA))] t.heap ∧ va_D A [(qb, .inr (0, [.ref u.1, .ref u.2.1, .ref u.2.2.1, .ref u.2.2.2, .int 0])), (u.1, .inl (cI, 12, .inl iPr)), (u.2.1, .inl (cI, 12, .inl zrA)), (u.2.2.1, .inl (cI, 4, .inl iBr)), (u.2.2.2, .inl (cI, 4, .inl zrA))]) A) ([.ref qb] : List Value).toArray s 4 32 A = Q
  generalize hag : ([.ref qb] : List Value).toArray = ag at hts hQ ⊢
  refine lv_aload_n hx hb dX0_init_0 rfl (lv_at hl 0 rfl) ?_
  refine W.objInit hx hb hown (hts _ wd51) (hts _ wd11) (hts _ wd12) rfl (by rw [hml]; exact hl.1) rfl dX0_init_1 (Nat.le_of_ble_eq_true rfl) (Nat.le_of_ble_eq_true rfl) ?_
  refine W.eq (g2 := F0 m 4 ls []) rfl ?_
  refine lv_aload_n hx hb dX0_init_4 rfl (lv_at hl 0 rfl) ?_
  refine lv_bipush (v := 12) hx hb dX0_init_5 (by decide) ?_
  refine va_newa (atype := .int) (a0 := (12, .inl (fun _ => 0))) hx hb (hts _ wd38) rfl hK.1 hP hD hS hA (fun _ => rfl) (by decide) (by decide) (by decide) (Nat.le_of_ble_eq_true rfl) (Nat.le_of_ble_eq_true rfl) dX0_init_7 (fun q794 cA794 H794 hK9 hP hD hS => ?_)
  obtain rfl := cls_int hK9
  clear hK9
  have hP : va_P G vwCl [(qb, .inr (0, [.null, .null, .null, .null, .int 0])), (q794, .inl (cI, 12, .inl (fun _ => 0)))] H794 := hP
  have hD : va_D A [(qb, .inr (0, [.null, .null, .null, .null, .int 0])), (q794, .inl (cI, 12, .inl (fun _ => 0)))] := hD
  refine va_putF (D := G) (ci := 0) (v := .ref q794) (ty := .array .int) (C := RX0) (T := TX0) (N := 5) hx hb hts inlX0 tyX0 tyX0_ok nmX0 hown hK.1 hP hD hS 0 rfl rfl 0 (by decide) (hts _ wd52) (fun _ h9 => h9) rfl hin rfl (by decide +kernel) rfl rfl (Nat.le_of_ble_eq_true rfl) dX0_init_9 (fun H795 locs795 hP hD hS => ?_)
  have hP : va_P G vwCl [(qb, .inr (0, [.ref q794, .null, .null, .null, .int 0])), (q794, .inl (cI, 12, .inl (fun _ => 0)))] H795 := hP
  have hD : va_D A [(qb, .inr (0, [.ref q794, .null, .null, .null, .int 0])), (q794, .inl (cI, 12, .inl (fun _ => 0)))] := hD
  refine lv_aload_n hx hb dX0_init_12 rfl (lv_at hl 0 rfl) ?_
  refine lv_bipush (v := 12) hx hb dX0_init_13 (by decide) ?_
  refine va_newa (atype := .int) (a0 := (12, .inl (fun _ => 0))) hx hb (hts _ wd38) rfl hK.1 hP hD hS hA (fun _ => rfl) (by decide) (by decide) (by decide) (Nat.le_of_ble_eq_true rfl) (Nat.le_of_ble_eq_true rfl) dX0_init_15 (fun q796 cA796 H796 hK9 hP hD hS => ?_)
  obtain rfl := cls_int hK9
  clear hK9
  have hP : va_P G vwCl [(qb, .inr (0, [.ref q794, .null, .null, .null, .int 0])), (q794, .inl (cI, 12, .inl (fun _ => 0))), (q796, .inl (cI, 12, .inl (fun _ => 0)))] H796 := hP
  have hD : va_D A [(qb, .inr (0, [.ref q794, .null, .null, .null, .int 0])), (q794, .inl (cI, 12, .inl (fun _ => 0))), (q796, .inl (cI, 12, .inl (fun _ => 0)))] := hD
  refine va_putF (D := G) (ci := 0) (v := .ref q796) (ty := .array .int) (C := RX0) (T := TX0) (N := 5) hx hb hts inlX0 tyX0 tyX0_ok nmX0 hown hK.1 hP hD hS 0 rfl rfl 1 (by decide) (hts _ wd53) (fun _ h9 => h9) rfl hin rfl (by decide +kernel) rfl rfl (Nat.le_of_ble_eq_true rfl) dX0_init_17 (fun H797 locs797 hP hD hS => ?_)
  have hP : va_P G vwCl [(qb, .inr (0, [.ref q794, .ref q796, .null, .null, .int 0])), (q794, .inl (cI, 12, .inl (fun _ => 0))), (q796, .inl (cI, 12, .inl (fun _ => 0)))] H797 := hP
  have hD : va_D A [(qb, .inr (0, [.ref q794, .ref q796, .null, .null, .int 0])), (q794, .inl (cI, 12, .inl (fun _ => 0))), (q796, .inl (cI, 12, .inl (fun _ => 0)))] := hD
  refine lv_aload_n hx hb dX0_init_20 rfl (lv_at hl 0 rfl) ?_
  refine lv_iconst (v := 4) hx hb dX0_init_21 (by decide) ?_
  refine va_newa (atype := .int) (a0 := (4, .inl (fun _ => 0))) hx hb (hts _ wd38) rfl hK.1 hP hD hS hA (fun _ => rfl) (by decide) (by decide) (by decide) (Nat.le_of_ble_eq_true rfl) (Nat.le_of_ble_eq_true rfl) dX0_init_22 (fun q798 cA798 H798 hK9 hP hD hS => ?_)
  obtain rfl := cls_int hK9
  clear hK9
  have hP : va_P G vwCl [(qb, .inr (0, [.ref q794, .ref q796, .null, .null, .int 0])), (q794, .inl (cI, 12, .inl (fun _ => 0))), (q796, .inl (cI, 12, .inl (fun _ => 0))), (q798, .inl (cI, 4, .inl (fun _ => 0)))] H798 := hP
  have hD : va_D A [(qb, .inr (0, [.ref q794, .ref q796, .null, .null, .int 0])), (q794, .inl (cI, 12, .inl (fun _ => 0))), (q796, .inl (cI, 12, .inl (fun _ => 0))), (q798, .inl (cI, 4, .inl (fun _ => 0)))] := hD
  refine va_putF (D := G) (ci := 0) (v := .ref q798) (ty := .array .int) (C := RX0) (T := TX0) (N := 5) hx hb hts inlX0 tyX0 tyX0_ok nmX0 hown hK.1 hP hD hS 0 rfl rfl 2 (by decide) (hts _ wd54) (fun _ h9 => h9) rfl hin rfl (by decide +kernel) rfl rfl (Nat.le_of_ble_eq_true rfl) dX0_init_24 (fun H799 locs799 hP hD hS => ?_)
  have hP : va_P G vwCl [(qb, .inr (0, [.ref q794, .ref q796, .ref q798, .null, .int 0])), (q794, .inl (cI, 12, .inl (fun _ => 0))), (q796, .inl (cI, 12, .inl (fun _ => 0))), (q798, .inl (cI, 4, .inl (fun _ => 0)))] H799 := hP
  have hD : va_D A [(qb, .inr (0, [.ref q794, .ref q796, .ref q798, .null, .int 0])), (q794, .inl (cI, 12, .inl (fun _ => 0))), (q796, .inl (cI, 12, .inl (fun _ => 0))), (q798, .inl (cI, 4, .inl (fun _ => 0)))] := hD
  refine lv_aload_n hx hb dX0_init_27 rfl (lv_at hl 0 rfl) ?_
  refine lv_iconst (v := 4) hx hb dX0_init_28 (by decide) ?_
  refine va_newa (atype := .int) (a0 := (4, .inl (fun _ => 0))) hx hb (hts _ wd38) rfl hK.1 hP hD hS hA (fun _ => rfl) (by decide) (by decide) (by decide) (Nat.le_of_ble_eq_true rfl) (Nat.le_of_ble_eq_true rfl) dX0_init_29 (fun q800 cA800 H800 hK9 hP hD hS => ?_)
  obtain rfl := cls_int hK9
  clear hK9
  have hP : va_P G vwCl [(qb, .inr (0, [.ref q794, .ref q796, .ref q798, .null, .int 0])), (q794, .inl (cI, 12, .inl (fun _ => 0))), (q796, .inl (cI, 12, .inl (fun _ => 0))), (q798, .inl (cI, 4, .inl (fun _ => 0))), (q800, .inl (cI, 4, .inl (fun _ => 0)))] H800 := hP
  have hD : va_D A [(qb, .inr (0, [.ref q794, .ref q796, .ref q798, .null, .int 0])), (q794, .inl (cI, 12, .inl (fun _ => 0))), (q796, .inl (cI, 12, .inl (fun _ => 0))), (q798, .inl (cI, 4, .inl (fun _ => 0))), (q800, .inl (cI, 4, .inl (fun _ => 0)))] := hD
  refine va_putF (D := G) (ci := 0) (v := .ref q800) (ty := .array .int) (C := RX0) (T := TX0) (N := 5) hx hb hts inlX0 tyX0 tyX0_ok nmX0 hown hK.1 hP hD hS 0 rfl rfl 3 (by decide) (hts _ wd55) (fun _ h9 => h9) rfl hin rfl (by decide +kernel) rfl rfl (Nat.le_of_ble_eq_true rfl) dX0_init_31 (fun H801 locs801 hP hD hS => ?_)
  have hP : va_P G vwCl [(qb, .inr (0, [.ref q794, .ref q796, .ref q798, .ref q800, .int 0])), (q794, .inl (cI, 12, .inl (fun _ => 0))), (q796, .inl (cI, 12, .inl (fun _ => 0))), (q798, .inl (cI, 4, .inl (fun _ => 0))), (q800, .inl (cI, 4, .inl (fun _ => 0)))] H801 := hP
  have hD : va_D A [(qb, .inr (0, [.ref q794, .ref q796, .ref q798, .ref q800, .int 0])), (q794, .inl (cI, 12, .inl (fun _ => 0))), (q796, .inl (cI, 12, .inl (fun _ => 0))), (q798, .inl (cI, 4, .inl (fun _ => 0))), (q800, .inl (cI, 4, .inl (fun _ => 0)))] := hD
  refine lv_aload_n hx hb dX0_init_34 rfl (lv_at hl 0 rfl) ?_
  refine lv_iconst (v := 0) hx hb dX0_init_35 (by decide) ?_
  refine va_put (D := G) (ci := 0) (v := .int 0) (ty := .int) (C := RX0) (T := TX0) (N := 5) hx hb hts inlX0 tyX0 tyX0_ok nmX0 hown hK.1 hP hD hS 0 rfl rfl 4 (by decide) (hts _ wd56) (fun _ h9 => h9) rfl (by decide +kernel) rfl rfl (Nat.le_of_ble_eq_true rfl) dX0_init_36 (fun H802 locs802 hP hD hS => ?_)
  have hP : va_P G vwCl [(qb, .inr (0, [.ref q794, .ref q796, .ref q798, .ref q800, .int 0])), (q794, .inl (cI, 12, .inl (fun _ => 0))), (q796, .inl (cI, 12, .inl (fun _ => 0))), (q798, .inl (cI, 4, .inl (fun _ => 0))), (q800, .inl (cI, 4, .inl (fun _ => 0)))] H802 := hP
  have hD : va_D A [(qb, .inr (0, [.ref q794, .ref q796, .ref q798, .ref q800, .int 0])), (q794, .inl (cI, 12, .inl (fun _ => 0))), (q796, .inl (cI, 12, .inl (fun _ => 0))), (q798, .inl (cI, 4, .inl (fun _ => 0))), (q800, .inl (cI, 4, .inl (fun _ => 0)))] := hD
  refine lv_iconst (v := 0) hx hb dX0_init_39 (by decide) ?_
  refine lv_istore_n (lv' := [(1, .int 0), (0, .ref qb)]) hx hb dX0_init_40 rfl hl (by decide) rfl (fun ls hl => ?_)
  have L1 : ∀ (n : Nat), ∀ (i : Nat), ∀ (nc : IA), ∀ (hi : i ≤ 12), ∀ (hf2 : nc = flv (-6) zrA i), ∀ (hn : 13 ≤ i + n), ∀ (H803 : Heap) (locs803 : List Loc), va_P G vwCl [(qb, .inr (0, [.ref q794, .ref q796, .ref q798, .ref q800, .int 0])), (q794, .inl (cI, 12, .inl nc)), (q796, .inl (cI, 12, .inl (fun _ => 0))), (q798, .inl (cI, 4, .inl (fun _ => 0))), (q800, .inl (cI, 4, .inl (fun _ => 0)))] H803 → va_D A [(qb, .inr (0, [.ref q794, .ref q796, .ref q798, .ref q800, .int 0])), (q794, .inl (cI, 12, .inl nc)), (q796, .inl (cI, 12, .inl (fun _ => 0))), (q798, .inl (cI, 4, .inl (fun _ => 0))), (q800, .inl (cI, 4, .inl (fun _ => 0)))] → va_S A s.heap H803 locs803 → ∀ (ls : Array Slot), lv_has ls 2 [(1, .int (nI i)), (0, .ref qb)] → W p l e rm_X0_init s m ag below meth c H803 locs803 4 32 Q (F0 m 41 ls []) := by
    intro n
    induction n with
    | zero =>
      intro i nc hi hf2 hn H803 locs803 hP hD hS ls hl
      omega
    | succ n ih1 =>
      intro i nc hi hf2 hn H803 locs803 hP hD hS ls hl
      refine lv_iload_n hx hb dX0_init_41 rfl (lv_at hl 0 rfl) ?_
      refine lv_bipush (v := 12) hx hb dX0_init_42 (by decide) ?_
      refine zi_ge (tgt := 61) hx hb i 12 dX0_init_44 (by decide) rfl rfl (by omega) (by decide) (fun c_804 => ?_) (fun c_804 => ?_)
      · obtain rfl : nc = iPr := by rw [hf2, show i = 12 by omega]; rfl
        refine lv_iconst (v := 0) hx hb dX0_init_61 (by decide) ?_
        refine lv_istore_n (lv' := [(1, .int 0), (0, .ref qb)]) hx hb dX0_init_62 rfl hl (by decide) rfl (fun ls hl => ?_)
        have L2 : ∀ (n : Nat), ∀ (i : Nat), ∀ (nc : IA), ∀ (hi : i ≤ 4), ∀ (hf2 : nc = flv 1 zrA i), ∀ (hn : 5 ≤ i + n), ∀ (H805 : Heap) (locs805 : List Loc), va_P G vwCl [(qb, .inr (0, [.ref q794, .ref q796, .ref q798, .ref q800, .int 0])), (q794, .inl (cI, 12, .inl iPr)), (q796, .inl (cI, 12, .inl (fun _ => 0))), (q798, .inl (cI, 4, .inl nc)), (q800, .inl (cI, 4, .inl (fun _ => 0)))] H805 → va_D A [(qb, .inr (0, [.ref q794, .ref q796, .ref q798, .ref q800, .int 0])), (q794, .inl (cI, 12, .inl iPr)), (q796, .inl (cI, 12, .inl (fun _ => 0))), (q798, .inl (cI, 4, .inl nc)), (q800, .inl (cI, 4, .inl (fun _ => 0)))] → va_S A s.heap H805 locs805 → ∀ (ls : Array Slot), lv_has ls 2 [(1, .int (nI i)), (0, .ref qb)] → W p l e rm_X0_init s m ag below meth c H805 locs805 4 32 Q (F0 m 63 ls []) := by
          intro n
          induction n with
          | zero =>
            intro i nc hi hf2 hn H805 locs805 hP hD hS ls hl
            omega
          | succ n ih2 =>
            intro i nc hi hf2 hn H805 locs805 hP hD hS ls hl
            refine lv_iload_n hx hb dX0_init_63 rfl (lv_at hl 0 rfl) ?_
            refine lv_iconst (v := 4) hx hb dX0_init_64 (by decide) ?_
            refine zi_ge (tgt := 81) hx hb i 4 dX0_init_65 (by decide) rfl rfl (by omega) (by decide) (fun c_806 => ?_) (fun c_806 => ?_)
            · obtain rfl : nc = iBr := by rw [hf2, show i = 4 by omega]; rfl
              subst hQ
              refine W.widen (k := 4) (n := 32) (by decide) (by decide) ?_
              exact W.vret hx hb hr (fun t ht hW => ⟨⟨(q794, q796, q798, q800), rfl, trivial, by rw [ht]; exact hP, hD⟩, hS.F ht⟩) hS.2.2 dX0_init_81
            · refine lv_aload_n hx hb dX0_init_68 rfl (lv_at hl 1 rfl) ?_
              refine va_get (D := G) (ci := 0) (v := .ref q798) (C := RX0) (T := TX0) (N := 5) hx hb hts inlX0 hown hK.1 hP 0 rfl rfl 2 (by decide) (hts _ wd54) (fun _ h9 => h9) rfl dX0_init_69 ?_
              refine lv_iload_n hx hb dX0_init_72 rfl (lv_at hl 0 rfl) ?_
              refine lv_iconst (v := 1) hx hb dX0_init_73 (by decide) ?_
              refine za_st hx hb hK.1 hP hD hS 3 0 rfl rfl i rfl (by omega) (by decide) dX0_init_74 (fun H807 locs807 hP hD hS => ?_)
              have hP : va_P G vwCl [(qb, .inr (0, [.ref q794, .ref q796, .ref q798, .ref q800, .int 0])), (q794, .inl (cI, 12, .inl iPr)), (q796, .inl (cI, 12, .inl (fun _ => 0))), (q798, .inl (cI, 4, .inl (upd nc i 1))), (q800, .inl (cI, 4, .inl (fun _ => 0)))] H807 := hP
              have hD : va_D A [(qb, .inr (0, [.ref q794, .ref q796, .ref q798, .ref q800, .int 0])), (q794, .inl (cI, 12, .inl iPr)), (q796, .inl (cI, 12, .inl (fun _ => 0))), (q798, .inl (cI, 4, .inl (upd nc i 1))), (q800, .inl (cI, 4, .inl (fun _ => 0)))] := hD
              refine lv_iinc (v := nI (i + 1)) (lv' := [(1, .int (nI (i + 1))), (0, .ref qb)]) hx hb dX0_init_75 hl (k := 0) rfl (nI_inc i) (by decide) rfl (fun ls hl => ?_)
              refine lv_goto (tgt := 63) hx hb dX0_init_78 (by decide) ?_
              exact ih2 (i + 1) (upd nc i 1) (by omega) (by rw [flv, ← hf2]) (by omega) H807 locs807 hP hD hS _ (lv_sub hl [0, 1] rfl)
        exact L2 5 0 (fun _ => 0) (by decide) rfl (by decide) H803 locs803 hP hD hS _ (lv_sub hl [0, 1] rfl)
      · refine lv_aload_n hx hb dX0_init_47 rfl (lv_at hl 1 rfl) ?_
        refine va_get (D := G) (ci := 0) (v := .ref q794) (C := RX0) (T := TX0) (N := 5) hx hb hts inlX0 hown hK.1 hP 0 rfl rfl 0 (by decide) (hts _ wd52) (fun _ h9 => h9) rfl dX0_init_48 ?_
        refine lv_iload_n hx hb dX0_init_51 rfl (lv_at hl 0 rfl) ?_
        refine lv_bipush (v := (-6)) hx hb dX0_init_52 (by decide) ?_
        refine za_st hx hb hK.1 hP hD hS 1 0 rfl rfl i rfl (by omega) (by decide) dX0_init_54 (fun H808 locs808 hP hD hS => ?_)
        have hP : va_P G vwCl [(qb, .inr (0, [.ref q794, .ref q796, .ref q798, .ref q800, .int 0])), (q794, .inl (cI, 12, .inl (upd nc i (-6)))), (q796, .inl (cI, 12, .inl (fun _ => 0))), (q798, .inl (cI, 4, .inl (fun _ => 0))), (q800, .inl (cI, 4, .inl (fun _ => 0)))] H808 := hP
        have hD : va_D A [(qb, .inr (0, [.ref q794, .ref q796, .ref q798, .ref q800, .int 0])), (q794, .inl (cI, 12, .inl (upd nc i (-6)))), (q796, .inl (cI, 12, .inl (fun _ => 0))), (q798, .inl (cI, 4, .inl (fun _ => 0))), (q800, .inl (cI, 4, .inl (fun _ => 0)))] := hD
        refine lv_iinc (v := nI (i + 1)) (lv' := [(1, .int (nI (i + 1))), (0, .ref qb)]) hx hb dX0_init_55 hl (k := 0) rfl (nI_inc i) (by decide) rfl (fun ls hl => ?_)
        refine lv_goto (tgt := 41) hx hb dX0_init_58 (by decide) ?_
        exact ih1 (i + 1) (upd nc i (-6)) (by omega) (by rw [flv, ← hf2]) (by omega) H808 locs808 hP hD hS _ (lv_sub hl [0, 1] rfl)
  exact L1 13 0 (fun _ => 0) (by decide) rfl (by decide) H802 locs802 hP hD hS _ (lv_sub hl [0, 1] rfl)

abbrev rm_X1_init : Room := { frames := 2, cells := 6, slots := 40, locals := 51 }
theorem cf_RX1_11 {R : Room} {s : State} {args : Array Value} (ht : ∀ w ∈ wsL_law, w.before args s = true) (hN : ∀ w ∈ nestW, va_Nw w s) (hR : rm_X0_init.frames + 1 ≤ R.frames ∧ 8 + (2 + 11) + rm_X0_init.locals ≤ R.locals) : va_CN R s args RX1 11 yX0_init "BridgedPachisi" cX0_init 2 none (.code yX0_init cX0_init 2 none :: wsL_law) rm_X0_init 4 32 0 ∧ yX0_init.name = "<init>" ∧ (Cond.instanceMethod yX0_init).before args s = true := ⟨cw_N 0 ht hN nw1 wd36 wd50 (by decide +kernel) rfl rfl hR, rfl, ht _ wd49⟩
set_option maxHeartbeats 1000000 in
set_option maxRecDepth 100000 in
theorem c_X1_init (l : Launch) (G : va_G) (cI cC cZ cG : ClassId) (sz : Nat) (qg : Nat) : Met l yX1_init (.code yX1_init cX1_init 1 none :: wsL_law) rm_X1_init (va_Pc [.ref qg] (bw G cI cC cZ cG true sz [(qg, .inr (1, [.null, .null, .int 0, .int 0, .int 0, .int 0, .int 0]))])) (va_Qv (fun (u : Nat × Nat × Nat × Nat × Nat × Nat) => True) (fun (u : Nat × Nat × Nat × Nat × Nat × Nat) t => va_P G vwCl [(qg, .inr (1, [.ref u.2.1, .ref u.1, .int 1, .int 0, .int (-6), .int 1, .int 0])), (u.1, .inl (cI, 3, .inl iSe)), (u.2.1, .inr (0, [.ref u.2.2.1, .ref u.2.2.2.1, .ref u.2.2.2.2.1, .ref u.2.2.2.2.2, .int 0])), (u.2.2.1, .inl (cI, 12, .inl iPr)), (u.2.2.2.1, .inl (cI, 12, .inl zrA)), (u.2.2.2.2.1, .inl (cI, 4, .inl iBr)), (u.2.2.2.2.2, .inl (cI, 4, .inl zrA))] t.heap ∧ va_D (va_A [(qg, .inr (1, [.null, .null, .int 0, .int 0, .int 0, .int 0, .int 0]))] sz) [(qg, .inr (1, [.ref u.2.1, .ref u.1, .int 1, .int 0, .int (-6), .int 1, .int 0])), (u.1, .inl (cI, 3, .inl iSe)), (u.2.1, .inr (0, [.ref u.2.2.1, .ref u.2.2.2.1, .ref u.2.2.2.2.1, .ref u.2.2.2.2.2, .int 0])), (u.2.2.1, .inl (cI, 12, .inl iPr)), (u.2.2.2.1, .inl (cI, 12, .inl zrA)), (u.2.2.2.2.1, .inl (cI, 4, .inl iBr)), (u.2.2.2.2.2, .inl (cI, 4, .inl zrA))]) (va_A [(qg, .inr (1, [.null, .null, .int 0, .int 0, .int 0, .int 0, .int 0]))] sz)) 6 40 (va_A [(qg, .inr (1, [.null, .null, .int 0, .int 0, .int 0, .int 0, .int 0]))] sz) := by
  refine met_bw rfl (Nat.le_of_ble_eq_true rfl) ?_
  intro p e s m below meth c ls hx hb hr hml hown hts hlocks hin hsz hP hK hD0 hX0 hl
  have hown : s.vm.findClass RX1 = some m.cls := hown
  have hl : lv_has ls 1 [(0, .ref qg)] := hl
  subst hsz
  have hD := hD0.self (sz := s.heap.size)
  have hX := hX0 rfl
  generalize hAe : va_A [(qg, .inr (1, [.null, .null, .int 0, .int 0, .int 0, .int 0, .int 0]))] s.heap.size = A at hD hX ⊢
  have hA : ∀ q : Nat, s.heap.size ≤ q → A q := fun q h => by rw [← hAe]; exact Or.inr h
  have hS : va_S A s.heap s.heap [] := va_S.rf
  refine lv_aload_n hx hb dX1_init_0 rfl (lv_at hl 0 rfl) ?_
  refine W.objInit hx hb hown (hts _ wd33) (hts _ wd11) (hts _ wd12) rfl (by rw [hml]; exact hl.1) rfl dX1_init_1 (Nat.le_of_ble_eq_true rfl) (Nat.le_of_ble_eq_true rfl) ?_
  refine W.eq (g2 := F0 m 4 ls []) rfl ?_
  refine lv_aload_n hx hb dX1_init_4 rfl (lv_at hl 0 rfl) ?_
  refine va_new (ci := 0) (fs := [.null, .null, .null, .null, .int 0]) (C := RX0) (T := TX0) (N := 5) hx hb hts inlX0 tyX0 tyX0_ok hown (hts _ wd34) (hts _ wd35) (hts _ wd36) hK.1 hP hD hS hA rfl (fun j hj => by rcases (show j = 0 ∨ j = 1 ∨ j = 2 ∨ j = 3 ∨ j = 4 by omega) with rfl | rfl | rfl | rfl | rfl <;> rfl) (Nat.le_of_ble_eq_true rfl) (Nat.le_of_ble_eq_true rfl) dX1_init_5 (fun q809 H809 hP hD hS => ?_)
  have hP : va_P G vwCl [(qg, .inr (1, [.null, .null, .int 0, .int 0, .int 0, .int 0, .int 0])), (q809, .inr (0, [.null, .null, .null, .null, .int 0]))] H809 := hP
  have hD : va_D A [(qg, .inr (1, [.null, .null, .int 0, .int 0, .int 0, .int 0, .int 0])), (q809, .inr (0, [.null, .null, .null, .null, .int 0]))] := hD
  refine lv_dup hx hb dX1_init_8 rfl ?_
  have hPc := hP.sub (ws' := [(q809, .inr (0, [.null, .null, .null, .null, .int 0]))]) [1] rfl
  have hDc := (hD.sub (ws' := [(q809, .inr (0, [.null, .null, .null, .null, .int 0]))]) [1] (by decide) rfl).tt
  have hFc := va_free (wc := [(q809, .inr (0, [.null, .null, .null, .null, .int 0]))]) hD hS hA [1] rfl
  refine va_callv (va_runIN (As := []) (rest := [.ref q809, .ref qg]) ⟨hx, hb, hml, hown, hts⟩ (c_X0_init l G cI cC cZ cG H809.size q809) (cf_RX1_11 hts hK.2 ⟨Nat.le_of_ble_eq_true rfl, Nat.le_of_ble_eq_true rfl⟩) (pre_S hK hPc hDc) rfl rfl hl.1 rfl (lv_room (Nat.le_of_ble_eq_true rfl)) dX1_init_9 ⟨Nat.le_of_ble_eq_true rfl, Nat.le_of_ble_eq_true rfl⟩) hS (fun q _ h => hFc q h) hFc (fun u810 t810 H810 locs810 ht810 hvm810 hw810 hB810 hz810 hk810 hS => ?_)
  obtain ⟨qp810, qs810, qr810, qf810⟩ := u810
  obtain ⟨hP1, hD1⟩ := hB810
  rw [ht810] at hP1
  try dsimp only at hw810
  obtain ⟨hP, hD⟩ := va_join (wr := [(qg, .inr (1, [.null, .null, .int 0, .int 0, .int 0, .int 0, .int 0]))]) (w1 := [(q809, .inr (0, [.ref qp810, .ref qs810, .ref qr810, .ref qf810, .int 0])), (qp810, .inl (cI, 12, .inl iPr)), (qs810, .inl (cI, 12, .inl zrA)), (qr810, .inl (cI, 4, .inl iBr)), (qf810, .inl (cI, 4, .inl zrA))]) hP hD [1] [0] rfl rfl (by decide) (by decide) hk810 hFc hP1 hD1
  have hP : va_P G vwCl [(qg, .inr (1, [.null, .null, .int 0, .int 0, .int 0, .int 0, .int 0])), (q809, .inr (0, [.ref qp810, .ref qs810, .ref qr810, .ref qf810, .int 0])), (qp810, .inl (cI, 12, .inl iPr)), (qs810, .inl (cI, 12, .inl zrA)), (qr810, .inl (cI, 4, .inl iBr)), (qf810, .inl (cI, 4, .inl zrA))] H810 := hP
  have hD : va_D A [(qg, .inr (1, [.null, .null, .int 0, .int 0, .int 0, .int 0, .int 0])), (q809, .inr (0, [.ref qp810, .ref qs810, .ref qr810, .ref qf810, .int 0])), (qp810, .inl (cI, 12, .inl iPr)), (qs810, .inl (cI, 12, .inl zrA)), (qr810, .inl (cI, 4, .inl iBr)), (qf810, .inl (cI, 4, .inl zrA))] := hD
  refine va_putF (D := G) (ci := 1) (v := .ref q809) (ty := .object "BridgedPachisi$Board") (C := RX1) (T := TX1) (N := 7) hx hb hts inlX1 tyX1 tyX1_ok nmX1 hown hK.1 hP hD hS 0 rfl rfl 0 (by decide) (hts _ wd37) (fun _ h9 => h9) rfl hin rfl (by decide +kernel) rfl rfl (Nat.le_of_ble_eq_true rfl) dX1_init_12 (fun H811 locs811 hP hD hS => ?_)
  have hP : va_P G vwCl [(qg, .inr (1, [.ref q809, .null, .int 0, .int 0, .int 0, .int 0, .int 0])), (q809, .inr (0, [.ref qp810, .ref qs810, .ref qr810, .ref qf810, .int 0])), (qp810, .inl (cI, 12, .inl iPr)), (qs810, .inl (cI, 12, .inl zrA)), (qr810, .inl (cI, 4, .inl iBr)), (qf810, .inl (cI, 4, .inl zrA))] H811 := hP
  have hD : va_D A [(qg, .inr (1, [.ref q809, .null, .int 0, .int 0, .int 0, .int 0, .int 0])), (q809, .inr (0, [.ref qp810, .ref qs810, .ref qr810, .ref qf810, .int 0])), (qp810, .inl (cI, 12, .inl iPr)), (qs810, .inl (cI, 12, .inl zrA)), (qr810, .inl (cI, 4, .inl iBr)), (qf810, .inl (cI, 4, .inl zrA))] := hD
  refine lv_aload_n hx hb dX1_init_15 rfl (lv_at hl 0 rfl) ?_
  refine lv_iconst (v := 3) hx hb dX1_init_16 (by decide) ?_
  refine va_newa (atype := .int) (a0 := (3, .inl (fun _ => 0))) hx hb (hts _ wd38) rfl hK.1 hP hD hS hA (fun _ => rfl) (by decide) (by decide) (by decide) (Nat.le_of_ble_eq_true rfl) (Nat.le_of_ble_eq_true rfl) dX1_init_17 (fun q812 cA812 H812 hK9 hP hD hS => ?_)
  obtain rfl := cls_int hK9
  clear hK9
  have hP : va_P G vwCl [(qg, .inr (1, [.ref q809, .null, .int 0, .int 0, .int 0, .int 0, .int 0])), (q809, .inr (0, [.ref qp810, .ref qs810, .ref qr810, .ref qf810, .int 0])), (qp810, .inl (cI, 12, .inl iPr)), (qs810, .inl (cI, 12, .inl zrA)), (qr810, .inl (cI, 4, .inl iBr)), (qf810, .inl (cI, 4, .inl zrA)), (q812, .inl (cI, 3, .inl (fun _ => 0)))] H812 := hP
  have hD : va_D A [(qg, .inr (1, [.ref q809, .null, .int 0, .int 0, .int 0, .int 0, .int 0])), (q809, .inr (0, [.ref qp810, .ref qs810, .ref qr810, .ref qf810, .int 0])), (qp810, .inl (cI, 12, .inl iPr)), (qs810, .inl (cI, 12, .inl zrA)), (qr810, .inl (cI, 4, .inl iBr)), (qf810, .inl (cI, 4, .inl zrA)), (q812, .inl (cI, 3, .inl (fun _ => 0)))] := hD
  refine va_putF (D := G) (ci := 1) (v := .ref q812) (ty := .array .int) (C := RX1) (T := TX1) (N := 7) hx hb hts inlX1 tyX1 tyX1_ok nmX1 hown hK.1 hP hD hS 0 rfl rfl 1 (by decide) (hts _ wd39) (fun _ h9 => h9) rfl hin rfl (by decide +kernel) rfl rfl (Nat.le_of_ble_eq_true rfl) dX1_init_19 (fun H813 locs813 hP hD hS => ?_)
  have hP : va_P G vwCl [(qg, .inr (1, [.ref q809, .ref q812, .int 0, .int 0, .int 0, .int 0, .int 0])), (q809, .inr (0, [.ref qp810, .ref qs810, .ref qr810, .ref qf810, .int 0])), (qp810, .inl (cI, 12, .inl iPr)), (qs810, .inl (cI, 12, .inl zrA)), (qr810, .inl (cI, 4, .inl iBr)), (qf810, .inl (cI, 4, .inl zrA)), (q812, .inl (cI, 3, .inl (fun _ => 0)))] H813 := hP
  have hD : va_D A [(qg, .inr (1, [.ref q809, .ref q812, .int 0, .int 0, .int 0, .int 0, .int 0])), (q809, .inr (0, [.ref qp810, .ref qs810, .ref qr810, .ref qf810, .int 0])), (qp810, .inl (cI, 12, .inl iPr)), (qs810, .inl (cI, 12, .inl zrA)), (qr810, .inl (cI, 4, .inl iBr)), (qf810, .inl (cI, 4, .inl zrA)), (q812, .inl (cI, 3, .inl (fun _ => 0)))] := hD
  refine lv_aload_n hx hb dX1_init_22 rfl (lv_at hl 0 rfl) ?_
  refine lv_iconst (v := 1) hx hb dX1_init_23 (by decide) ?_
  refine va_put (D := G) (ci := 1) (v := .int 1) (ty := .int) (C := RX1) (T := TX1) (N := 7) hx hb hts inlX1 tyX1 tyX1_ok nmX1 hown hK.1 hP hD hS 0 rfl rfl 2 (by decide) (hts _ wd40) (fun _ h9 => h9) rfl (by decide +kernel) rfl rfl (Nat.le_of_ble_eq_true rfl) dX1_init_24 (fun H814 locs814 hP hD hS => ?_)
  have hP : va_P G vwCl [(qg, .inr (1, [.ref q809, .ref q812, .int 1, .int 0, .int 0, .int 0, .int 0])), (q809, .inr (0, [.ref qp810, .ref qs810, .ref qr810, .ref qf810, .int 0])), (qp810, .inl (cI, 12, .inl iPr)), (qs810, .inl (cI, 12, .inl zrA)), (qr810, .inl (cI, 4, .inl iBr)), (qf810, .inl (cI, 4, .inl zrA)), (q812, .inl (cI, 3, .inl (fun _ => 0)))] H814 := hP
  have hD : va_D A [(qg, .inr (1, [.ref q809, .ref q812, .int 1, .int 0, .int 0, .int 0, .int 0])), (q809, .inr (0, [.ref qp810, .ref qs810, .ref qr810, .ref qf810, .int 0])), (qp810, .inl (cI, 12, .inl iPr)), (qs810, .inl (cI, 12, .inl zrA)), (qr810, .inl (cI, 4, .inl iBr)), (qf810, .inl (cI, 4, .inl zrA)), (q812, .inl (cI, 3, .inl (fun _ => 0)))] := hD
  refine lv_aload_n hx hb dX1_init_27 rfl (lv_at hl 0 rfl) ?_
  refine lv_iconst (v := 0) hx hb dX1_init_28 (by decide) ?_
  refine va_put (D := G) (ci := 1) (v := .int 0) (ty := .int) (C := RX1) (T := TX1) (N := 7) hx hb hts inlX1 tyX1 tyX1_ok nmX1 hown hK.1 hP hD hS 0 rfl rfl 3 (by decide) (hts _ wd41) (fun _ h9 => h9) rfl (by decide +kernel) rfl rfl (Nat.le_of_ble_eq_true rfl) dX1_init_29 (fun H815 locs815 hP hD hS => ?_)
  have hP : va_P G vwCl [(qg, .inr (1, [.ref q809, .ref q812, .int 1, .int 0, .int 0, .int 0, .int 0])), (q809, .inr (0, [.ref qp810, .ref qs810, .ref qr810, .ref qf810, .int 0])), (qp810, .inl (cI, 12, .inl iPr)), (qs810, .inl (cI, 12, .inl zrA)), (qr810, .inl (cI, 4, .inl iBr)), (qf810, .inl (cI, 4, .inl zrA)), (q812, .inl (cI, 3, .inl (fun _ => 0)))] H815 := hP
  have hD : va_D A [(qg, .inr (1, [.ref q809, .ref q812, .int 1, .int 0, .int 0, .int 0, .int 0])), (q809, .inr (0, [.ref qp810, .ref qs810, .ref qr810, .ref qf810, .int 0])), (qp810, .inl (cI, 12, .inl iPr)), (qs810, .inl (cI, 12, .inl zrA)), (qr810, .inl (cI, 4, .inl iBr)), (qf810, .inl (cI, 4, .inl zrA)), (q812, .inl (cI, 3, .inl (fun _ => 0)))] := hD
  refine lv_aload_n hx hb dX1_init_32 rfl (lv_at hl 0 rfl) ?_
  refine lv_bipush (v := (-6)) hx hb dX1_init_33 (by decide) ?_
  refine va_put (D := G) (ci := 1) (v := .int (-6)) (ty := .int) (C := RX1) (T := TX1) (N := 7) hx hb hts inlX1 tyX1 tyX1_ok nmX1 hown hK.1 hP hD hS 0 rfl rfl 4 (by decide) (hts _ wd42) (fun _ h9 => h9) rfl (by decide +kernel) rfl rfl (Nat.le_of_ble_eq_true rfl) dX1_init_35 (fun H816 locs816 hP hD hS => ?_)
  have hP : va_P G vwCl [(qg, .inr (1, [.ref q809, .ref q812, .int 1, .int 0, .int (-6), .int 0, .int 0])), (q809, .inr (0, [.ref qp810, .ref qs810, .ref qr810, .ref qf810, .int 0])), (qp810, .inl (cI, 12, .inl iPr)), (qs810, .inl (cI, 12, .inl zrA)), (qr810, .inl (cI, 4, .inl iBr)), (qf810, .inl (cI, 4, .inl zrA)), (q812, .inl (cI, 3, .inl (fun _ => 0)))] H816 := hP
  have hD : va_D A [(qg, .inr (1, [.ref q809, .ref q812, .int 1, .int 0, .int (-6), .int 0, .int 0])), (q809, .inr (0, [.ref qp810, .ref qs810, .ref qr810, .ref qf810, .int 0])), (qp810, .inl (cI, 12, .inl iPr)), (qs810, .inl (cI, 12, .inl zrA)), (qr810, .inl (cI, 4, .inl iBr)), (qf810, .inl (cI, 4, .inl zrA)), (q812, .inl (cI, 3, .inl (fun _ => 0)))] := hD
  refine lv_aload_n hx hb dX1_init_38 rfl (lv_at hl 0 rfl) ?_
  refine lv_iconst (v := 1) hx hb dX1_init_39 (by decide) ?_
  refine va_put (D := G) (ci := 1) (v := .int 1) (ty := .int) (C := RX1) (T := TX1) (N := 7) hx hb hts inlX1 tyX1 tyX1_ok nmX1 hown hK.1 hP hD hS 0 rfl rfl 5 (by decide) (hts _ wd43) (fun _ h9 => h9) rfl (by decide +kernel) rfl rfl (Nat.le_of_ble_eq_true rfl) dX1_init_40 (fun H817 locs817 hP hD hS => ?_)
  have hP : va_P G vwCl [(qg, .inr (1, [.ref q809, .ref q812, .int 1, .int 0, .int (-6), .int 1, .int 0])), (q809, .inr (0, [.ref qp810, .ref qs810, .ref qr810, .ref qf810, .int 0])), (qp810, .inl (cI, 12, .inl iPr)), (qs810, .inl (cI, 12, .inl zrA)), (qr810, .inl (cI, 4, .inl iBr)), (qf810, .inl (cI, 4, .inl zrA)), (q812, .inl (cI, 3, .inl (fun _ => 0)))] H817 := hP
  have hD : va_D A [(qg, .inr (1, [.ref q809, .ref q812, .int 1, .int 0, .int (-6), .int 1, .int 0])), (q809, .inr (0, [.ref qp810, .ref qs810, .ref qr810, .ref qf810, .int 0])), (qp810, .inl (cI, 12, .inl iPr)), (qs810, .inl (cI, 12, .inl zrA)), (qr810, .inl (cI, 4, .inl iBr)), (qf810, .inl (cI, 4, .inl zrA)), (q812, .inl (cI, 3, .inl (fun _ => 0)))] := hD
  refine lv_aload_n hx hb dX1_init_43 rfl (lv_at hl 0 rfl) ?_
  refine lv_iconst (v := 0) hx hb dX1_init_44 (by decide) ?_
  refine va_put (D := G) (ci := 1) (v := .int 0) (ty := .int) (C := RX1) (T := TX1) (N := 7) hx hb hts inlX1 tyX1 tyX1_ok nmX1 hown hK.1 hP hD hS 0 rfl rfl 6 (by decide) (hts _ wd44) (fun _ h9 => h9) rfl (by decide +kernel) rfl rfl (Nat.le_of_ble_eq_true rfl) dX1_init_45 (fun H818 locs818 hP hD hS => ?_)
  have hP : va_P G vwCl [(qg, .inr (1, [.ref q809, .ref q812, .int 1, .int 0, .int (-6), .int 1, .int 0])), (q809, .inr (0, [.ref qp810, .ref qs810, .ref qr810, .ref qf810, .int 0])), (qp810, .inl (cI, 12, .inl iPr)), (qs810, .inl (cI, 12, .inl zrA)), (qr810, .inl (cI, 4, .inl iBr)), (qf810, .inl (cI, 4, .inl zrA)), (q812, .inl (cI, 3, .inl (fun _ => 0)))] H818 := hP
  have hD : va_D A [(qg, .inr (1, [.ref q809, .ref q812, .int 1, .int 0, .int (-6), .int 1, .int 0])), (q809, .inr (0, [.ref qp810, .ref qs810, .ref qr810, .ref qf810, .int 0])), (qp810, .inl (cI, 12, .inl iPr)), (qs810, .inl (cI, 12, .inl zrA)), (qr810, .inl (cI, 4, .inl iBr)), (qf810, .inl (cI, 4, .inl zrA)), (q812, .inl (cI, 3, .inl (fun _ => 0)))] := hD
  obtain ⟨t819, hZ819, hY819, hYl819, hYA819⟩ := hX.1
  refine va_getsN hx hb hZ819 hS hown (va_Nw.use rfl (hK.2 _ nw8)) (fun _ h9 => h9) dX1_init_48 ?_
  refine lv_iconst (v := 0) hx hb dX1_init_51 (by decide) ?_
  refine lv_aload_n hx hb dX1_init_52 rfl (lv_at hl 0 rfl) ?_
  refine va_get (D := G) (ci := 1) (v := .ref q812) (C := RX1) (T := TX1) (N := 7) hx hb hts inlX1 hown hK.1 hP 0 rfl rfl 1 (by decide) (hts _ wd39) (fun _ h9 => h9) rfl dX1_init_53 ?_
  refine lv_iconst (v := 0) hx hb dX1_init_56 (by decide) ?_
  refine lv_iconst (v := 3) hx hb dX1_init_57 (by decide) ?_
  refine va_copyx hx hb (by rw [hml]; exact hl.1.symm) hown (hts _ wd45) (hts _ wd46) (hts _ wd47) (hts _ wd48) hK.1 hP hD hS hY819 hYl819 hYA819 6 0 rfl rfl (by decide) (by decide) (by decide) (by decide) (by decide) (Nat.le_of_ble_eq_true rfl) (Nat.le_of_ble_eq_true rfl) dX1_init_58 (fun H820 locs820 hP hD hS => ?_)
  have hP : va_P G vwCl [(qg, .inr (1, [.ref q809, .ref q812, .int 1, .int 0, .int (-6), .int 1, .int 0])), (q809, .inr (0, [.ref qp810, .ref qs810, .ref qr810, .ref qf810, .int 0])), (qp810, .inl (cI, 12, .inl iPr)), (qs810, .inl (cI, 12, .inl zrA)), (qr810, .inl (cI, 4, .inl iBr)), (qf810, .inl (cI, 4, .inl zrA)), (q812, .inl (cI, 3, .inl (va_cpy fvF (fun _ => 0) 0 0 3)))] H820 := hP
  have hD : va_D A [(qg, .inr (1, [.ref q809, .ref q812, .int 1, .int 0, .int (-6), .int 1, .int 0])), (q809, .inr (0, [.ref qp810, .ref qs810, .ref qr810, .ref qf810, .int 0])), (qp810, .inl (cI, 12, .inl iPr)), (qs810, .inl (cI, 12, .inl zrA)), (qr810, .inl (cI, 4, .inl iBr)), (qf810, .inl (cI, 4, .inl zrA)), (q812, .inl (cI, 3, .inl (va_cpy fvF (fun _ => 0) 0 0 3)))] := hD
  refine W.widen (k := 6) (n := 40) (by decide) (by decide) ?_
  have hP := hP.sub (ws' := [(qg, .inr (1, [.ref q809, .ref q812, .int 1, .int 0, .int (-6), .int 1, .int 0])), (q812, .inl (cI, 3, .inl (va_cpy fvF (fun _ => 0) 0 0 3))), (q809, .inr (0, [.ref qp810, .ref qs810, .ref qr810, .ref qf810, .int 0])), (qp810, .inl (cI, 12, .inl iPr)), (qs810, .inl (cI, 12, .inl zrA)), (qr810, .inl (cI, 4, .inl iBr)), (qf810, .inl (cI, 4, .inl zrA))]) [0, 6, 1, 2, 3, 4, 5] rfl
  have hD := hD.sub (ws' := [(qg, .inr (1, [.ref q809, .ref q812, .int 1, .int 0, .int (-6), .int 1, .int 0])), (q812, .inl (cI, 3, .inl (va_cpy fvF (fun _ => 0) 0 0 3))), (q809, .inr (0, [.ref qp810, .ref qs810, .ref qr810, .ref qf810, .int 0])), (qp810, .inl (cI, 12, .inl iPr)), (qs810, .inl (cI, 12, .inl zrA)), (qr810, .inl (cI, 4, .inl iBr)), (qf810, .inl (cI, 4, .inl zrA))]) [0, 6, 1, 2, 3, 4, 5] (by decide) rfl
  exact W.vret hx hb hr (fun t ht hW => ⟨⟨(q812, q809, qp810, qs810, qr810, qf810), rfl, trivial, by rw [ht]; exact hP, hD⟩, hS.F ht⟩) hS.2.2 dX1_init_61

abbrev rm_X4_init : Room := { frames := 1, cells := 1, slots := 36, locals := 30 }
set_option maxHeartbeats 1000000 in
set_option maxRecDepth 100000 in
theorem c_X4_init (l : Launch) (G : va_G) (cI cC cZ cG : ClassId) (sz : Nat) (qR : Nat) : Met l yX4_init (.code yX4_init cX4_init 1 none :: wsL_law) rm_X4_init (va_Pc [.ref qR] (bw G cI cC cZ cG false sz [(qR, .inr (4, [.null]))])) (va_Qv (fun (u : Nat) => True) (fun (u : Nat) t => va_P G vwCl [(qR, .inr (4, [.ref u])), (u, .inl (cI, 36, .inl zrA))] t.heap ∧ va_D (va_A [(qR, .inr (4, [.null]))] sz) [(qR, .inr (4, [.ref u])), (u, .inl (cI, 36, .inl zrA))]) (va_A [(qR, .inr (4, [.null]))] sz)) 1 36 (va_A [(qR, .inr (4, [.null]))] sz) := by
  refine met_bw rfl (Nat.le_of_ble_eq_true rfl) ?_
  intro p e s m below meth c ls hx hb hr hml hown hts hlocks hin hsz hP hK hD0 hX0 hl
  have hown : s.vm.findClass RX4 = some m.cls := hown
  have hl : lv_has ls 1 [(0, .ref qR)] := hl
  subst hsz
  have hD := hD0.self (sz := s.heap.size)
  generalize hAe : va_A [(qR, .inr (4, [.null]))] s.heap.size = A at hD ⊢
  have hA : ∀ q : Nat, s.heap.size ≤ q → A q := fun q h => by rw [← hAe]; exact Or.inr h
  have hS : va_S A s.heap s.heap [] := va_S.rf
  refine lv_aload_n hx hb dX4_init_0 rfl (lv_at hl 0 rfl) ?_
  refine W.objInit hx hb hown (hts _ wd59) (hts _ wd11) (hts _ wd12) rfl (by rw [hml]; exact hl.1) rfl dX4_init_1 (Nat.le_of_ble_eq_true rfl) (Nat.le_of_ble_eq_true rfl) ?_
  refine W.eq (g2 := F0 m 4 ls []) rfl ?_
  refine lv_aload_n hx hb dX4_init_4 rfl (lv_at hl 0 rfl) ?_
  refine lv_bipush (v := 36) hx hb dX4_init_5 (by decide) ?_
  refine va_newa (atype := .int) (a0 := (36, .inl (fun _ => 0))) hx hb (hts _ wd38) rfl hK.1 hP hD hS hA (fun _ => rfl) (by decide) (by decide) (by decide) (Nat.le_of_ble_eq_true rfl) (Nat.le_of_ble_eq_true rfl) dX4_init_7 (fun q821 cA821 H821 hK9 hP hD hS => ?_)
  obtain rfl := cls_int hK9
  clear hK9
  have hP : va_P G vwCl [(qR, .inr (4, [.null])), (q821, .inl (cI, 36, .inl (fun _ => 0)))] H821 := hP
  have hD : va_D A [(qR, .inr (4, [.null])), (q821, .inl (cI, 36, .inl (fun _ => 0)))] := hD
  refine va_putF (D := G) (ci := 4) (v := .ref q821) (ty := .array .int) (C := RX4) (T := TX4) (N := 1) hx hb hts inlX4 tyX4 tyX4_ok nmX4 hown hK.1 hP hD hS 0 rfl rfl 0 (by decide) (hts _ wd60) (fun _ h9 => h9) rfl hin rfl (by decide +kernel) rfl rfl (Nat.le_of_ble_eq_true rfl) dX4_init_9 (fun H822 locs822 hP hD hS => ?_)
  have hP : va_P G vwCl [(qR, .inr (4, [.ref q821])), (q821, .inl (cI, 36, .inl (fun _ => 0)))] H822 := hP
  have hD : va_D A [(qR, .inr (4, [.ref q821])), (q821, .inl (cI, 36, .inl (fun _ => 0)))] := hD
  refine W.widen (k := 1) (n := 36) (by decide) (by decide) ?_
  exact W.vret hx hb hr (fun t ht hW => ⟨⟨q821, rfl, trivial, by rw [ht]; exact hP, hD⟩, hS.F ht⟩) hS.2.2 dX4_init_12

abbrev rm_X3_init : Room := { frames := 1, cells := 1, slots := 60, locals := 30 }
set_option maxHeartbeats 1000000 in
set_option maxRecDepth 100000 in
theorem c_X3_init (l : Launch) (G : va_G) (cI cC cZ cG : ClassId) (sz : Nat) (qd : Nat) : Met l yX3_init (.code yX3_init cX3_init 1 none :: wsL_law) rm_X3_init (va_Pc [.ref qd] (bw G cI cC cZ cG false sz [(qd, .inr (3, [.null, .int 0]))])) (va_Qv (fun (u : Nat) => True) (fun (u : Nat) t => va_P G vwCl [(qd, .inr (3, [.ref u, .int 0])), (u, .inl (cC, 60, .inl zrA))] t.heap ∧ va_D (va_A [(qd, .inr (3, [.null, .int 0]))] sz) [(qd, .inr (3, [.ref u, .int 0])), (u, .inl (cC, 60, .inl zrA))]) (va_A [(qd, .inr (3, [.null, .int 0]))] sz)) 1 60 (va_A [(qd, .inr (3, [.null, .int 0]))] sz) := by
  refine met_bw rfl (Nat.le_of_ble_eq_true rfl) ?_
  intro p e s m below meth c ls hx hb hr hml hown hts hlocks hin hsz hP hK hD0 hX0 hl
  have hown : s.vm.findClass RX3 = some m.cls := hown
  have hl : lv_has ls 1 [(0, .ref qd)] := hl
  subst hsz
  have hD := hD0.self (sz := s.heap.size)
  generalize hAe : va_A [(qd, .inr (3, [.null, .int 0]))] s.heap.size = A at hD ⊢
  have hA : ∀ q : Nat, s.heap.size ≤ q → A q := fun q h => by rw [← hAe]; exact Or.inr h
  have hS : va_S A s.heap s.heap [] := va_S.rf
  refine lv_aload_n hx hb dX3_init_0 rfl (lv_at hl 0 rfl) ?_
  refine W.objInit hx hb hown (hts _ wd63) (hts _ wd11) (hts _ wd12) rfl (by rw [hml]; exact hl.1) rfl dX3_init_1 (Nat.le_of_ble_eq_true rfl) (Nat.le_of_ble_eq_true rfl) ?_
  refine W.eq (g2 := F0 m 4 ls []) rfl ?_
  refine lv_aload_n hx hb dX3_init_4 rfl (lv_at hl 0 rfl) ?_
  refine lv_bipush (v := 60) hx hb dX3_init_5 (by decide) ?_
  refine va_newa (atype := .char) (a0 := (60, .inl (fun _ => 0))) hx hb (hts _ wd64) rfl hK.1 hP hD hS hA (fun _ => rfl) (by decide) (by decide) (by decide) (Nat.le_of_ble_eq_true rfl) (Nat.le_of_ble_eq_true rfl) dX3_init_7 (fun q823 cA823 H823 hK9 hP hD hS => ?_)
  obtain rfl := cls_char hK9
  clear hK9
  have hP : va_P G vwCl [(qd, .inr (3, [.null, .int 0])), (q823, .inl (cC, 60, .inl (fun _ => 0)))] H823 := hP
  have hD : va_D A [(qd, .inr (3, [.null, .int 0])), (q823, .inl (cC, 60, .inl (fun _ => 0)))] := hD
  refine va_putF (D := G) (ci := 3) (v := .ref q823) (ty := .array .char) (C := RX3) (T := TX3) (N := 2) hx hb hts inlX3 tyX3 tyX3_ok nmX3 hown hK.1 hP hD hS 0 rfl rfl 0 (by decide) (hts _ wd65) (fun _ h9 => h9) rfl hin rfl (by decide +kernel) rfl rfl (Nat.le_of_ble_eq_true rfl) dX3_init_9 (fun H824 locs824 hP hD hS => ?_)
  have hP : va_P G vwCl [(qd, .inr (3, [.ref q823, .int 0])), (q823, .inl (cC, 60, .inl (fun _ => 0)))] H824 := hP
  have hD : va_D A [(qd, .inr (3, [.ref q823, .int 0])), (q823, .inl (cC, 60, .inl (fun _ => 0)))] := hD
  refine lv_aload_n hx hb dX3_init_12 rfl (lv_at hl 0 rfl) ?_
  refine lv_iconst (v := 0) hx hb dX3_init_13 (by decide) ?_
  refine va_put (D := G) (ci := 3) (v := .int 0) (ty := .int) (C := RX3) (T := TX3) (N := 2) hx hb hts inlX3 tyX3 tyX3_ok nmX3 hown hK.1 hP hD hS 0 rfl rfl 1 (by decide) (hts _ wd66) (fun _ h9 => h9) rfl (by decide +kernel) rfl rfl (Nat.le_of_ble_eq_true rfl) dX3_init_14 (fun H825 locs825 hP hD hS => ?_)
  have hP : va_P G vwCl [(qd, .inr (3, [.ref q823, .int 0])), (q823, .inl (cC, 60, .inl (fun _ => 0)))] H825 := hP
  have hD : va_D A [(qd, .inr (3, [.ref q823, .int 0])), (q823, .inl (cC, 60, .inl (fun _ => 0)))] := hD
  refine W.widen (k := 1) (n := 60) (by decide) (by decide) ?_
  exact W.vret hx hb hr (fun t ht hW => ⟨⟨q823, rfl, trivial, by rw [ht]; exact hP, hD⟩, hS.F ht⟩) hS.2.2 dX3_init_17

abbrev rm_X2_init : Room := { frames := 1, cells := 1, slots := 6, locals := 30 }
set_option maxHeartbeats 1000000 in
set_option maxRecDepth 100000 in
theorem c_X2_init (l : Launch) (G : va_G) (cI cC cZ cG : ClassId) (sz : Nat) (qh : Nat) : Met l yX2_init (.code yX2_init cX2_init 1 none :: wsL_law) rm_X2_init (va_Pc [.ref qh] (bw G cI cC cZ cG true sz [(qh, .inr (2, [.null, .int 0, .int 0]))])) (va_Qv (fun (u : Nat) => True) (fun (u : Nat) t => va_P G vwCl [(qh, .inr (2, [.ref u, .int 0, .int 0])), (u, .inl (cG, 6, .inr (.inr (.inr (.inr (fun _ => none))))))] t.heap ∧ va_D (va_A [(qh, .inr (2, [.null, .int 0, .int 0]))] sz) [(qh, .inr (2, [.ref u, .int 0, .int 0])), (u, .inl (cG, 6, .inr (.inr (.inr (.inr (fun _ => none))))))]) (va_A [(qh, .inr (2, [.null, .int 0, .int 0]))] sz)) 1 6 (va_A [(qh, .inr (2, [.null, .int 0, .int 0]))] sz) := by
  refine met_bw rfl (Nat.le_of_ble_eq_true rfl) ?_
  intro p e s m below meth c ls hx hb hr hml hown hts hlocks hin hsz hP hK hD0 hX0 hl
  have hown : s.vm.findClass RX2 = some m.cls := hown
  have hl : lv_has ls 1 [(0, .ref qh)] := hl
  subst hsz
  have hD := hD0.self (sz := s.heap.size)
  have hX := hX0 rfl
  generalize hAe : va_A [(qh, .inr (2, [.null, .int 0, .int 0]))] s.heap.size = A at hD hX ⊢
  have hA : ∀ q : Nat, s.heap.size ≤ q → A q := fun q h => by rw [← hAe]; exact Or.inr h
  have hS : va_S A s.heap s.heap [] := va_S.rf
  refine lv_aload_n hx hb dX2_init_0 rfl (lv_at hl 0 rfl) ?_
  refine W.objInit hx hb hown (hts _ wd69) (hts _ wd11) (hts _ wd12) rfl (by rw [hml]; exact hl.1) rfl dX2_init_1 (Nat.le_of_ble_eq_true rfl) (Nat.le_of_ble_eq_true rfl) ?_
  refine W.eq (g2 := F0 m 4 ls []) rfl ?_
  refine lv_aload_n hx hb dX2_init_4 rfl (lv_at hl 0 rfl) ?_
  refine lv_bipush (v := 6) hx hb dX2_init_5 (by decide) ?_
  refine va_newq hx hb hown (hts _ wd70) hX.2.2.2 hK.1 hP hD hS hA (N' := 6) (by decide) (by decide) (by decide) (Nat.le_of_ble_eq_true rfl) (Nat.le_of_ble_eq_true rfl) dX2_init_7 (fun q826 cA826 H826 hK9 hP hD hS => ?_)
  obtain rfl := cls_obj hK9
  clear hK9
  have hP : va_P G vwCl [(qh, .inr (2, [.null, .int 0, .int 0])), (q826, .inl (cG, 6, .inr (.inr (.inr (.inr (fun _ => none))))))] H826 := hP
  have hD : va_D A [(qh, .inr (2, [.null, .int 0, .int 0])), (q826, .inl (cG, 6, .inr (.inr (.inr (.inr (fun _ => none))))))] := hD
  refine va_putF (D := G) (ci := 2) (v := .ref q826) (ty := .array (.object "BridgedPachisi$Game")) (C := RX2) (T := TX2) (N := 3) hx hb hts inlX2 tyX2 tyX2_ok nmX2 hown hK.1 hP hD hS 0 rfl rfl 0 (by decide) (hts _ wd71) (fun _ h9 => h9) rfl hin rfl (by decide +kernel) rfl rfl (Nat.le_of_ble_eq_true rfl) dX2_init_10 (fun H827 locs827 hP hD hS => ?_)
  have hP : va_P G vwCl [(qh, .inr (2, [.ref q826, .int 0, .int 0])), (q826, .inl (cG, 6, .inr (.inr (.inr (.inr (fun _ => none))))))] H827 := hP
  have hD : va_D A [(qh, .inr (2, [.ref q826, .int 0, .int 0])), (q826, .inl (cG, 6, .inr (.inr (.inr (.inr (fun _ => none))))))] := hD
  refine lv_aload_n hx hb dX2_init_13 rfl (lv_at hl 0 rfl) ?_
  refine lv_iconst (v := 0) hx hb dX2_init_14 (by decide) ?_
  refine va_put (D := G) (ci := 2) (v := .int 0) (ty := .int) (C := RX2) (T := TX2) (N := 3) hx hb hts inlX2 tyX2 tyX2_ok nmX2 hown hK.1 hP hD hS 0 rfl rfl 1 (by decide) (hts _ wd72) (fun _ h9 => h9) rfl (by decide +kernel) rfl rfl (Nat.le_of_ble_eq_true rfl) dX2_init_15 (fun H828 locs828 hP hD hS => ?_)
  have hP : va_P G vwCl [(qh, .inr (2, [.ref q826, .int 0, .int 0])), (q826, .inl (cG, 6, .inr (.inr (.inr (.inr (fun _ => none))))))] H828 := hP
  have hD : va_D A [(qh, .inr (2, [.ref q826, .int 0, .int 0])), (q826, .inl (cG, 6, .inr (.inr (.inr (.inr (fun _ => none))))))] := hD
  refine lv_aload_n hx hb dX2_init_18 rfl (lv_at hl 0 rfl) ?_
  refine lv_iconst (v := 0) hx hb dX2_init_19 (by decide) ?_
  refine va_put (D := G) (ci := 2) (v := .int 0) (ty := .int) (C := RX2) (T := TX2) (N := 3) hx hb hts inlX2 tyX2 tyX2_ok nmX2 hown hK.1 hP hD hS 0 rfl rfl 2 (by decide) (hts _ wd73) (fun _ h9 => h9) rfl (by decide +kernel) rfl rfl (Nat.le_of_ble_eq_true rfl) dX2_init_20 (fun H829 locs829 hP hD hS => ?_)
  have hP : va_P G vwCl [(qh, .inr (2, [.ref q826, .int 0, .int 0])), (q826, .inl (cG, 6, .inr (.inr (.inr (.inr (fun _ => none))))))] H829 := hP
  have hD : va_D A [(qh, .inr (2, [.ref q826, .int 0, .int 0])), (q826, .inl (cG, 6, .inr (.inr (.inr (.inr (fun _ => none))))))] := hD
  refine W.widen (k := 1) (n := 6) (by decide) (by decide) ?_
  exact W.vret hx hb hr (fun t ht hW => ⟨⟨q826, rfl, trivial, by rw [ht]; exact hP, hD⟩, hS.F ht⟩) hS.2.2 dX2_init_23

abbrev rm_X6_init : Room := { frames := 1, cells := 7, slots := 558, locals := 30 }
set_option maxHeartbeats 1000000 in
set_option maxRecDepth 100000 in
theorem c_X6_init (l : Launch) (G : va_G) (cI cC cZ cG : ClassId) (sz : Nat) (qm : Nat) : Met l yX6_init (.code yX6_init cX6_init 2 none :: wsL_law) rm_X6_init (va_Pc [.ref qm] (bw G cI cC cZ cG false sz [(qm, .inr (6, [.null, .null, .null, .int 0, .null, .null, .null, .int 0, .int 0, .null]))])) (va_Qv (fun (u : Nat × Nat × Nat × Nat × Nat × Nat × Nat) => True) (fun (u : Nat × Nat × Nat × Nat × Nat × Nat × Nat) t => va_P G vwCl [(qm, .inr (6, [.ref u.1, .ref u.2.1, .ref u.2.2.1, .int 0, .ref u.2.2.2.1, .ref u.2.2.2.2.1, .ref u.2.2.2.2.2.1, .int 0, .int 0, .ref u.2.2.2.2.2.2])), (u.1, .inl (cI, 46, .inl iMz)), (u.2.1, .inl (cI, 46, .inl zrA)), (u.2.2.1, .inl (cI, 276, .inl zrA)), (u.2.2.2.1, .inl (cI, 92, .inl zrA)), (u.2.2.2.2.1, .inl (cZ, 2, .inl zrA)), (u.2.2.2.2.2.1, .inl (cI, 60, .inl zrA)), (u.2.2.2.2.2.2, .inl (cI, 36, .inl zrA))] t.heap ∧ va_D (va_A [(qm, .inr (6, [.null, .null, .null, .int 0, .null, .null, .null, .int 0, .int 0, .null]))] sz) [(qm, .inr (6, [.ref u.1, .ref u.2.1, .ref u.2.2.1, .int 0, .ref u.2.2.2.1, .ref u.2.2.2.2.1, .ref u.2.2.2.2.2.1, .int 0, .int 0, .ref u.2.2.2.2.2.2])), (u.1, .inl (cI, 46, .inl iMz)), (u.2.1, .inl (cI, 46, .inl zrA)), (u.2.2.1, .inl (cI, 276, .inl zrA)), (u.2.2.2.1, .inl (cI, 92, .inl zrA)), (u.2.2.2.2.1, .inl (cZ, 2, .inl zrA)), (u.2.2.2.2.2.1, .inl (cI, 60, .inl zrA)), (u.2.2.2.2.2.2, .inl (cI, 36, .inl zrA))]) (va_A [(qm, .inr (6, [.null, .null, .null, .int 0, .null, .null, .null, .int 0, .int 0, .null]))] sz)) 7 558 (va_A [(qm, .inr (6, [.null, .null, .null, .int 0, .null, .null, .null, .int 0, .int 0, .null]))] sz) := by
  refine met_bw rfl (Nat.le_of_ble_eq_true rfl) ?_
  intro p e s m below meth c ls hx hb hr hml hown hts hlocks hin hsz hP hK hD0 hX0 hl
  have hown : s.vm.findClass RX6 = some m.cls := hown
  have hl : lv_has ls 2 [(0, .ref qm)] := hl
  subst hsz
  have hD := hD0.self (sz := s.heap.size)
  generalize hAe : va_A [(qm, .inr (6, [.null, .null, .null, .int 0, .null, .null, .null, .int 0, .int 0, .null]))] s.heap.size = A at hD ⊢
  have hA : ∀ q : Nat, s.heap.size ≤ q → A q := fun q h => by rw [← hAe]; exact Or.inr h
  have hS : va_S A s.heap s.heap [] := va_S.rf
  generalize hQ : MQ below (va_Qv (fun (u : Nat × Nat × Nat × Nat × Nat × Nat × Nat) => True) (fun (u : Nat × Nat × Nat × Nat × Nat × Nat × Nat) t => va_P G vwCl [(qm, .inr (6, [.ref u.1, .ref u.2.1, .ref u.2.2.1, .int 0, .ref u.2.2.2.1, .ref u.2.2.2.2.1, .ref u.2.2.2.2.2.1, .int 0, .int 0, .ref u.2.2.2.2.2.2])), (u.1, .inl (cI, 46, .inl iMz)), (u.2.1, .inl (cI, 46, .inl zrA)), (u.2.2.1, .inl (cI, 276, .inl zrA)), (u.2.2.2.1, .inl (cI, 92, .inl zrA)), (u.2.2.2.2.1, .inl (cZ, 2, .inl zrA)), (u.2.2.2.2.2.1, .inl (cI, 60, .inl zrA)), (u.2.2.2.2.2.2, .inl (cI, 36, .inl zrA))] t.heap ∧ va_D A [(qm, .inr (6, [.ref u.1, .ref u.2.1, .ref u.2.2.1, .int 0, .ref u.2.2.2.1, .ref u.2.2.2.2.1, .ref u.2.2.2.2.2.1, .int 0, .int 0, .ref u.2.2.2.2.2.2])), (u.1, .inl (cI, 46, .inl iMz)), (u.2.1, .inl (cI, 46, .inl zrA)), (u.2.2.1, .inl (cI, 276, .inl zrA)), (u.2.2.2.1, .inl (cI, 92, .inl zrA)), (u.2.2.2.2.1, .inl (cZ, 2, .inl zrA)), (u.2.2.2.2.2.1, .inl (cI, 60, .inl zrA)), (u.2.2.2.2.2.2, .inl (cI, 36, .inl zrA))]) A) ([.ref qm] : List Value).toArray s 7 558 A = Q
  generalize hag : ([.ref qm] : List Value).toArray = ag at hts hQ ⊢
  refine lv_aload_n hx hb dX6_init_0 rfl (lv_at hl 0 rfl) ?_
  refine W.objInit hx hb hown (hts _ wd77) (hts _ wd11) (hts _ wd12) rfl (by rw [hml]; exact hl.1) rfl dX6_init_1 (Nat.le_of_ble_eq_true rfl) (Nat.le_of_ble_eq_true rfl) ?_
  refine W.eq (g2 := F0 m 4 ls []) rfl ?_
  refine lv_aload_n hx hb dX6_init_4 rfl (lv_at hl 0 rfl) ?_
  refine lv_bipush (v := 46) hx hb dX6_init_5 (by decide) ?_
  refine va_newa (atype := .int) (a0 := (46, .inl (fun _ => 0))) hx hb (hts _ wd38) rfl hK.1 hP hD hS hA (fun _ => rfl) (by decide) (by decide) (by decide) (Nat.le_of_ble_eq_true rfl) (Nat.le_of_ble_eq_true rfl) dX6_init_7 (fun q830 cA830 H830 hK9 hP hD hS => ?_)
  obtain rfl := cls_int hK9
  clear hK9
  have hP : va_P G vwCl [(qm, .inr (6, [.null, .null, .null, .int 0, .null, .null, .null, .int 0, .int 0, .null])), (q830, .inl (cI, 46, .inl (fun _ => 0)))] H830 := hP
  have hD : va_D A [(qm, .inr (6, [.null, .null, .null, .int 0, .null, .null, .null, .int 0, .int 0, .null])), (q830, .inl (cI, 46, .inl (fun _ => 0)))] := hD
  refine va_putF (D := G) (ci := 6) (v := .ref q830) (ty := .array .int) (C := RX6) (T := TX6) (N := 10) hx hb hts inlX6 tyX6 tyX6_ok nmX6 hown hK.1 hP hD hS 0 rfl rfl 0 (by decide) (hts _ wd78) (fun _ h9 => h9) rfl hin rfl (by decide +kernel) rfl rfl (Nat.le_of_ble_eq_true rfl) dX6_init_9 (fun H831 locs831 hP hD hS => ?_)
  have hP : va_P G vwCl [(qm, .inr (6, [.ref q830, .null, .null, .int 0, .null, .null, .null, .int 0, .int 0, .null])), (q830, .inl (cI, 46, .inl (fun _ => 0)))] H831 := hP
  have hD : va_D A [(qm, .inr (6, [.ref q830, .null, .null, .int 0, .null, .null, .null, .int 0, .int 0, .null])), (q830, .inl (cI, 46, .inl (fun _ => 0)))] := hD
  refine lv_aload_n hx hb dX6_init_12 rfl (lv_at hl 0 rfl) ?_
  refine lv_bipush (v := 46) hx hb dX6_init_13 (by decide) ?_
  refine va_newa (atype := .int) (a0 := (46, .inl (fun _ => 0))) hx hb (hts _ wd38) rfl hK.1 hP hD hS hA (fun _ => rfl) (by decide) (by decide) (by decide) (Nat.le_of_ble_eq_true rfl) (Nat.le_of_ble_eq_true rfl) dX6_init_15 (fun q832 cA832 H832 hK9 hP hD hS => ?_)
  obtain rfl := cls_int hK9
  clear hK9
  have hP : va_P G vwCl [(qm, .inr (6, [.ref q830, .null, .null, .int 0, .null, .null, .null, .int 0, .int 0, .null])), (q830, .inl (cI, 46, .inl (fun _ => 0))), (q832, .inl (cI, 46, .inl (fun _ => 0)))] H832 := hP
  have hD : va_D A [(qm, .inr (6, [.ref q830, .null, .null, .int 0, .null, .null, .null, .int 0, .int 0, .null])), (q830, .inl (cI, 46, .inl (fun _ => 0))), (q832, .inl (cI, 46, .inl (fun _ => 0)))] := hD
  refine va_putF (D := G) (ci := 6) (v := .ref q832) (ty := .array .int) (C := RX6) (T := TX6) (N := 10) hx hb hts inlX6 tyX6 tyX6_ok nmX6 hown hK.1 hP hD hS 0 rfl rfl 1 (by decide) (hts _ wd79) (fun _ h9 => h9) rfl hin rfl (by decide +kernel) rfl rfl (Nat.le_of_ble_eq_true rfl) dX6_init_17 (fun H833 locs833 hP hD hS => ?_)
  have hP : va_P G vwCl [(qm, .inr (6, [.ref q830, .ref q832, .null, .int 0, .null, .null, .null, .int 0, .int 0, .null])), (q830, .inl (cI, 46, .inl (fun _ => 0))), (q832, .inl (cI, 46, .inl (fun _ => 0)))] H833 := hP
  have hD : va_D A [(qm, .inr (6, [.ref q830, .ref q832, .null, .int 0, .null, .null, .null, .int 0, .int 0, .null])), (q830, .inl (cI, 46, .inl (fun _ => 0))), (q832, .inl (cI, 46, .inl (fun _ => 0)))] := hD
  refine lv_aload_n hx hb dX6_init_20 rfl (lv_at hl 0 rfl) ?_
  refine lv_sipush (v := 276) hx hb dX6_init_21 (by decide) ?_
  refine va_newa (atype := .int) (a0 := (276, .inl (fun _ => 0))) hx hb (hts _ wd38) rfl hK.1 hP hD hS hA (fun _ => rfl) (by decide) (by decide) (by decide) (Nat.le_of_ble_eq_true rfl) (Nat.le_of_ble_eq_true rfl) dX6_init_24 (fun q834 cA834 H834 hK9 hP hD hS => ?_)
  obtain rfl := cls_int hK9
  clear hK9
  have hP : va_P G vwCl [(qm, .inr (6, [.ref q830, .ref q832, .null, .int 0, .null, .null, .null, .int 0, .int 0, .null])), (q830, .inl (cI, 46, .inl (fun _ => 0))), (q832, .inl (cI, 46, .inl (fun _ => 0))), (q834, .inl (cI, 276, .inl (fun _ => 0)))] H834 := hP
  have hD : va_D A [(qm, .inr (6, [.ref q830, .ref q832, .null, .int 0, .null, .null, .null, .int 0, .int 0, .null])), (q830, .inl (cI, 46, .inl (fun _ => 0))), (q832, .inl (cI, 46, .inl (fun _ => 0))), (q834, .inl (cI, 276, .inl (fun _ => 0)))] := hD
  refine va_putF (D := G) (ci := 6) (v := .ref q834) (ty := .array .int) (C := RX6) (T := TX6) (N := 10) hx hb hts inlX6 tyX6 tyX6_ok nmX6 hown hK.1 hP hD hS 0 rfl rfl 2 (by decide) (hts _ wd80) (fun _ h9 => h9) rfl hin rfl (by decide +kernel) rfl rfl (Nat.le_of_ble_eq_true rfl) dX6_init_26 (fun H835 locs835 hP hD hS => ?_)
  have hP : va_P G vwCl [(qm, .inr (6, [.ref q830, .ref q832, .ref q834, .int 0, .null, .null, .null, .int 0, .int 0, .null])), (q830, .inl (cI, 46, .inl (fun _ => 0))), (q832, .inl (cI, 46, .inl (fun _ => 0))), (q834, .inl (cI, 276, .inl (fun _ => 0)))] H835 := hP
  have hD : va_D A [(qm, .inr (6, [.ref q830, .ref q832, .ref q834, .int 0, .null, .null, .null, .int 0, .int 0, .null])), (q830, .inl (cI, 46, .inl (fun _ => 0))), (q832, .inl (cI, 46, .inl (fun _ => 0))), (q834, .inl (cI, 276, .inl (fun _ => 0)))] := hD
  refine lv_aload_n hx hb dX6_init_29 rfl (lv_at hl 0 rfl) ?_
  refine lv_bipush (v := 92) hx hb dX6_init_30 (by decide) ?_
  refine va_newa (atype := .int) (a0 := (92, .inl (fun _ => 0))) hx hb (hts _ wd38) rfl hK.1 hP hD hS hA (fun _ => rfl) (by decide) (by decide) (by decide) (Nat.le_of_ble_eq_true rfl) (Nat.le_of_ble_eq_true rfl) dX6_init_32 (fun q836 cA836 H836 hK9 hP hD hS => ?_)
  obtain rfl := cls_int hK9
  clear hK9
  have hP : va_P G vwCl [(qm, .inr (6, [.ref q830, .ref q832, .ref q834, .int 0, .null, .null, .null, .int 0, .int 0, .null])), (q830, .inl (cI, 46, .inl (fun _ => 0))), (q832, .inl (cI, 46, .inl (fun _ => 0))), (q834, .inl (cI, 276, .inl (fun _ => 0))), (q836, .inl (cI, 92, .inl (fun _ => 0)))] H836 := hP
  have hD : va_D A [(qm, .inr (6, [.ref q830, .ref q832, .ref q834, .int 0, .null, .null, .null, .int 0, .int 0, .null])), (q830, .inl (cI, 46, .inl (fun _ => 0))), (q832, .inl (cI, 46, .inl (fun _ => 0))), (q834, .inl (cI, 276, .inl (fun _ => 0))), (q836, .inl (cI, 92, .inl (fun _ => 0)))] := hD
  refine va_putF (D := G) (ci := 6) (v := .ref q836) (ty := .array .int) (C := RX6) (T := TX6) (N := 10) hx hb hts inlX6 tyX6 tyX6_ok nmX6 hown hK.1 hP hD hS 0 rfl rfl 4 (by decide) (hts _ wd81) (fun _ h9 => h9) rfl hin rfl (by decide +kernel) rfl rfl (Nat.le_of_ble_eq_true rfl) dX6_init_34 (fun H837 locs837 hP hD hS => ?_)
  have hP : va_P G vwCl [(qm, .inr (6, [.ref q830, .ref q832, .ref q834, .int 0, .ref q836, .null, .null, .int 0, .int 0, .null])), (q830, .inl (cI, 46, .inl (fun _ => 0))), (q832, .inl (cI, 46, .inl (fun _ => 0))), (q834, .inl (cI, 276, .inl (fun _ => 0))), (q836, .inl (cI, 92, .inl (fun _ => 0)))] H837 := hP
  have hD : va_D A [(qm, .inr (6, [.ref q830, .ref q832, .ref q834, .int 0, .ref q836, .null, .null, .int 0, .int 0, .null])), (q830, .inl (cI, 46, .inl (fun _ => 0))), (q832, .inl (cI, 46, .inl (fun _ => 0))), (q834, .inl (cI, 276, .inl (fun _ => 0))), (q836, .inl (cI, 92, .inl (fun _ => 0)))] := hD
  refine lv_aload_n hx hb dX6_init_37 rfl (lv_at hl 0 rfl) ?_
  refine lv_iconst (v := 2) hx hb dX6_init_38 (by decide) ?_
  refine va_newa (atype := .boolean) (a0 := (2, .inl (fun _ => 0))) hx hb (hts _ wd82) rfl hK.1 hP hD hS hA (fun _ => rfl) (by decide) (by decide) (by decide) (Nat.le_of_ble_eq_true rfl) (Nat.le_of_ble_eq_true rfl) dX6_init_39 (fun q838 cA838 H838 hK9 hP hD hS => ?_)
  obtain rfl := cls_boolean hK9
  clear hK9
  have hP : va_P G vwCl [(qm, .inr (6, [.ref q830, .ref q832, .ref q834, .int 0, .ref q836, .null, .null, .int 0, .int 0, .null])), (q830, .inl (cI, 46, .inl (fun _ => 0))), (q832, .inl (cI, 46, .inl (fun _ => 0))), (q834, .inl (cI, 276, .inl (fun _ => 0))), (q836, .inl (cI, 92, .inl (fun _ => 0))), (q838, .inl (cZ, 2, .inl (fun _ => 0)))] H838 := hP
  have hD : va_D A [(qm, .inr (6, [.ref q830, .ref q832, .ref q834, .int 0, .ref q836, .null, .null, .int 0, .int 0, .null])), (q830, .inl (cI, 46, .inl (fun _ => 0))), (q832, .inl (cI, 46, .inl (fun _ => 0))), (q834, .inl (cI, 276, .inl (fun _ => 0))), (q836, .inl (cI, 92, .inl (fun _ => 0))), (q838, .inl (cZ, 2, .inl (fun _ => 0)))] := hD
  refine va_putF (D := G) (ci := 6) (v := .ref q838) (ty := .array .boolean) (C := RX6) (T := TX6) (N := 10) hx hb hts inlX6 tyX6 tyX6_ok nmX6 hown hK.1 hP hD hS 0 rfl rfl 5 (by decide) (hts _ wd83) (fun _ h9 => h9) rfl hin rfl (by decide +kernel) rfl rfl (Nat.le_of_ble_eq_true rfl) dX6_init_41 (fun H839 locs839 hP hD hS => ?_)
  have hP : va_P G vwCl [(qm, .inr (6, [.ref q830, .ref q832, .ref q834, .int 0, .ref q836, .ref q838, .null, .int 0, .int 0, .null])), (q830, .inl (cI, 46, .inl (fun _ => 0))), (q832, .inl (cI, 46, .inl (fun _ => 0))), (q834, .inl (cI, 276, .inl (fun _ => 0))), (q836, .inl (cI, 92, .inl (fun _ => 0))), (q838, .inl (cZ, 2, .inl (fun _ => 0)))] H839 := hP
  have hD : va_D A [(qm, .inr (6, [.ref q830, .ref q832, .ref q834, .int 0, .ref q836, .ref q838, .null, .int 0, .int 0, .null])), (q830, .inl (cI, 46, .inl (fun _ => 0))), (q832, .inl (cI, 46, .inl (fun _ => 0))), (q834, .inl (cI, 276, .inl (fun _ => 0))), (q836, .inl (cI, 92, .inl (fun _ => 0))), (q838, .inl (cZ, 2, .inl (fun _ => 0)))] := hD
  refine lv_aload_n hx hb dX6_init_44 rfl (lv_at hl 0 rfl) ?_
  refine lv_bipush (v := 60) hx hb dX6_init_45 (by decide) ?_
  refine va_newa (atype := .int) (a0 := (60, .inl (fun _ => 0))) hx hb (hts _ wd38) rfl hK.1 hP hD hS hA (fun _ => rfl) (by decide) (by decide) (by decide) (Nat.le_of_ble_eq_true rfl) (Nat.le_of_ble_eq_true rfl) dX6_init_47 (fun q840 cA840 H840 hK9 hP hD hS => ?_)
  obtain rfl := cls_int hK9
  clear hK9
  have hP : va_P G vwCl [(qm, .inr (6, [.ref q830, .ref q832, .ref q834, .int 0, .ref q836, .ref q838, .null, .int 0, .int 0, .null])), (q830, .inl (cI, 46, .inl (fun _ => 0))), (q832, .inl (cI, 46, .inl (fun _ => 0))), (q834, .inl (cI, 276, .inl (fun _ => 0))), (q836, .inl (cI, 92, .inl (fun _ => 0))), (q838, .inl (cZ, 2, .inl (fun _ => 0))), (q840, .inl (cI, 60, .inl (fun _ => 0)))] H840 := hP
  have hD : va_D A [(qm, .inr (6, [.ref q830, .ref q832, .ref q834, .int 0, .ref q836, .ref q838, .null, .int 0, .int 0, .null])), (q830, .inl (cI, 46, .inl (fun _ => 0))), (q832, .inl (cI, 46, .inl (fun _ => 0))), (q834, .inl (cI, 276, .inl (fun _ => 0))), (q836, .inl (cI, 92, .inl (fun _ => 0))), (q838, .inl (cZ, 2, .inl (fun _ => 0))), (q840, .inl (cI, 60, .inl (fun _ => 0)))] := hD
  refine va_putF (D := G) (ci := 6) (v := .ref q840) (ty := .array .int) (C := RX6) (T := TX6) (N := 10) hx hb hts inlX6 tyX6 tyX6_ok nmX6 hown hK.1 hP hD hS 0 rfl rfl 6 (by decide) (hts _ wd84) (fun _ h9 => h9) rfl hin rfl (by decide +kernel) rfl rfl (Nat.le_of_ble_eq_true rfl) dX6_init_49 (fun H841 locs841 hP hD hS => ?_)
  have hP : va_P G vwCl [(qm, .inr (6, [.ref q830, .ref q832, .ref q834, .int 0, .ref q836, .ref q838, .ref q840, .int 0, .int 0, .null])), (q830, .inl (cI, 46, .inl (fun _ => 0))), (q832, .inl (cI, 46, .inl (fun _ => 0))), (q834, .inl (cI, 276, .inl (fun _ => 0))), (q836, .inl (cI, 92, .inl (fun _ => 0))), (q838, .inl (cZ, 2, .inl (fun _ => 0))), (q840, .inl (cI, 60, .inl (fun _ => 0)))] H841 := hP
  have hD : va_D A [(qm, .inr (6, [.ref q830, .ref q832, .ref q834, .int 0, .ref q836, .ref q838, .ref q840, .int 0, .int 0, .null])), (q830, .inl (cI, 46, .inl (fun _ => 0))), (q832, .inl (cI, 46, .inl (fun _ => 0))), (q834, .inl (cI, 276, .inl (fun _ => 0))), (q836, .inl (cI, 92, .inl (fun _ => 0))), (q838, .inl (cZ, 2, .inl (fun _ => 0))), (q840, .inl (cI, 60, .inl (fun _ => 0)))] := hD
  refine lv_aload_n hx hb dX6_init_52 rfl (lv_at hl 0 rfl) ?_
  refine lv_bipush (v := 36) hx hb dX6_init_53 (by decide) ?_
  refine va_newa (atype := .int) (a0 := (36, .inl (fun _ => 0))) hx hb (hts _ wd38) rfl hK.1 hP hD hS hA (fun _ => rfl) (by decide) (by decide) (by decide) (Nat.le_of_ble_eq_true rfl) (Nat.le_of_ble_eq_true rfl) dX6_init_55 (fun q842 cA842 H842 hK9 hP hD hS => ?_)
  obtain rfl := cls_int hK9
  clear hK9
  have hP : va_P G vwCl [(qm, .inr (6, [.ref q830, .ref q832, .ref q834, .int 0, .ref q836, .ref q838, .ref q840, .int 0, .int 0, .null])), (q830, .inl (cI, 46, .inl (fun _ => 0))), (q832, .inl (cI, 46, .inl (fun _ => 0))), (q834, .inl (cI, 276, .inl (fun _ => 0))), (q836, .inl (cI, 92, .inl (fun _ => 0))), (q838, .inl (cZ, 2, .inl (fun _ => 0))), (q840, .inl (cI, 60, .inl (fun _ => 0))), (q842, .inl (cI, 36, .inl (fun _ => 0)))] H842 := hP
  have hD : va_D A [(qm, .inr (6, [.ref q830, .ref q832, .ref q834, .int 0, .ref q836, .ref q838, .ref q840, .int 0, .int 0, .null])), (q830, .inl (cI, 46, .inl (fun _ => 0))), (q832, .inl (cI, 46, .inl (fun _ => 0))), (q834, .inl (cI, 276, .inl (fun _ => 0))), (q836, .inl (cI, 92, .inl (fun _ => 0))), (q838, .inl (cZ, 2, .inl (fun _ => 0))), (q840, .inl (cI, 60, .inl (fun _ => 0))), (q842, .inl (cI, 36, .inl (fun _ => 0)))] := hD
  refine va_putF (D := G) (ci := 6) (v := .ref q842) (ty := .array .int) (C := RX6) (T := TX6) (N := 10) hx hb hts inlX6 tyX6 tyX6_ok nmX6 hown hK.1 hP hD hS 0 rfl rfl 9 (by decide) (hts _ wd85) (fun _ h9 => h9) rfl hin rfl (by decide +kernel) rfl rfl (Nat.le_of_ble_eq_true rfl) dX6_init_57 (fun H843 locs843 hP hD hS => ?_)
  have hP : va_P G vwCl [(qm, .inr (6, [.ref q830, .ref q832, .ref q834, .int 0, .ref q836, .ref q838, .ref q840, .int 0, .int 0, .ref q842])), (q830, .inl (cI, 46, .inl (fun _ => 0))), (q832, .inl (cI, 46, .inl (fun _ => 0))), (q834, .inl (cI, 276, .inl (fun _ => 0))), (q836, .inl (cI, 92, .inl (fun _ => 0))), (q838, .inl (cZ, 2, .inl (fun _ => 0))), (q840, .inl (cI, 60, .inl (fun _ => 0))), (q842, .inl (cI, 36, .inl (fun _ => 0)))] H843 := hP
  have hD : va_D A [(qm, .inr (6, [.ref q830, .ref q832, .ref q834, .int 0, .ref q836, .ref q838, .ref q840, .int 0, .int 0, .ref q842])), (q830, .inl (cI, 46, .inl (fun _ => 0))), (q832, .inl (cI, 46, .inl (fun _ => 0))), (q834, .inl (cI, 276, .inl (fun _ => 0))), (q836, .inl (cI, 92, .inl (fun _ => 0))), (q838, .inl (cZ, 2, .inl (fun _ => 0))), (q840, .inl (cI, 60, .inl (fun _ => 0))), (q842, .inl (cI, 36, .inl (fun _ => 0)))] := hD
  refine lv_iconst (v := 0) hx hb dX6_init_60 (by decide) ?_
  refine lv_istore_n (lv' := [(1, .int 0), (0, .ref qm)]) hx hb dX6_init_61 rfl hl (by decide) rfl (fun ls hl => ?_)
  have L1 : ∀ (n : Nat), ∀ (i : Nat), ∀ (nc : IA), ∀ (hi : i ≤ 12), ∀ (hf2 : nc = flv (-6) zrA i), ∀ (hn : 13 ≤ i + n), ∀ (H844 : Heap) (locs844 : List Loc), va_P G vwCl [(qm, .inr (6, [.ref q830, .ref q832, .ref q834, .int 0, .ref q836, .ref q838, .ref q840, .int 0, .int 0, .ref q842])), (q830, .inl (cI, 46, .inl nc)), (q832, .inl (cI, 46, .inl (fun _ => 0))), (q834, .inl (cI, 276, .inl (fun _ => 0))), (q836, .inl (cI, 92, .inl (fun _ => 0))), (q838, .inl (cZ, 2, .inl (fun _ => 0))), (q840, .inl (cI, 60, .inl (fun _ => 0))), (q842, .inl (cI, 36, .inl (fun _ => 0)))] H844 → va_D A [(qm, .inr (6, [.ref q830, .ref q832, .ref q834, .int 0, .ref q836, .ref q838, .ref q840, .int 0, .int 0, .ref q842])), (q830, .inl (cI, 46, .inl nc)), (q832, .inl (cI, 46, .inl (fun _ => 0))), (q834, .inl (cI, 276, .inl (fun _ => 0))), (q836, .inl (cI, 92, .inl (fun _ => 0))), (q838, .inl (cZ, 2, .inl (fun _ => 0))), (q840, .inl (cI, 60, .inl (fun _ => 0))), (q842, .inl (cI, 36, .inl (fun _ => 0)))] → va_S A s.heap H844 locs844 → ∀ (ls : Array Slot), lv_has ls 2 [(1, .int (nI i)), (0, .ref qm)] → W p l e rm_X6_init s m ag below meth c H844 locs844 7 558 Q (F0 m 62 ls []) := by
    intro n
    induction n with
    | zero =>
      intro i nc hi hf2 hn H844 locs844 hP hD hS ls hl
      omega
    | succ n ih1 =>
      intro i nc hi hf2 hn H844 locs844 hP hD hS ls hl
      refine lv_iload_n hx hb dX6_init_62 rfl (lv_at hl 0 rfl) ?_
      refine lv_bipush (v := 12) hx hb dX6_init_63 (by decide) ?_
      refine zi_ge (tgt := 82) hx hb i 12 dX6_init_65 (by decide) rfl rfl (by omega) (by decide) (fun c_845 => ?_) (fun c_845 => ?_)
      · obtain rfl : nc = flv (-6) zrA 12 := by rw [hf2, show i = 12 by omega]
        refine lv_aload_n hx hb dX6_init_82 rfl (lv_at hl 1 rfl) ?_
        refine va_get (D := G) (ci := 6) (v := .ref q830) (C := RX6) (T := TX6) (N := 10) hx hb hts inlX6 hown hK.1 hP 0 rfl rfl 0 (by decide) (hts _ wd78) (fun _ h9 => h9) rfl dX6_init_83 ?_
        refine lv_bipush (v := 36) hx hb dX6_init_86 (by decide) ?_
        refine lv_iconst (v := 5) hx hb dX6_init_88 (by decide) ?_
        refine za_st hx hb hK.1 hP hD hS 1 0 rfl rfl 36 rfl (by decide) (by decide) dX6_init_89 (fun H846 locs846 hP hD hS => ?_)
        have hP : va_P G vwCl [(qm, .inr (6, [.ref q830, .ref q832, .ref q834, .int 0, .ref q836, .ref q838, .ref q840, .int 0, .int 0, .ref q842])), (q830, .inl (cI, 46, .inl (upd (flv (-6) zrA 12) 36 5))), (q832, .inl (cI, 46, .inl (fun _ => 0))), (q834, .inl (cI, 276, .inl (fun _ => 0))), (q836, .inl (cI, 92, .inl (fun _ => 0))), (q838, .inl (cZ, 2, .inl (fun _ => 0))), (q840, .inl (cI, 60, .inl (fun _ => 0))), (q842, .inl (cI, 36, .inl (fun _ => 0)))] H846 := hP
        have hD : va_D A [(qm, .inr (6, [.ref q830, .ref q832, .ref q834, .int 0, .ref q836, .ref q838, .ref q840, .int 0, .int 0, .ref q842])), (q830, .inl (cI, 46, .inl (upd (flv (-6) zrA 12) 36 5))), (q832, .inl (cI, 46, .inl (fun _ => 0))), (q834, .inl (cI, 276, .inl (fun _ => 0))), (q836, .inl (cI, 92, .inl (fun _ => 0))), (q838, .inl (cZ, 2, .inl (fun _ => 0))), (q840, .inl (cI, 60, .inl (fun _ => 0))), (q842, .inl (cI, 36, .inl (fun _ => 0)))] := hD
        refine lv_aload_n hx hb dX6_init_90 rfl (lv_at hl 1 rfl) ?_
        refine va_get (D := G) (ci := 6) (v := .ref q830) (C := RX6) (T := TX6) (N := 10) hx hb hts inlX6 hown hK.1 hP 0 rfl rfl 0 (by decide) (hts _ wd78) (fun _ h9 => h9) rfl dX6_init_91 ?_
        refine lv_bipush (v := 38) hx hb dX6_init_94 (by decide) ?_
        refine lv_iconst (v := 1) hx hb dX6_init_96 (by decide) ?_
        refine za_st hx hb hK.1 hP hD hS 1 0 rfl rfl 38 rfl (by decide) (by decide) dX6_init_97 (fun H847 locs847 hP hD hS => ?_)
        have hP : va_P G vwCl [(qm, .inr (6, [.ref q830, .ref q832, .ref q834, .int 0, .ref q836, .ref q838, .ref q840, .int 0, .int 0, .ref q842])), (q830, .inl (cI, 46, .inl (upd (upd (flv (-6) zrA 12) 36 5) 38 1))), (q832, .inl (cI, 46, .inl (fun _ => 0))), (q834, .inl (cI, 276, .inl (fun _ => 0))), (q836, .inl (cI, 92, .inl (fun _ => 0))), (q838, .inl (cZ, 2, .inl (fun _ => 0))), (q840, .inl (cI, 60, .inl (fun _ => 0))), (q842, .inl (cI, 36, .inl (fun _ => 0)))] H847 := hP
        have hD : va_D A [(qm, .inr (6, [.ref q830, .ref q832, .ref q834, .int 0, .ref q836, .ref q838, .ref q840, .int 0, .int 0, .ref q842])), (q830, .inl (cI, 46, .inl (upd (upd (flv (-6) zrA 12) 36 5) 38 1))), (q832, .inl (cI, 46, .inl (fun _ => 0))), (q834, .inl (cI, 276, .inl (fun _ => 0))), (q836, .inl (cI, 92, .inl (fun _ => 0))), (q838, .inl (cZ, 2, .inl (fun _ => 0))), (q840, .inl (cI, 60, .inl (fun _ => 0))), (q842, .inl (cI, 36, .inl (fun _ => 0)))] := hD
        refine lv_aload_n hx hb dX6_init_98 rfl (lv_at hl 1 rfl) ?_
        refine va_get (D := G) (ci := 6) (v := .ref q830) (C := RX6) (T := TX6) (N := 10) hx hb hts inlX6 hown hK.1 hP 0 rfl rfl 0 (by decide) (hts _ wd78) (fun _ h9 => h9) rfl dX6_init_99 ?_
        refine lv_bipush (v := 39) hx hb dX6_init_102 (by decide) ?_
        refine lv_iconst (v := 1) hx hb dX6_init_104 (by decide) ?_
        refine za_st hx hb hK.1 hP hD hS 1 0 rfl rfl 39 rfl (by decide) (by decide) dX6_init_105 (fun H848 locs848 hP hD hS => ?_)
        have hP : va_P G vwCl [(qm, .inr (6, [.ref q830, .ref q832, .ref q834, .int 0, .ref q836, .ref q838, .ref q840, .int 0, .int 0, .ref q842])), (q830, .inl (cI, 46, .inl (upd (upd (upd (flv (-6) zrA 12) 36 5) 38 1) 39 1))), (q832, .inl (cI, 46, .inl (fun _ => 0))), (q834, .inl (cI, 276, .inl (fun _ => 0))), (q836, .inl (cI, 92, .inl (fun _ => 0))), (q838, .inl (cZ, 2, .inl (fun _ => 0))), (q840, .inl (cI, 60, .inl (fun _ => 0))), (q842, .inl (cI, 36, .inl (fun _ => 0)))] H848 := hP
        have hD : va_D A [(qm, .inr (6, [.ref q830, .ref q832, .ref q834, .int 0, .ref q836, .ref q838, .ref q840, .int 0, .int 0, .ref q842])), (q830, .inl (cI, 46, .inl (upd (upd (upd (flv (-6) zrA 12) 36 5) 38 1) 39 1))), (q832, .inl (cI, 46, .inl (fun _ => 0))), (q834, .inl (cI, 276, .inl (fun _ => 0))), (q836, .inl (cI, 92, .inl (fun _ => 0))), (q838, .inl (cZ, 2, .inl (fun _ => 0))), (q840, .inl (cI, 60, .inl (fun _ => 0))), (q842, .inl (cI, 36, .inl (fun _ => 0)))] := hD
        refine lv_aload_n hx hb dX6_init_106 rfl (lv_at hl 1 rfl) ?_
        refine va_get (D := G) (ci := 6) (v := .ref q830) (C := RX6) (T := TX6) (N := 10) hx hb hts inlX6 hown hK.1 hP 0 rfl rfl 0 (by decide) (hts _ wd78) (fun _ h9 => h9) rfl dX6_init_107 ?_
        refine lv_bipush (v := 41) hx hb dX6_init_110 (by decide) ?_
        refine lv_bipush (v := (-6)) hx hb dX6_init_112 (by decide) ?_
        refine za_st hx hb hK.1 hP hD hS 1 0 rfl rfl 41 rfl (by decide) (by decide) dX6_init_114 (fun H849 locs849 hP hD hS => ?_)
        have hP : va_P G vwCl [(qm, .inr (6, [.ref q830, .ref q832, .ref q834, .int 0, .ref q836, .ref q838, .ref q840, .int 0, .int 0, .ref q842])), (q830, .inl (cI, 46, .inl (upd (upd (upd (upd (flv (-6) zrA 12) 36 5) 38 1) 39 1) 41 (-6)))), (q832, .inl (cI, 46, .inl (fun _ => 0))), (q834, .inl (cI, 276, .inl (fun _ => 0))), (q836, .inl (cI, 92, .inl (fun _ => 0))), (q838, .inl (cZ, 2, .inl (fun _ => 0))), (q840, .inl (cI, 60, .inl (fun _ => 0))), (q842, .inl (cI, 36, .inl (fun _ => 0)))] H849 := hP
        have hD : va_D A [(qm, .inr (6, [.ref q830, .ref q832, .ref q834, .int 0, .ref q836, .ref q838, .ref q840, .int 0, .int 0, .ref q842])), (q830, .inl (cI, 46, .inl (upd (upd (upd (upd (flv (-6) zrA 12) 36 5) 38 1) 39 1) 41 (-6)))), (q832, .inl (cI, 46, .inl (fun _ => 0))), (q834, .inl (cI, 276, .inl (fun _ => 0))), (q836, .inl (cI, 92, .inl (fun _ => 0))), (q838, .inl (cZ, 2, .inl (fun _ => 0))), (q840, .inl (cI, 60, .inl (fun _ => 0))), (q842, .inl (cI, 36, .inl (fun _ => 0)))] := hD
        refine lv_aload_n hx hb dX6_init_115 rfl (lv_at hl 1 rfl) ?_
        refine va_get (D := G) (ci := 6) (v := .ref q830) (C := RX6) (T := TX6) (N := 10) hx hb hts inlX6 hown hK.1 hP 0 rfl rfl 0 (by decide) (hts _ wd78) (fun _ h9 => h9) rfl dX6_init_116 ?_
        refine lv_bipush (v := 42) hx hb dX6_init_119 (by decide) ?_
        refine lv_iconst (v := 1) hx hb dX6_init_121 (by decide) ?_
        refine za_st hx hb hK.1 hP hD hS 1 0 rfl rfl 42 rfl (by decide) (by decide) dX6_init_122 (fun H850 locs850 hP hD hS => ?_)
        have hP : va_P G vwCl [(qm, .inr (6, [.ref q830, .ref q832, .ref q834, .int 0, .ref q836, .ref q838, .ref q840, .int 0, .int 0, .ref q842])), (q830, .inl (cI, 46, .inl (upd (upd (upd (upd (upd (flv (-6) zrA 12) 36 5) 38 1) 39 1) 41 (-6)) 42 1))), (q832, .inl (cI, 46, .inl (fun _ => 0))), (q834, .inl (cI, 276, .inl (fun _ => 0))), (q836, .inl (cI, 92, .inl (fun _ => 0))), (q838, .inl (cZ, 2, .inl (fun _ => 0))), (q840, .inl (cI, 60, .inl (fun _ => 0))), (q842, .inl (cI, 36, .inl (fun _ => 0)))] H850 := hP
        have hD : va_D A [(qm, .inr (6, [.ref q830, .ref q832, .ref q834, .int 0, .ref q836, .ref q838, .ref q840, .int 0, .int 0, .ref q842])), (q830, .inl (cI, 46, .inl (upd (upd (upd (upd (upd (flv (-6) zrA 12) 36 5) 38 1) 39 1) 41 (-6)) 42 1))), (q832, .inl (cI, 46, .inl (fun _ => 0))), (q834, .inl (cI, 276, .inl (fun _ => 0))), (q836, .inl (cI, 92, .inl (fun _ => 0))), (q838, .inl (cZ, 2, .inl (fun _ => 0))), (q840, .inl (cI, 60, .inl (fun _ => 0))), (q842, .inl (cI, 36, .inl (fun _ => 0)))] := hD
        subst hQ
        refine W.widen (k := 7) (n := 558) (by decide) (by decide) ?_
        exact W.vret hx hb hr (fun t ht hW => ⟨⟨(q830, q832, q834, q836, q838, q840, q842), rfl, trivial, by rw [ht]; exact hP, hD⟩, hS.F ht⟩) hS.2.2 dX6_init_123
      · refine lv_aload_n hx hb dX6_init_68 rfl (lv_at hl 1 rfl) ?_
        refine va_get (D := G) (ci := 6) (v := .ref q830) (C := RX6) (T := TX6) (N := 10) hx hb hts inlX6 hown hK.1 hP 0 rfl rfl 0 (by decide) (hts _ wd78) (fun _ h9 => h9) rfl dX6_init_69 ?_
        refine lv_iload_n hx hb dX6_init_72 rfl (lv_at hl 0 rfl) ?_
        refine lv_bipush (v := (-6)) hx hb dX6_init_73 (by decide) ?_
        refine za_st hx hb hK.1 hP hD hS 1 0 rfl rfl i rfl (by omega) (by decide) dX6_init_75 (fun H851 locs851 hP hD hS => ?_)
        have hP : va_P G vwCl [(qm, .inr (6, [.ref q830, .ref q832, .ref q834, .int 0, .ref q836, .ref q838, .ref q840, .int 0, .int 0, .ref q842])), (q830, .inl (cI, 46, .inl (upd nc i (-6)))), (q832, .inl (cI, 46, .inl (fun _ => 0))), (q834, .inl (cI, 276, .inl (fun _ => 0))), (q836, .inl (cI, 92, .inl (fun _ => 0))), (q838, .inl (cZ, 2, .inl (fun _ => 0))), (q840, .inl (cI, 60, .inl (fun _ => 0))), (q842, .inl (cI, 36, .inl (fun _ => 0)))] H851 := hP
        have hD : va_D A [(qm, .inr (6, [.ref q830, .ref q832, .ref q834, .int 0, .ref q836, .ref q838, .ref q840, .int 0, .int 0, .ref q842])), (q830, .inl (cI, 46, .inl (upd nc i (-6)))), (q832, .inl (cI, 46, .inl (fun _ => 0))), (q834, .inl (cI, 276, .inl (fun _ => 0))), (q836, .inl (cI, 92, .inl (fun _ => 0))), (q838, .inl (cZ, 2, .inl (fun _ => 0))), (q840, .inl (cI, 60, .inl (fun _ => 0))), (q842, .inl (cI, 36, .inl (fun _ => 0)))] := hD
        refine lv_iinc (v := nI (i + 1)) (lv' := [(1, .int (nI (i + 1))), (0, .ref qm)]) hx hb dX6_init_76 hl (k := 0) rfl (nI_inc i) (by decide) rfl (fun ls hl => ?_)
        refine lv_goto (tgt := 62) hx hb dX6_init_79 (by decide) ?_
        exact ih1 (i + 1) (upd nc i (-6)) (by omega) (by rw [flv, ← hf2]) (by omega) H851 locs851 hP hD hS _ (lv_sub hl [0, 1] rfl)
  exact L1 13 0 (fun _ => 0) (by decide) rfl (by decide) H843 locs843 hP hD hS _ (lv_sub hl [0, 1] rfl)
