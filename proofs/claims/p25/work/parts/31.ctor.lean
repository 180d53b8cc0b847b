abbrev rm_X0_init : Room := { frames := 1, cells := 4, slots := 32, locals := 30 }
set_option maxHeartbeats 1000000 in
set_option maxRecDepth 100000 in
theorem c_X0_init (l : Launch) (G : va_G) (cI cC cZ cG : ClassId) (sz : Nat) (qb : Nat) : Met l yX0_init (.code yX0_init cX0_init 2 none :: wsL_law) rm_X0_init (va_Pc [.ref qb] (bw G cI cC cZ cG false sz [(qb, .inr (0, [.null, .null, .null, .null, .int 0]))])) (va_Qv (fun (u : Nat × Nat × Nat × Nat) => True) (fun (u : Nat × Nat × Nat × Nat) t => va_P G vwCl [(qb, .inr (0, [.ref u.1, .ref u.2.1, .ref u.2.2.1, .ref u.2.2.2, .int 0])), (u.1, .inl (cI, 12, .inl iPr)), (u.2.1, .inl (cI, 12, .inl zrA)), (u.2.2.1, .inl (cI, 4, .inl iBr)), (u.2.2.2, .inl (cI, 4, .inl zrA))] t.heap ∧ va_D (va_A [(qb, .inr (0, [.null, .null, .null, .null, .int 0]))] sz) [(qb, .inr (0, [.ref u.1, .ref u.2.1, .ref u.2.2.1, .ref u.2.2.2, .int 0])), (u.1, .inl (cI, 12, .inl iPr)), (u.2.1, .inl (cI, 12, .inl zrA)), (u.2.2.1, .inl (cI, 4, .inl iBr)), (u.2.2.2, .inl (cI, 4, .inl zrA))]) (va_A [(qb, .inr (0, [.null, .null, .null, .null, .int 0]))] sz)) 4 32 (va_A [(qb, .inr (0, [.null, .null, .null, .null, .int 0]))] sz) := by
  refine met_bw rfl (Nat.le_of_ble_eq_true rfl) ?_
  intro p e s m below meth c ls hx hb hr hml hown hts hlocks hin hsz hP hK hD0 hX0 hl
  have hown : s.vm.findClass RX0 = some m.cls := hown
  have hl : lv_has ls 2 [(0, .ref qb)] := hl
  subst hsz
  have hD := hD0.self (sz := s.heap.size)
  generalize hAe : va_A [(qb, .inr (0, [.null, .null, .null, .null, .int 0]))] s.heap.size = A at hD ⊢
  have hA : ∀ q : Nat, s.heap.size ≤ q → A q := fun q h => by rw [← hAe]; exact Or.inr h
  have hS : va_S A s.heap s.heap [] := va_S.rf
  generalize hQ : MQ below (va_Qv (fun (u : Nat × Nat × Nat × Nat) => True) (fun (u : Nat × Nat × Nat × Nat) t => va_P G vwCl [(qb, .inr (0, [.ref u.1, .ref u.2.1, .ref u.2.2.1, .ref u.2.2.2, .int 0])), (u.1, .inl (cI, 12, .inl iPr)), (u.2.1, .inl (cI, 12, .inl zrA)), (u.2.2.1, .inl (cI, 4, .inl iBr)), (u.2.2.2, .inl (cI, 4, .inl zrA))] t.heap ∧ va_D A [(qb, .inr (0, [.ref u.1, .ref u.2.1, .ref u.2.2.1, .ref u.2.2.2, .int 0])), (u.1, .inl (cI, 12, .inl iPr)), (u.2.1, .inl (cI, 12, .inl zrA)), (u.2.2.1, .inl (cI, 4, .inl iBr)), (u.2.2.2, .inl (cI, 4, .inl zrA))]) A) ([.ref qb] : List Value).toArray s 4 32 A = Q
  generalize hag : ([.ref qb] : List Value).toArray = ag at hts hQ ⊢
  refine lv_aload_n hx hb dX0_init_0 rfl (lv_at hl 0 rfl) ?_
  refine W.objInit hx hb hown (hts _ wd47) (hts _ wd8) (hts _ wd9) rfl (by rw [hml]; exact hl.1) rfl dX0_init_1 (Nat.le_of_ble_eq_true rfl) (Nat.le_of_ble_eq_true rfl) ?_
  refine W.eq (g2 := F0 m 4 ls []) rfl ?_
  refine lv_aload_n hx hb dX0_init_4 rfl (lv_at hl 0 rfl) ?_
  refine lv_bipush (v := 12) hx hb dX0_init_5 (by decide) ?_
  refine va_newa (atype := .int) (a0 := (12, .inl (fun _ => 0))) hx hb (hts _ wd3) rfl hK.1 hP hD hS hA (fun _ => rfl) (by decide) (by decide) (by decide) (Nat.le_of_ble_eq_true rfl) (Nat.le_of_ble_eq_true rfl) dX0_init_7 (fun q259 cA259 H259 hK9 hP hD hS => ?_)
  obtain rfl := cls_int hK9
  clear hK9
  have hP : va_P G vwCl [(qb, .inr (0, [.null, .null, .null, .null, .int 0])), (q259, .inl (cI, 12, .inl (fun _ => 0)))] H259 := hP
  have hD : va_D A [(qb, .inr (0, [.null, .null, .null, .null, .int 0])), (q259, .inl (cI, 12, .inl (fun _ => 0)))] := hD
  refine va_putF (D := G) (ci := 0) (v := .ref q259) (ty := .array .int) (C := RX0) (T := TX0) (N := 5) hx hb hts inlX0 tyX0 tyX0_ok nmX0 hown hK.1 hP hD hS 0 rfl rfl 0 (by decide) (hts _ wd48) (fun _ h9 => h9) rfl hin rfl (by decide +kernel) rfl rfl (Nat.le_of_ble_eq_true rfl) dX0_init_9 (fun H260 locs260 hP hD hS => ?_)
  have hP : va_P G vwCl [(qb, .inr (0, [.ref q259, .null, .null, .null, .int 0])), (q259, .inl (cI, 12, .inl (fun _ => 0)))] H260 := hP
  have hD : va_D A [(qb, .inr (0, [.ref q259, .null, .null, .null, .int 0])), (q259, .inl (cI, 12, .inl (fun _ => 0)))] := hD
  refine lv_aload_n hx hb dX0_init_12 rfl (lv_at hl 0 rfl) ?_
  refine lv_bipush (v := 12) hx hb dX0_init_13 (by decide) ?_
  refine va_newa (atype := .int) (a0 := (12, .inl (fun _ => 0))) hx hb (hts _ wd3) rfl hK.1 hP hD hS hA (fun _ => rfl) (by decide) (by decide) (by decide) (Nat.le_of_ble_eq_true rfl) (Nat.le_of_ble_eq_true rfl) dX0_init_15 (fun q261 cA261 H261 hK9 hP hD hS => ?_)
  obtain rfl := cls_int hK9
  clear hK9
  have hP : va_P G vwCl [(qb, .inr (0, [.ref q259, .null, .null, .null, .int 0])), (q259, .inl (cI, 12, .inl (fun _ => 0))), (q261, .inl (cI, 12, .inl (fun _ => 0)))] H261 := hP
  have hD : va_D A [(qb, .inr (0, [.ref q259, .null, .null, .null, .int 0])), (q259, .inl (cI, 12, .inl (fun _ => 0))), (q261, .inl (cI, 12, .inl (fun _ => 0)))] := hD
  refine va_putF (D := G) (ci := 0) (v := .ref q261) (ty := .array .int) (C := RX0) (T := TX0) (N := 5) hx hb hts inlX0 tyX0 tyX0_ok nmX0 hown hK.1 hP hD hS 0 rfl rfl 1 (by decide) (hts _ wd49) (fun _ h9 => h9) rfl hin rfl (by decide +kernel) rfl rfl (Nat.le_of_ble_eq_true rfl) dX0_init_17 (fun H262 locs262 hP hD hS => ?_)
  have hP : va_P G vwCl [(qb, .inr (0, [.ref q259, .ref q261, .null, .null, .int 0])), (q259, .inl (cI, 12, .inl (fun _ => 0))), (q261, .inl (cI, 12, .inl (fun _ => 0)))] H262 := hP
  have hD : va_D A [(qb, .inr (0, [.ref q259, .ref q261, .null, .null, .int 0])), (q259, .inl (cI, 12, .inl (fun _ => 0))), (q261, .inl (cI, 12, .inl (fun _ => 0)))] := hD
  refine lv_aload_n hx hb dX0_init_20 rfl (lv_at hl 0 rfl) ?_
  refine lv_iconst (v := 4) hx hb dX0_init_21 (by decide) ?_
  refine va_newa (atype := .int) (a0 := (4, .inl (fun _ => 0))) hx hb (hts _ wd3) rfl hK.1 hP hD hS hA (fun _ => rfl) (by decide) (by decide) (by decide) (Nat.le_of_ble_eq_true rfl) (Nat.le_of_ble_eq_true rfl) dX0_init_22 (fun q263 cA263 H263 hK9 hP hD hS => ?_)
  obtain rfl := cls_int hK9
  clear hK9
  have hP : va_P G vwCl [(qb, .inr (0, [.ref q259, .ref q261, .null, .null, .int 0])), (q259, .inl (cI, 12, .inl (fun _ => 0))), (q261, .inl (cI, 12, .inl (fun _ => 0))), (q263, .inl (cI, 4, .inl (fun _ => 0)))] H263 := hP
  have hD : va_D A [(qb, .inr (0, [.ref q259, .ref q261, .null, .null, .int 0])), (q259, .inl (cI, 12, .inl (fun _ => 0))), (q261, .inl (cI, 12, .inl (fun _ => 0))), (q263, .inl (cI, 4, .inl (fun _ => 0)))] := hD
  refine va_putF (D := G) (ci := 0) (v := .ref q263) (ty := .array .int) (C := RX0) (T := TX0) (N := 5) hx hb hts inlX0 tyX0 tyX0_ok nmX0 hown hK.1 hP hD hS 0 rfl rfl 2 (by decide) (hts _ wd50) (fun _ h9 => h9) rfl hin rfl (by decide +kernel) rfl rfl (Nat.le_of_ble_eq_true rfl) dX0_init_24 (fun H264 locs264 hP hD hS => ?_)
  have hP : va_P G vwCl [(qb, .inr (0, [.ref q259, .ref q261, .ref q263, .null, .int 0])), (q259, .inl (cI, 12, .inl (fun _ => 0))), (q261, .inl (cI, 12, .inl (fun _ => 0))), (q263, .inl (cI, 4, .inl (fun _ => 0)))] H264 := hP
  have hD : va_D A [(qb, .inr (0, [.ref q259, .ref q261, .ref q263, .null, .int 0])), (q259, .inl (cI, 12, .inl (fun _ => 0))), (q261, .inl (cI, 12, .inl (fun _ => 0))), (q263, .inl (cI, 4, .inl (fun _ => 0)))] := hD
  refine lv_aload_n hx hb dX0_init_27 rfl (lv_at hl 0 rfl) ?_
  refine lv_iconst (v := 4) hx hb dX0_init_28 (by decide) ?_
  refine va_newa (atype := .int) (a0 := (4, .inl (fun _ => 0))) hx hb (hts _ wd3) rfl hK.1 hP hD hS hA (fun _ => rfl) (by decide) (by decide) (by decide) (Nat.le_of_ble_eq_true rfl) (Nat.le_of_ble_eq_true rfl) dX0_init_29 (fun q265 cA265 H265 hK9 hP hD hS => ?_)
  obtain rfl := cls_int hK9
  clear hK9
  have hP : va_P G vwCl [(qb, .inr (0, [.ref q259, .ref q261, .ref q263, .null, .int 0])), (q259, .inl (cI, 12, .inl (fun _ => 0))), (q261, .inl (cI, 12, .inl (fun _ => 0))), (q263, .inl (cI, 4, .inl (fun _ => 0))), (q265, .inl (cI, 4, .inl (fun _ => 0)))] H265 := hP
  have hD : va_D A [(qb, .inr (0, [.ref q259, .ref q261, .ref q263, .null, .int 0])), (q259, .inl (cI, 12, .inl (fun _ => 0))), (q261, .inl (cI, 12, .inl (fun _ => 0))), (q263, .inl (cI, 4, .inl (fun _ => 0))), (q265, .inl (cI, 4, .inl (fun _ => 0)))] := hD
  refine va_putF (D := G) (ci := 0) (v := .ref q265) (ty := .array .int) (C := RX0) (T := TX0) (N := 5) hx hb hts inlX0 tyX0 tyX0_ok nmX0 hown hK.1 hP hD hS 0 rfl rfl 3 (by decide) (hts _ wd51) (fun _ h9 => h9) rfl hin rfl (by decide +kernel) rfl rfl (Nat.le_of_ble_eq_true rfl) dX0_init_31 (fun H266 locs266 hP hD hS => ?_)
  have hP : va_P G vwCl [(qb, .inr (0, [.ref q259, .ref q261, .ref q263, .ref q265, .int 0])), (q259, .inl (cI, 12, .inl (fun _ => 0))), (q261, .inl (cI, 12, .inl (fun _ => 0))), (q263, .inl (cI, 4, .inl (fun _ => 0))), (q265, .inl (cI, 4, .inl (fun _ => 0)))] H266 := hP
  have hD : va_D A [(qb, .inr (0, [.ref q259, .ref q261, .ref q263, .ref q265, .int 0])), (q259, .inl (cI, 12, .inl (fun _ => 0))), (q261, .inl (cI, 12, .inl (fun _ => 0))), (q263, .inl (cI, 4, .inl (fun _ => 0))), (q265, .inl (cI, 4, .inl (fun _ => 0)))] := hD
  refine lv_aload_n hx hb dX0_init_34 rfl (lv_at hl 0 rfl) ?_
  refine lv_iconst (v := 0) hx hb dX0_init_35 (by decide) ?_
  refine va_put (D := G) (ci := 0) (v := .int 0) (ty := .int) (C := RX0) (T := TX0) (N := 5) hx hb hts inlX0 tyX0 tyX0_ok nmX0 hown hK.1 hP hD hS 0 rfl rfl 4 (by decide) (hts _ wd52) (fun _ h9 => h9) rfl (by decide +kernel) rfl rfl (Nat.le_of_ble_eq_true rfl) dX0_init_36 (fun H267 locs267 hP hD hS => ?_)
  have hP : va_P G vwCl [(qb, .inr (0, [.ref q259, .ref q261, .ref q263, .ref q265, .int 0])), (q259, .inl (cI, 12, .inl (fun _ => 0))), (q261, .inl (cI, 12, .inl (fun _ => 0))), (q263, .inl (cI, 4, .inl (fun _ => 0))), (q265, .inl (cI, 4, .inl (fun _ => 0)))] H267 := hP
  have hD : va_D A [(qb, .inr (0, [.ref q259, .ref q261, .ref q263, .ref q265, .int 0])), (q259, .inl (cI, 12, .inl (fun _ => 0))), (q261, .inl (cI, 12, .inl (fun _ => 0))), (q263, .inl (cI, 4, .inl (fun _ => 0))), (q265, .inl (cI, 4, .inl (fun _ => 0)))] := hD
  refine lv_iconst (v := 0) hx hb dX0_init_39 (by decide) ?_
  refine lv_istore_n (lv' := [(1, .int 0), (0, .ref qb)]) hx hb dX0_init_40 rfl hl (by decide) rfl (fun ls hl => ?_)
  have L1 : ∀ (n : Nat), ∀ (i : Nat), ∀ (nc : IA), ∀ (hi : i ≤ 12), ∀ (hf2 : nc = flv (-6) zrA i), ∀ (hn : 13 ≤ i + n), ∀ (H268 : Heap) (locs268 : List Loc), va_P G vwCl [(qb, .inr (0, [.ref q259, .ref q261, .ref q263, .ref q265, .int 0])), (q259, .inl (cI, 12, .inl nc)), (q261, .inl (cI, 12, .inl (fun _ => 0))), (q263, .inl (cI, 4, .inl (fun _ => 0))), (q265, .inl (cI, 4, .inl (fun _ => 0)))] H268 → va_D A [(qb, .inr (0, [.ref q259, .ref q261, .ref q263, .ref q265, .int 0])), (q259, .inl (cI, 12, .inl nc)), (q261, .inl (cI, 12, .inl (fun _ => 0))), (q263, .inl (cI, 4, .inl (fun _ => 0))), (q265, .inl (cI, 4, .inl (fun _ => 0)))] → va_S A s.heap H268 locs268 → ∀ (ls : Array Slot), lv_has ls 2 [(1, .int (nI i)), (0, .ref qb)] → W p l e rm_X0_init s m ag below meth c H268 locs268 4 32 Q (F0 m 41 ls []) := by
    intro n
    induction n with
    | zero =>
      intro i nc hi hf2 hn H268 locs268 hP hD hS ls hl
      omega
    | succ n ih1 =>
      intro i nc hi hf2 hn H268 locs268 hP hD hS ls hl
      refine lv_iload_n hx hb dX0_init_41 rfl (lv_at hl 0 rfl) ?_
      refine lv_bipush (v := 12) hx hb dX0_init_42 (by decide) ?_
      refine zi_ge (tgt := 61) hx hb i 12 dX0_init_44 (by decide) rfl rfl (by omega) (by decide) (fun c_269 => ?_) (fun c_269 => ?_)
      · obtain rfl : nc = iPr := by rw [hf2, show i = 12 by omega]; rfl
        refine lv_iconst (v := 0) hx hb dX0_init_61 (by decide) ?_
        refine lv_istore_n (lv' := [(1, .int 0), (0, .ref qb)]) hx hb dX0_init_62 rfl hl (by decide) rfl (fun ls hl => ?_)
        have L2 : ∀ (n : Nat), ∀ (i : Nat), ∀ (nc : IA), ∀ (hi : i ≤ 4), ∀ (hf2 : nc = flv 1 zrA i), ∀ (hn : 5 ≤ i + n), ∀ (H270 : Heap) (locs270 : List Loc), va_P G vwCl [(qb, .inr (0, [.ref q259, .ref q261, .ref q263, .ref q265, .int 0])), (q259, .inl (cI, 12, .inl iPr)), (q261, .inl (cI, 12, .inl (fun _ => 0))), (q263, .inl (cI, 4, .inl nc)), (q265, .inl (cI, 4, .inl (fun _ => 0)))] H270 → va_D A [(qb, .inr (0, [.ref q259, .ref q261, .ref q263, .ref q265, .int 0])), (q259, .inl (cI, 12, .inl iPr)), (q261, .inl (cI, 12, .inl (fun _ => 0))), (q263, .inl (cI, 4, .inl nc)), (q265, .inl (cI, 4, .inl (fun _ => 0)))] → va_S A s.heap H270 locs270 → ∀ (ls : Array Slot), lv_has ls 2 [(1, .int (nI i)), (0, .ref qb)] → W p l e rm_X0_init s m ag below meth c H270 locs270 4 32 Q (F0 m 63 ls []) := by
          intro n
          induction n with
          | zero =>
            intro i nc hi hf2 hn H270 locs270 hP hD hS ls hl
            omega
          | succ n ih2 =>
            intro i nc hi hf2 hn H270 locs270 hP hD hS ls hl
            refine lv_iload_n hx hb dX0_init_63 rfl (lv_at hl 0 rfl) ?_
            refine lv_iconst (v := 4) hx hb dX0_init_64 (by decide) ?_
            refine zi_ge (tgt := 81) hx hb i 4 dX0_init_65 (by decide) rfl rfl (by omega) (by decide) (fun c_271 => ?_) (fun c_271 => ?_)
            · obtain rfl : nc = iBr := by rw [hf2, show i = 4 by omega]; rfl
              subst hQ
              refine W.widen (k := 4) (n := 32) (by decide) (by decide) ?_
              exact W.vret hx hb hr (fun t ht hW => ⟨⟨(q259, q261, q263, q265), rfl, trivial, by rw [ht]; exact hP, hD⟩, hS.F ht⟩) hS.2.2 dX0_init_81
            · refine lv_aload_n hx hb dX0_init_68 rfl (lv_at hl 1 rfl) ?_
              refine va_get (D := G) (ci := 0) (v := .ref q263) (C := RX0) (T := TX0) (N := 5) hx hb hts inlX0 hown hK.1 hP 0 rfl rfl 2 (by decide) (hts _ wd50) (fun _ h9 => h9) rfl dX0_init_69 ?_
              refine lv_iload_n hx hb dX0_init_72 rfl (lv_at hl 0 rfl) ?_
              refine lv_iconst (v := 1) hx hb dX0_init_73 (by decide) ?_
              refine za_st hx hb hK.1 hP hD hS 3 0 rfl rfl i rfl (by omega) (by decide) dX0_init_74 (fun H272 locs272 hP hD hS => ?_)
              have hP : va_P G vwCl [(qb, .inr (0, [.ref q259, .ref q261, .ref q263, .ref q265, .int 0])), (q259, .inl (cI, 12, .inl iPr)), (q261, .inl (cI, 12, .inl (fun _ => 0))), (q263, .inl (cI, 4, .inl (upd nc i 1))), (q265, .inl (cI, 4, .inl (fun _ => 0)))] H272 := hP
              have hD : va_D A [(qb, .inr (0, [.ref q259, .ref q261, .ref q263, .ref q265, .int 0])), (q259, .inl (cI, 12, .inl iPr)), (q261, .inl (cI, 12, .inl (fun _ => 0))), (q263, .inl (cI, 4, .inl (upd nc i 1))), (q265, .inl (cI, 4, .inl (fun _ => 0)))] := hD
              refine lv_iinc (v := nI (i + 1)) (lv' := [(1, .int (nI (i + 1))), (0, .ref qb)]) hx hb dX0_init_75 hl (k := 0) rfl (nI_inc i) (by decide) rfl (fun ls hl => ?_)
              refine lv_goto (tgt := 63) hx hb dX0_init_78 (by decide) ?_
              exact ih2 (i + 1) (upd nc i 1) (by omega) (by rw [flv, ← hf2]) (by omega) H272 locs272 hP hD hS _ (lv_sub hl [0, 1] rfl)
        exact L2 5 0 (fun _ => 0) (by decide) rfl (by decide) H268 locs268 hP hD hS _ (lv_sub hl [0, 1] rfl)
      · refine lv_aload_n hx hb dX0_init_47 rfl (lv_at hl 1 rfl) ?_
        refine va_get (D := G) (ci := 0) (v := .ref q259) (C := RX0) (T := TX0) (N := 5) hx hb hts inlX0 hown hK.1 hP 0 rfl rfl 0 (by decide) (hts _ wd48) (fun _ h9 => h9) rfl dX0_init_48 ?_
        refine lv_iload_n hx hb dX0_init_51 rfl (lv_at hl 0 rfl) ?_
        refine lv_bipush (v := (-6)) hx hb dX0_init_52 (by decide) ?_
        refine za_st hx hb hK.1 hP hD hS 1 0 rfl rfl i rfl (by omega) (by decide) dX0_init_54 (fun H273 locs273 hP hD hS => ?_)
        have hP : va_P G vwCl [(qb, .inr (0, [.ref q259, .ref q261, .ref q263, .ref q265, .int 0])), (q259, .inl (cI, 12, .inl (upd nc i (-6)))), (q261, .inl (cI, 12, .inl (fun _ => 0))), (q263, .inl (cI, 4, .inl (fun _ => 0))), (q265, .inl (cI, 4, .inl (fun _ => 0)))] H273 := hP
        have hD : va_D A [(qb, .inr (0, [.ref q259, .ref q261, .ref q263, .ref q265, .int 0])), (q259, .inl (cI, 12, .inl (upd nc i (-6)))), (q261, .inl (cI, 12, .inl (fun _ => 0))), (q263, .inl (cI, 4, .inl (fun _ => 0))), (q265, .inl (cI, 4, .inl (fun _ => 0)))] := hD
        refine lv_iinc (v := nI (i + 1)) (lv' := [(1, .int (nI (i + 1))), (0, .ref qb)]) hx hb dX0_init_55 hl (k := 0) rfl (nI_inc i) (by decide) rfl (fun ls hl => ?_)
        refine lv_goto (tgt := 41) hx hb dX0_init_58 (by decide) ?_
        exact ih1 (i + 1) (upd nc i (-6)) (by omega) (by rw [flv, ← hf2]) (by omega) H273 locs273 hP hD hS _ (lv_sub hl [0, 1] rfl)
  exact L1 13 0 (fun _ => 0) (by decide) rfl (by decide) H267 locs267 hP hD hS _ (lv_sub hl [0, 1] rfl)

abbrev rm_X1_init : Room := { frames := 2, cells := 6, slots := 40, locals := 51 }
theorem cf_RX1_11 {R : Room} {s : State} {args : Array Value} (ht : ∀ w ∈ wsL_law, w.before args s = true) (hN : ∀ w ∈ nestW, va_Nw w s) (hR : rm_X0_init.frames + 1 ≤ R.frames ∧ 8 + (2 + 11) + rm_X0_init.locals ≤ R.locals) : va_CN R s args RX1 11 yX0_init "BridgedPachisi" cX0_init 2 none (.code yX0_init cX0_init 2 none :: wsL_law) rm_X0_init 4 32 0 ∧ yX0_init.name = "<init>" ∧ (Cond.instanceMethod yX0_init).before args s = true := ⟨cw_N 0 ht hN nw1 wd33 wd46 (by decide +kernel) rfl rfl hR, rfl, ht _ wd45⟩
set_option maxHeartbeats 1000000 in
set_option maxRecDepth 100000 in
theorem c_X1_init (l : Launch) (G : va_G) (cI cC cZ cG : ClassId) (sz : Nat) (qg : Nat) : Met l yX1_init (.code yX1_init cX1_init 1 none :: wsL_law) rm_X1_init (va_Pc [.ref qg] (bw G cI cC cZ cG true sz [(qg, .inr (1, [.null, .null, .int 0, .int 0, .int 0, .int 0, .int 0]))])) (va_Qv (fun (u : Nat × Nat × Nat × Nat × Nat × Nat) => True) (fun (u : Nat × Nat × Nat × Nat × Nat × Nat) t => va_P G vwCl [(qg, .inr (1, [.ref u.2.1, .ref u.1, .int 1, .int 0, .int (-6), .int 1, .int 0])), (u.1, .inl (cI, 3, .inl iSe)), (u.2.1, .inr (0, [.ref u.2.2.1, .ref u.2.2.2.1, .ref u.2.2.2.2.1, .ref u.2.2.2.2.2, .int 0])), (u.2.2.1, .inl (cI, 12, .inl iPr)), (u.2.2.2.1, .inl (cI, 12, .inl zrA)), (u.2.2.2.2.1, .inl (cI, 4, .inl iBr)), (u.2.2.2.2.2, .inl (cI, 4, .inl zrA))] t.heap ∧ va_D (va_A [(qg, .inr (1, [.null, .null, .int 0, .int 0, .int 0, .int 0, .int 0]))] sz) [(qg, .inr (1, [.ref u.2.1, .ref u.1, .int 1, .int 0, .int (-6), .int 1, .int 0])), (u.1, .inl (cI, 3, .inl iSe)), (u.2.1, .inr (0, [.ref u.2.2.1, .ref u.2.2.2.1, .ref u.2.2.2.2.1, .ref u.2.2.2.2.2, .int 0])), (u.2.2.1, .inl (cI, 12, .inl iPr)), (u.2.2.2.1, .inl (cI, 12, .inl zrA)), (u.2.2.2.2.1, .inl (cI, 4, .inl iBr)), (u.2.2.2.2.2, .inl (cI, 4, .inl zrA))]) (va_A [(qg, .inr (1, [.null, .null, .int 0, .int 0, .int 0, .int 0, .int 0]))] sz)) 6 40 (va_A [(qg, .inr (1, [.null, .null, .int 0, .int 0, .int 0, .int 0, .int 0]))] sz) := by
  refine met_bw rfl (Nat.le_of_ble_eq_true rfl) ?_
  intro p e s m below meth c ls hx hb hr hml hown hts hlocks hin hsz hP hK hD0 hX0 hl
  have hown : s.vm.findClass RX1 = some m.cls := hown
  have hl : lv_has ls 1 [(0, .ref qg)] := hl
  subst hsz
  have hD := hD0.self (sz := s.heap.size)
  have hX := hX0 rfl
  generalize hAe : va_A [(qg, .inr (1, [.null, .null, .int 0, .int 0, .int 0, .int 0, .int 0]))] s.heap.size = A at hD hX ⊢
  have hA : ∀ q : Nat, s.heap.size ≤ q → A q := fun q h => by rw [← hAe]; exact Or.inr h
  have hS : va_S A s.heap s.heap [] := va_S.rf
  refine lv_aload_n hx hb dX1_init_0 rfl (lv_at hl 0 rfl) ?_
  refine W.objInit hx hb hown (hts _ wd30) (hts _ wd8) (hts _ wd9) rfl (by rw [hml]; exact hl.1) rfl dX1_init_1 (Nat.le_of_ble_eq_true rfl) (Nat.le_of_ble_eq_true rfl) ?_
  refine W.eq (g2 := F0 m 4 ls []) rfl ?_
  refine lv_aload_n hx hb dX1_init_4 rfl (lv_at hl 0 rfl) ?_
  refine va_new (ci := 0) (fs := [.null, .null, .null, .null, .int 0]) (C := RX0) (T := TX0) (N := 5) hx hb hts inlX0 tyX0 tyX0_ok hown (hts _ wd31) (hts _ wd32) (hts _ wd33) hK.1 hP hD hS hA rfl (fun j hj => by rcases (show j = 0 ∨ j = 1 ∨ j = 2 ∨ j = 3 ∨ j = 4 by omega) with rfl | rfl | rfl | rfl | rfl <;> rfl) (Nat.le_of_ble_eq_true rfl) (Nat.le_of_ble_eq_true rfl) dX1_init_5 (fun q274 H274 hP hD hS => ?_)
  have hP : va_P G vwCl [(qg, .inr (1, [.null, .null, .int 0, .int 0, .int 0, .int 0, .int 0])), (q274, .inr (0, [.null, .null, .null, .null, .int 0]))] H274 := hP
  have hD : va_D A [(qg, .inr (1, [.null, .null, .int 0, .int 0, .int 0, .int 0, .int 0])), (q274, .inr (0, [.null, .null, .null, .null, .int 0]))] := hD
  refine lv_dup hx hb dX1_init_8 rfl ?_
  have hPc := hP.sub (ws' := [(q274, .inr (0, [.null, .null, .null, .null, .int 0]))]) [1] rfl
  have hDc := (hD.sub (ws' := [(q274, .inr (0, [.null, .null, .null, .null, .int 0]))]) [1] (by decide) rfl).tt
  have hFc := va_free (wc := [(q274, .inr (0, [.null, .null, .null, .null, .int 0]))]) hD hS hA [1] rfl
  refine va_callv (va_runIN (As := []) (rest := [.ref q274, .ref qg]) ⟨hx, hb, hml, hown, hts⟩ (c_X0_init l G cI cC cZ cG H274.size q274) (cf_RX1_11 hts hK.2 ⟨Nat.le_of_ble_eq_true rfl, Nat.le_of_ble_eq_true rfl⟩) (pre_S hK hPc hDc) rfl rfl hl.1 rfl (lv_room (Nat.le_of_ble_eq_true rfl)) dX1_init_9 ⟨Nat.le_of_ble_eq_true rfl, Nat.le_of_ble_eq_true rfl⟩) hS (fun q _ h => hFc q h) hFc (fun u275 t275 H275 locs275 ht275 hvm275 hw275 hB275 hz275 hk275 hS => ?_)
  obtain ⟨qp275, qs275, qr275, qf275⟩ := u275
  obtain ⟨hP1, hD1⟩ := hB275
  rw [ht275] at hP1
  try dsimp only at hw275
  obtain ⟨hP, hD⟩ := va_join (wr := [(qg, .inr (1, [.null, .null, .int 0, .int 0, .int 0, .int 0, .int 0]))]) (w1 := [(q274, .inr (0, [.ref qp275, .ref qs275, .ref qr275, .ref qf275, .int 0])), (qp275, .inl (cI, 12, .inl iPr)), (qs275, .inl (cI, 12, .inl zrA)), (qr275, .inl (cI, 4, .inl iBr)), (qf275, .inl (cI, 4, .inl zrA))]) hP hD [1] [0] rfl rfl (by decide) (by decide) hk275 hFc hP1 hD1
  have hP : va_P G vwCl [(qg, .inr (1, [.null, .null, .int 0, .int 0, .int 0, .int 0, .int 0])), (q274, .inr (0, [.ref qp275, .ref qs275, .ref qr275, .ref qf275, .int 0])), (qp275, .inl (cI, 12, .inl iPr)), (qs275, .inl (cI, 12, .inl zrA)), (qr275, .inl (cI, 4, .inl iBr)), (qf275, .inl (cI, 4, .inl zrA))] H275 := hP
  have hD : va_D A [(qg, .inr (1, [.null, .null, .int 0, .int 0, .int 0, .int 0, .int 0])), (q274, .inr (0, [.ref qp275, .ref qs275, .ref qr275, .ref qf275, .int 0])), (qp275, .inl (cI, 12, .inl iPr)), (qs275, .inl (cI, 12, .inl zrA)), (qr275, .inl (cI, 4, .inl iBr)), (qf275, .inl (cI, 4, .inl zrA))] := hD
  refine va_putF (D := G) (ci := 1) (v := .ref q274) (ty := .object "BridgedPachisi$Board") (C := RX1) (T := TX1) (N := 7) hx hb hts inlX1 tyX1 tyX1_ok nmX1 hown hK.1 hP hD hS 0 rfl rfl 0 (by decide) (hts _ wd34) (fun _ h9 => h9) rfl hin rfl (by decide +kernel) rfl rfl (Nat.le_of_ble_eq_true rfl) dX1_init_12 (fun H276 locs276 hP hD hS => ?_)
  have hP : va_P G vwCl [(qg, .inr (1, [.ref q274, .null, .int 0, .int 0, .int 0, .int 0, .int 0])), (q274, .inr (0, [.ref qp275, .ref qs275, .ref qr275, .ref qf275, .int 0])), (qp275, .inl (cI, 12, .inl iPr)), (qs275, .inl (cI, 12, .inl zrA)), (qr275, .inl (cI, 4, .inl iBr)), (qf275, .inl (cI, 4, .inl zrA))] H276 := hP
  have hD : va_D A [(qg, .inr (1, [.ref q274, .null, .int 0, .int 0, .int 0, .int 0, .int 0])), (q274, .inr (0, [.ref qp275, .ref qs275, .ref qr275, .ref qf275, .int 0])), (qp275, .inl (cI, 12, .inl iPr)), (qs275, .inl (cI, 12, .inl zrA)), (qr275, .inl (cI, 4, .inl iBr)), (qf275, .inl (cI, 4, .inl zrA))] := hD
  refine lv_aload_n hx hb dX1_init_15 rfl (lv_at hl 0 rfl) ?_
  refine lv_iconst (v := 3) hx hb dX1_init_16 (by decide) ?_
  refine va_newa (atype := .int) (a0 := (3, .inl (fun _ => 0))) hx hb (hts _ wd3) rfl hK.1 hP hD hS hA (fun _ => rfl) (by decide) (by decide) (by decide) (Nat.le_of_ble_eq_true rfl) (Nat.le_of_ble_eq_true rfl) dX1_init_17 (fun q277 cA277 H277 hK9 hP hD hS => ?_)
  obtain rfl := cls_int hK9
  clear hK9
  have hP : va_P G vwCl [(qg, .inr (1, [.ref q274, .null, .int 0, .int 0, .int 0, .int 0, .int 0])), (q274, .inr (0, [.ref qp275, .ref qs275, .ref qr275, .ref qf275, .int 0])), (qp275, .inl (cI, 12, .inl iPr)), (qs275, .inl (cI, 12, .inl zrA)), (qr275, .inl (cI, 4, .inl iBr)), (qf275, .inl (cI, 4, .inl zrA)), (q277, .inl (cI, 3, .inl (fun _ => 0)))] H277 := hP
  have hD : va_D A [(qg, .inr (1, [.ref q274, .null, .int 0, .int 0, .int 0, .int 0, .int 0])), (q274, .inr (0, [.ref qp275, .ref qs275, .ref qr275, .ref qf275, .int 0])), (qp275, .inl (cI, 12, .inl iPr)), (qs275, .inl (cI, 12, .inl zrA)), (qr275, .inl (cI, 4, .inl iBr)), (qf275, .inl (cI, 4, .inl zrA)), (q277, .inl (cI, 3, .inl (fun _ => 0)))] := hD
  refine va_putF (D := G) (ci := 1) (v := .ref q277) (ty := .array .int) (C := RX1) (T := TX1) (N := 7) hx hb hts inlX1 tyX1 tyX1_ok nmX1 hown hK.1 hP hD hS 0 rfl rfl 1 (by decide) (hts _ wd35) (fun _ h9 => h9) rfl hin rfl (by decide +kernel) rfl rfl (Nat.le_of_ble_eq_true rfl) dX1_init_19 (fun H278 locs278 hP hD hS => ?_)
  have hP : va_P G vwCl [(qg, .inr (1, [.ref q274, .ref q277, .int 0, .int 0, .int 0, .int 0, .int 0])), (q274, .inr (0, [.ref qp275, .ref qs275, .ref qr275, .ref qf275, .int 0])), (qp275, .inl (cI, 12, .inl iPr)), (qs275, .inl (cI, 12, .inl zrA)), (qr275, .inl (cI, 4, .inl iBr)), (qf275, .inl (cI, 4, .inl zrA)), (q277, .inl (cI, 3, .inl (fun _ => 0)))] H278 := hP
  have hD : va_D A [(qg, .inr (1, [.ref q274, .ref q277, .int 0, .int 0, .int 0, .int 0, .int 0])), (q274, .inr (0, [.ref qp275, .ref qs275, .ref qr275, .ref qf275, .int 0])), (qp275, .inl (cI, 12, .inl iPr)), (qs275, .inl (cI, 12, .inl zrA)), (qr275, .inl (cI, 4, .inl iBr)), (qf275, .inl (cI, 4, .inl zrA)), (q277, .inl (cI, 3, .inl (fun _ => 0)))] := hD
  refine lv_aload_n hx hb dX1_init_22 rfl (lv_at hl 0 rfl) ?_
  refine lv_iconst (v := 1) hx hb dX1_init_23 (by decide) ?_
  refine va_put (D := G) (ci := 1) (v := .int 1) (ty := .int) (C := RX1) (T := TX1) (N := 7) hx hb hts inlX1 tyX1 tyX1_ok nmX1 hown hK.1 hP hD hS 0 rfl rfl 2 (by decide) (hts _ wd36) (fun _ h9 => h9) rfl (by decide +kernel) rfl rfl (Nat.le_of_ble_eq_true rfl) dX1_init_24 (fun H279 locs279 hP hD hS => ?_)
  have hP : va_P G vwCl [(qg, .inr (1, [.ref q274, .ref q277, .int 1, .int 0, .int 0, .int 0, .int 0])), (q274, .inr (0, [.ref qp275, .ref qs275, .ref qr275, .ref qf275, .int 0])), (qp275, .inl (cI, 12, .inl iPr)), (qs275, .inl (cI, 12, .inl zrA)), (qr275, .inl (cI, 4, .inl iBr)), (qf275, .inl (cI, 4, .inl zrA)), (q277, .inl (cI, 3, .inl (fun _ => 0)))] H279 := hP
  have hD : va_D A [(qg, .inr (1, [.ref q274, .ref q277, .int 1, .int 0, .int 0, .int 0, .int 0])), (q274, .inr (0, [.ref qp275, .ref qs275, .ref qr275, .ref qf275, .int 0])), (qp275, .inl (cI, 12, .inl iPr)), (qs275, .inl (cI, 12, .inl zrA)), (qr275, .inl (cI, 4, .inl iBr)), (qf275, .inl (cI, 4, .inl zrA)), (q277, .inl (cI, 3, .inl (fun _ => 0)))] := hD
  refine lv_aload_n hx hb dX1_init_27 rfl (lv_at hl 0 rfl) ?_
  refine lv_iconst (v := 0) hx hb dX1_init_28 (by decide) ?_
  refine va_put (D := G) (ci := 1) (v := .int 0) (ty := .int) (C := RX1) (T := TX1) (N := 7) hx hb hts inlX1 tyX1 tyX1_ok nmX1 hown hK.1 hP hD hS 0 rfl rfl 3 (by decide) (hts _ wd37) (fun _ h9 => h9) rfl (by decide +kernel) rfl rfl (Nat.le_of_ble_eq_true rfl) dX1_init_29 (fun H280 locs280 hP hD hS => ?_)
  have hP : va_P G vwCl [(qg, .inr (1, [.ref q274, .ref q277, .int 1, .int 0, .int 0, .int 0, .int 0])), (q274, .inr (0, [.ref qp275, .ref qs275, .ref qr275, .ref qf275, .int 0])), (qp275, .inl (cI, 12, .inl iPr)), (qs275, .inl (cI, 12, .inl zrA)), (qr275, .inl (cI, 4, .inl iBr)), (qf275, .inl (cI, 4, .inl zrA)), (q277, .inl (cI, 3, .inl (fun _ => 0)))] H280 := hP
  have hD : va_D A [(qg, .inr (1, [.ref q274, .ref q277, .int 1, .int 0, .int 0, .int 0, .int 0])), (q274, .inr (0, [.ref qp275, .ref qs275, .ref qr275, .ref qf275, .int 0])), (qp275, .inl (cI, 12, .inl iPr)), (qs275, .inl (cI, 12, .inl zrA)), (qr275, .inl (cI, 4, .inl iBr)), (qf275, .inl (cI, 4, .inl zrA)), (q277, .inl (cI, 3, .inl (fun _ => 0)))] := hD
  refine lv_aload_n hx hb dX1_init_32 rfl (lv_at hl 0 rfl) ?_
  refine lv_bipush (v := (-6)) hx hb dX1_init_33 (by decide) ?_
  refine va_put (D := G) (ci := 1) (v := .int (-6)) (ty := .int) (C := RX1) (T := TX1) (N := 7) hx hb hts inlX1 tyX1 tyX1_ok nmX1 hown hK.1 hP hD hS 0 rfl rfl 4 (by decide) (hts _ wd38) (fun _ h9 => h9) rfl (by decide +kernel) rfl rfl (Nat.le_of_ble_eq_true rfl) dX1_init_35 (fun H281 locs281 hP hD hS => ?_)
  have hP : va_P G vwCl [(qg, .inr (1, [.ref q274, .ref q277, .int 1, .int 0, .int (-6), .int 0, .int 0])), (q274, .inr (0, [.ref qp275, .ref qs275, .ref qr275, .ref qf275, .int 0])), (qp275, .inl (cI, 12, .inl iPr)), (qs275, .inl (cI, 12, .inl zrA)), (qr275, .inl (cI, 4, .inl iBr)), (qf275, .inl (cI, 4, .inl zrA)), (q277, .inl (cI, 3, .inl (fun _ => 0)))] H281 := hP
  have hD : va_D A [(qg, .inr (1, [.ref q274, .ref q277, .int 1, .int 0, .int (-6), .int 0, .int 0])), (q274, .inr (0, [.ref qp275, .ref qs275, .ref qr275, .ref qf275, .int 0])), (qp275, .inl (cI, 12, .inl iPr)), (qs275, .inl (cI, 12, .inl zrA)), (qr275, .inl (cI, 4, .inl iBr)), (qf275, .inl (cI, 4, .inl zrA)), (q277, .inl (cI, 3, .inl (fun _ => 0)))] := hD
  refine lv_aload_n hx hb dX1_init_38 rfl (lv_at hl 0 rfl) ?_
  refine lv_iconst (v := 1) hx hb dX1_init_39 (by decide) ?_
  refine va_put (D := G) (ci := 1) (v := .int 1) (ty := .int) (C := RX1) (T := TX1) (N := 7) hx hb hts inlX1 tyX1 tyX1_ok nmX1 hown hK.1 hP hD hS 0 rfl rfl 5 (by decide) (hts _ wd39) (fun _ h9 => h9) rfl (by decide +kernel) rfl rfl (Nat.le_of_ble_eq_true rfl) dX1_init_40 (fun H282 locs282 hP hD hS => ?_)
  have hP : va_P G vwCl [(qg, .inr (1, [.ref q274, .ref q277, .int 1, .int 0, .int (-6), .int 1, .int 0])), (q274, .inr (0, [.ref qp275, .ref qs275, .ref qr275, .ref qf275, .int 0])), (qp275, .inl (cI, 12, .inl iPr)), (qs275, .inl (cI, 12, .inl zrA)), (qr275, .inl (cI, 4, .inl iBr)), (qf275, .inl (cI, 4, .inl zrA)), (q277, .inl (cI, 3, .inl (fun _ => 0)))] H282 := hP
  have hD : va_D A [(qg, .inr (1, [.ref q274, .ref q277, .int 1, .int 0, .int (-6), .int 1, .int 0])), (q274, .inr (0, [.ref qp275, .ref qs275, .ref qr275, .ref qf275, .int 0])), (qp275, .inl (cI, 12, .inl iPr)), (qs275, .inl (cI, 12, .inl zrA)), (qr275, .inl (cI, 4, .inl iBr)), (qf275, .inl (cI, 4, .inl zrA)), (q277, .inl (cI, 3, .inl (fun _ => 0)))] := hD
  refine lv_aload_n hx hb dX1_init_43 rfl (lv_at hl 0 rfl) ?_
  refine lv_iconst (v := 0) hx hb dX1_init_44 (by decide) ?_
  refine va_put (D := G) (ci := 1) (v := .int 0) (ty := .int) (C := RX1) (T := TX1) (N := 7) hx hb hts inlX1 tyX1 tyX1_ok nmX1 hown hK.1 hP hD hS 0 rfl rfl 6 (by decide) (hts _ wd40) (fun _ h9 => h9) rfl (by decide +kernel) rfl rfl (Nat.le_of_ble_eq_true rfl) dX1_init_45 (fun H283 locs283 hP hD hS => ?_)
  have hP : va_P G vwCl [(qg, .inr (1, [.ref q274, .ref q277, .int 1, .int 0, .int (-6), .int 1, .int 0])), (q274, .inr (0, [.ref qp275, .ref qs275, .ref qr275, .ref qf275, .int 0])), (qp275, .inl (cI, 12, .inl iPr)), (qs275, .inl (cI, 12, .inl zrA)), (qr275, .inl (cI, 4, .inl iBr)), (qf275, .inl (cI, 4, .inl zrA)), (q277, .inl (cI, 3, .inl (fun _ => 0)))] H283 := hP
  have hD : va_D A [(qg, .inr (1, [.ref q274, .ref q277, .int 1, .int 0, .int (-6), .int 1, .int 0])), (q274, .inr (0, [.ref qp275, .ref qs275, .ref qr275, .ref qf275, .int 0])), (qp275, .inl (cI, 12, .inl iPr)), (qs275, .inl (cI, 12, .inl zrA)), (qr275, .inl (cI, 4, .inl iBr)), (qf275, .inl (cI, 4, .inl zrA)), (q277, .inl (cI, 3, .inl (fun _ => 0)))] := hD
  obtain ⟨t284, hZ284, hY284, hYl284, hYA284⟩ := hX.1
  refine va_getsN hx hb hZ284 hS hown (va_Nw.use rfl (hK.2 _ nw8)) (fun _ h9 => h9) dX1_init_48 ?_
  refine lv_iconst (v := 0) hx hb dX1_init_51 (by decide) ?_
  refine lv_aload_n hx hb dX1_init_52 rfl (lv_at hl 0 rfl) ?_
  refine va_get (D := G) (ci := 1) (v := .ref q277) (C := RX1) (T := TX1) (N := 7) hx hb hts inlX1 hown hK.1 hP 0 rfl rfl 1 (by decide) (hts _ wd35) (fun _ h9 => h9) rfl dX1_init_53 ?_
  refine lv_iconst (v := 0) hx hb dX1_init_56 (by decide) ?_
  refine lv_iconst (v := 3) hx hb dX1_init_57 (by decide) ?_
  refine va_copyx hx hb (by rw [hml]; exact hl.1.symm) hown (hts _ wd41) (hts _ wd42) (hts _ wd43) (hts _ wd44) hK.1 hP hD hS hY284 hYl284 hYA284 6 0 rfl rfl (by decide) (by decide) (by decide) (by decide) (by decide) (Nat.le_of_ble_eq_true rfl) (Nat.le_of_ble_eq_true rfl) dX1_init_58 (fun H285 locs285 hP hD hS => ?_)
  have hP : va_P G vwCl [(qg, .inr (1, [.ref q274, .ref q277, .int 1, .int 0, .int (-6), .int 1, .int 0])), (q274, .inr (0, [.ref qp275, .ref qs275, .ref qr275, .ref qf275, .int 0])), (qp275, .inl (cI, 12, .inl iPr)), (qs275, .inl (cI, 12, .inl zrA)), (qr275, .inl (cI, 4, .inl iBr)), (qf275, .inl (cI, 4, .inl zrA)), (q277, .inl (cI, 3, .inl (va_cpy fvF (fun _ => 0) 0 0 3)))] H285 := hP
  have hD : va_D A [(qg, .inr (1, [.ref q274, .ref q277, .int 1, .int 0, .int (-6), .int 1, .int 0])), (q274, .inr (0, [.ref qp275, .ref qs275, .ref qr275, .ref qf275, .int 0])), (qp275, .inl (cI, 12, .inl iPr)), (qs275, .inl (cI, 12, .inl zrA)), (qr275, .inl (cI, 4, .inl iBr)), (qf275, .inl (cI, 4, .inl zrA)), (q277, .inl (cI, 3, .inl (va_cpy fvF (fun _ => 0) 0 0 3)))] := hD
  refine W.widen (k := 6) (n := 40) (by decide) (by decide) ?_
  have hP := hP.sub (ws' := [(qg, .inr (1, [.ref q274, .ref q277, .int 1, .int 0, .int (-6), .int 1, .int 0])), (q277, .inl (cI, 3, .inl (va_cpy fvF (fun _ => 0) 0 0 3))), (q274, .inr (0, [.ref qp275, .ref qs275, .ref qr275, .ref qf275, .int 0])), (qp275, .inl (cI, 12, .inl iPr)), (qs275, .inl (cI, 12, .inl zrA)), (qr275, .inl (cI, 4, .inl iBr)), (qf275, .inl (cI, 4, .inl zrA))]) [0, 6, 1, 2, 3, 4, 5] rfl
  have hD := hD.sub (ws' := [(qg, .inr (1, [.ref q274, .ref q277, .int 1, .int 0, .int (-6), .int 1, .int 0])), (q277, .inl (cI, 3, .inl (va_cpy fvF (fun _ => 0) 0 0 3))), (q274, .inr (0, [.ref qp275, .ref qs275, .ref qr275, .ref qf275, .int 0])), (qp275, .inl (cI, 12, .inl iPr)), (qs275, .inl (cI, 12, .inl zrA)), (qr275, .inl (cI, 4, .inl iBr)), (qf275, .inl (cI, 4, .inl zrA))]) [0, 6, 1, 2, 3, 4, 5] (by decide) rfl
  exact W.vret hx hb hr (fun t ht hW => ⟨⟨(q277, q274, qp275, qs275, qr275, qf275), rfl, trivial, by rw [ht]; exact hP, hD⟩, hS.F ht⟩) hS.2.2 dX1_init_61

abbrev rm_X4_init : Room := { frames := 1, cells := 1, slots := 36, locals := 30 }
set_option maxHeartbeats 1000000 in
set_option maxRecDepth 100000 in
theorem c_X4_init (l : Launch) (G : va_G) (cI cC cZ cG : ClassId) (sz : Nat) (qR : Nat) : Met l yX4_init (.code yX4_init cX4_init 1 none :: wsL_law) rm_X4_init (va_Pc [.ref qR] (bw G cI cC cZ cG false sz [(qR, .inr (4, [.null]))])) (va_Qv (fun (u : Nat) => True) (fun (u : Nat) t => va_P G vwCl [(qR, .inr (4, [.ref u])), (u, .inl (cI, 36, .inl zrA))] t.heap ∧ va_D (va_A [(qR, .inr (4, [.null]))] sz) [(qR, .inr (4, [.ref u])), (u, .inl (cI, 36, .inl zrA))]) (va_A [(qR, .inr (4, [.null]))] sz)) 1 36 (va_A [(qR, .inr (4, [.null]))] sz) := by
  refine met_bw rfl (Nat.le_of_ble_eq_true rfl) ?_
  intro p e s m below meth c ls hx hb hr hml hown hts hlocks hin hsz hP hK hD0 hX0 hl
  have hown : s.vm.findClass RX4 = some m.cls := hown
  have hl : lv_has ls 1 [(0, .ref qR)] := hl
  subst hsz
  have hD := hD0.self (sz := s.heap.size)
  generalize hAe : va_A [(qR, .inr (4, [.null]))] s.heap.size = A at hD ⊢
  have hA : ∀ q : Nat, s.heap.size ≤ q → A q := fun q h => by rw [← hAe]; exact Or.inr h
  have hS : va_S A s.heap s.heap [] := va_S.rf
  refine lv_aload_n hx hb dX4_init_0 rfl (lv_at hl 0 rfl) ?_
  refine W.objInit hx hb hown (hts _ wd55) (hts _ wd8) (hts _ wd9) rfl (by rw [hml]; exact hl.1) rfl dX4_init_1 (Nat.le_of_ble_eq_true rfl) (Nat.le_of_ble_eq_true rfl) ?_
  refine W.eq (g2 := F0 m 4 ls []) rfl ?_
  refine lv_aload_n hx hb dX4_init_4 rfl (lv_at hl 0 rfl) ?_
  refine lv_bipush (v := 36) hx hb dX4_init_5 (by decide) ?_
  refine va_newa (atype := .int) (a0 := (36, .inl (fun _ => 0))) hx hb (hts _ wd3) rfl hK.1 hP hD hS hA (fun _ => rfl) (by decide) (by decide) (by decide) (Nat.le_of_ble_eq_true rfl) (Nat.le_of_ble_eq_true rfl) dX4_init_7 (fun q286 cA286 H286 hK9 hP hD hS => ?_)
  obtain rfl := cls_int hK9
  clear hK9
  have hP : va_P G vwCl [(qR, .inr (4, [.null])), (q286, .inl (cI, 36, .inl (fun _ => 0)))] H286 := hP
  have hD : va_D A [(qR, .inr (4, [.null])), (q286, .inl (cI, 36, .inl (fun _ => 0)))] := hD
  refine va_putF (D := G) (ci := 4) (v := .ref q286) (ty := .array .int) (C := RX4) (T := TX4) (N := 1) hx hb hts inlX4 tyX4 tyX4_ok nmX4 hown hK.1 hP hD hS 0 rfl rfl 0 (by decide) (hts _ wd56) (fun _ h9 => h9) rfl hin rfl (by decide +kernel) rfl rfl (Nat.le_of_ble_eq_true rfl) dX4_init_9 (fun H287 locs287 hP hD hS => ?_)
  have hP : va_P G vwCl [(qR, .inr (4, [.ref q286])), (q286, .inl (cI, 36, .inl (fun _ => 0)))] H287 := hP
  have hD : va_D A [(qR, .inr (4, [.ref q286])), (q286, .inl (cI, 36, .inl (fun _ => 0)))] := hD
  refine W.widen (k := 1) (n := 36) (by decide) (by decide) ?_
  exact W.vret hx hb hr (fun t ht hW => ⟨⟨q286, rfl, trivial, by rw [ht]; exact hP, hD⟩, hS.F ht⟩) hS.2.2 dX4_init_12

abbrev rm_X3_init : Room := { frames := 1, cells := 1, slots := 60, locals := 30 }
set_option maxHeartbeats 1000000 in
set_option maxRecDepth 100000 in
theorem c_X3_init (l : Launch) (G : va_G) (cI cC cZ cG : ClassId) (sz : Nat) (qd : Nat) : Met l yX3_init (.code yX3_init cX3_init 1 none :: wsL_law) rm_X3_init (va_Pc [.ref qd] (bw G cI cC cZ cG false sz [(qd, .inr (3, [.null, .int 0]))])) (va_Qv (fun (u : Nat) => True) (fun (u : Nat) t => va_P G vwCl [(qd, .inr (3, [.ref u, .int 0])), (u, .inl (cC, 60, .inl zrA))] t.heap ∧ va_D (va_A [(qd, .inr (3, [.null, .int 0]))] sz) [(qd, .inr (3, [.ref u, .int 0])), (u, .inl (cC, 60, .inl zrA))]) (va_A [(qd, .inr (3, [.null, .int 0]))] sz)) 1 60 (va_A [(qd, .inr (3, [.null, .int 0]))] sz) := by
  refine met_bw rfl (Nat.le_of_ble_eq_true rfl) ?_
  intro p e s m below meth c ls hx hb hr hml hown hts hlocks hin hsz hP hK hD0 hX0 hl
  have hown : s.vm.findClass RX3 = some m.cls := hown
  have hl : lv_has ls 1 [(0, .ref qd)] := hl
  subst hsz
  have hD := hD0.self (sz := s.heap.size)
  generalize hAe : va_A [(qd, .inr (3, [.null, .int 0]))] s.heap.size = A at hD ⊢
  have hA : ∀ q : Nat, s.heap.size ≤ q → A q := fun q h => by rw [← hAe]; exact Or.inr h
  have hS : va_S A s.heap s.heap [] := va_S.rf
  refine lv_aload_n hx hb dX3_init_0 rfl (lv_at hl 0 rfl) ?_
  refine W.objInit hx hb hown (hts _ wd59) (hts _ wd8) (hts _ wd9) rfl (by rw [hml]; exact hl.1) rfl dX3_init_1 (Nat.le_of_ble_eq_true rfl) (Nat.le_of_ble_eq_true rfl) ?_
  refine W.eq (g2 := F0 m 4 ls []) rfl ?_
  refine lv_aload_n hx hb dX3_init_4 rfl (lv_at hl 0 rfl) ?_
  refine lv_bipush (v := 60) hx hb dX3_init_5 (by decide) ?_
  refine va_newa (atype := .char) (a0 := (60, .inl (fun _ => 0))) hx hb (hts _ wd60) rfl hK.1 hP hD hS hA (fun _ => rfl) (by decide) (by decide) (by decide) (Nat.le_of_ble_eq_true rfl) (Nat.le_of_ble_eq_true rfl) dX3_init_7 (fun q288 cA288 H288 hK9 hP hD hS => ?_)
  obtain rfl := cls_char hK9
  clear hK9
  have hP : va_P G vwCl [(qd, .inr (3, [.null, .int 0])), (q288, .inl (cC, 60, .inl (fun _ => 0)))] H288 := hP
  have hD : va_D A [(qd, .inr (3, [.null, .int 0])), (q288, .inl (cC, 60, .inl (fun _ => 0)))] := hD
  refine va_putF (D := G) (ci := 3) (v := .ref q288) (ty := .array .char) (C := RX3) (T := TX3) (N := 2) hx hb hts inlX3 tyX3 tyX3_ok nmX3 hown hK.1 hP hD hS 0 rfl rfl 0 (by decide) (hts _ wd61) (fun _ h9 => h9) rfl hin rfl (by decide +kernel) rfl rfl (Nat.le_of_ble_eq_true rfl) dX3_init_9 (fun H289 locs289 hP hD hS => ?_)
  have hP : va_P G vwCl [(qd, .inr (3, [.ref q288, .int 0])), (q288, .inl (cC, 60, .inl (fun _ => 0)))] H289 := hP
  have hD : va_D A [(qd, .inr (3, [.ref q288, .int 0])), (q288, .inl (cC, 60, .inl (fun _ => 0)))] := hD
  refine lv_aload_n hx hb dX3_init_12 rfl (lv_at hl 0 rfl) ?_
  refine lv_iconst (v := 0) hx hb dX3_init_13 (by decide) ?_
  refine va_put (D := G) (ci := 3) (v := .int 0) (ty := .int) (C := RX3) (T := TX3) (N := 2) hx hb hts inlX3 tyX3 tyX3_ok nmX3 hown hK.1 hP hD hS 0 rfl rfl 1 (by decide) (hts _ wd62) (fun _ h9 => h9) rfl (by decide +kernel) rfl rfl (Nat.le_of_ble_eq_true rfl) dX3_init_14 (fun H290 locs290 hP hD hS => ?_)
  have hP : va_P G vwCl [(qd, .inr (3, [.ref q288, .int 0])), (q288, .inl (cC, 60, .inl (fun _ => 0)))] H290 := hP
  have hD : va_D A [(qd, .inr (3, [.ref q288, .int 0])), (q288, .inl (cC, 60, .inl (fun _ => 0)))] := hD
  refine W.widen (k := 1) (n := 60) (by decide) (by decide) ?_
  exact W.vret hx hb hr (fun t ht hW => ⟨⟨q288, rfl, trivial, by rw [ht]; exact hP, hD⟩, hS.F ht⟩) hS.2.2 dX3_init_17

abbrev rm_X2_init : Room := { frames := 1, cells := 1, slots := 6, locals := 30 }
set_option maxHeartbeats 1000000 in
set_option maxRecDepth 100000 in
theorem c_X2_init (l : Launch) (G : va_G) (cI cC cZ cG : ClassId) (sz : Nat) (qh : Nat) : Met l yX2_init (.code yX2_init cX2_init 1 none :: wsL_law) rm_X2_init (va_Pc [.ref qh] (bw G cI cC cZ cG true sz [(qh, .inr (2, [.null, .int 0, .int 0]))])) (va_Qv (fun (u : Nat) => True) (fun (u : Nat) t => va_P G vwCl [(qh, .inr (2, [.ref u, .int 0, .int 0])), (u, .inl (cG, 6, .inr (.inr (.inr (.inr (fun _ => none))))))] t.heap ∧ va_D (va_A [(qh, .inr (2, [.null, .int 0, .int 0]))] sz) [(qh, .inr (2, [.ref u, .int 0, .int 0])), (u, .inl (cG, 6, .inr (.inr (.inr (.inr (fun _ => none))))))]) (va_A [(qh, .inr (2, [.null, .int 0, .int 0]))] sz)) 1 6 (va_A [(qh, .inr (2, [.null, .int 0, .int 0]))] sz) := by
  refine met_bw rfl (Nat.le_of_ble_eq_true rfl) ?_
  intro p e s m below meth c ls hx hb hr hml hown hts hlocks hin hsz hP hK hD0 hX0 hl
  have hown : s.vm.findClass RX2 = some m.cls := hown
  have hl : lv_has ls 1 [(0, .ref qh)] := hl
  subst hsz
  have hD := hD0.self (sz := s.heap.size)
  have hX := hX0 rfl
  generalize hAe : va_A [(qh, .inr (2, [.null, .int 0, .int 0]))] s.heap.size = A at hD hX ⊢
  have hA : ∀ q : Nat, s.heap.size ≤ q → A q := fun q h => by rw [← hAe]; exact Or.inr h
  have hS : va_S A s.heap s.heap [] := va_S.rf
  refine lv_aload_n hx hb dX2_init_0 rfl (lv_at hl 0 rfl) ?_
  refine W.objInit hx hb hown (hts _ wd65) (hts _ wd8) (hts _ wd9) rfl (by rw [hml]; exact hl.1) rfl dX2_init_1 (Nat.le_of_ble_eq_true rfl) (Nat.le_of_ble_eq_true rfl) ?_
  refine W.eq (g2 := F0 m 4 ls []) rfl ?_
  refine lv_aload_n hx hb dX2_init_4 rfl (lv_at hl 0 rfl) ?_
  refine lv_bipush (v := 6) hx hb dX2_init_5 (by decide) ?_
  refine va_newq hx hb hown (hts _ wd66) hX.2.2.2 hK.1 hP hD hS hA (N' := 6) (by decide) (by decide) (by decide) (Nat.le_of_ble_eq_true rfl) (Nat.le_of_ble_eq_true rfl) dX2_init_7 (fun q291 cA291 H291 hK9 hP hD hS => ?_)
  obtain rfl := cls_obj hK9
  clear hK9
  have hP : va_P G vwCl [(qh, .inr (2, [.null, .int 0, .int 0])), (q291, .inl (cG, 6, .inr (.inr (.inr (.inr (fun _ => none))))))] H291 := hP
  have hD : va_D A [(qh, .inr (2, [.null, .int 0, .int 0])), (q291, .inl (cG, 6, .inr (.inr (.inr (.inr (fun _ => none))))))] := hD
  refine va_putF (D := G) (ci := 2) (v := .ref q291) (ty := .array (.object "BridgedPachisi$Game")) (C := RX2) (T := TX2) (N := 3) hx hb hts inlX2 tyX2 tyX2_ok nmX2 hown hK.1 hP hD hS 0 rfl rfl 0 (by decide) (hts _ wd67) (fun _ h9 => h9) rfl hin rfl (by decide +kernel) rfl rfl (Nat.le_of_ble_eq_true rfl) dX2_init_10 (fun H292 locs292 hP hD hS => ?_)
  have hP : va_P G vwCl [(qh, .inr (2, [.ref q291, .int 0, .int 0])), (q291, .inl (cG, 6, .inr (.inr (.inr (.inr (fun _ => none))))))] H292 := hP
  have hD : va_D A [(qh, .inr (2, [.ref q291, .int 0, .int 0])), (q291, .inl (cG, 6, .inr (.inr (.inr (.inr (fun _ => none))))))] := hD
  refine lv_aload_n hx hb dX2_init_13 rfl (lv_at hl 0 rfl) ?_
  refine lv_iconst (v := 0) hx hb dX2_init_14 (by decide) ?_
  refine va_put (D := G) (ci := 2) (v := .int 0) (ty := .int) (C := RX2) (T := TX2) (N := 3) hx hb hts inlX2 tyX2 tyX2_ok nmX2 hown hK.1 hP hD hS 0 rfl rfl 1 (by decide) (hts _ wd68) (fun _ h9 => h9) rfl (by decide +kernel) rfl rfl (Nat.le_of_ble_eq_true rfl) dX2_init_15 (fun H293 locs293 hP hD hS => ?_)
  have hP : va_P G vwCl [(qh, .inr (2, [.ref q291, .int 0, .int 0])), (q291, .inl (cG, 6, .inr (.inr (.inr (.inr (fun _ => none))))))] H293 := hP
  have hD : va_D A [(qh, .inr (2, [.ref q291, .int 0, .int 0])), (q291, .inl (cG, 6, .inr (.inr (.inr (.inr (fun _ => none))))))] := hD
  refine lv_aload_n hx hb dX2_init_18 rfl (lv_at hl 0 rfl) ?_
  refine lv_iconst (v := 0) hx hb dX2_init_19 (by decide) ?_
  refine va_put (D := G) (ci := 2) (v := .int 0) (ty := .int) (C := RX2) (T := TX2) (N := 3) hx hb hts inlX2 tyX2 tyX2_ok nmX2 hown hK.1 hP hD hS 0 rfl rfl 2 (by decide) (hts _ wd69) (fun _ h9 => h9) rfl (by decide +kernel) rfl rfl (Nat.le_of_ble_eq_true rfl) dX2_init_20 (fun H294 locs294 hP hD hS => ?_)
  have hP : va_P G vwCl [(qh, .inr (2, [.ref q291, .int 0, .int 0])), (q291, .inl (cG, 6, .inr (.inr (.inr (.inr (fun _ => none))))))] H294 := hP
  have hD : va_D A [(qh, .inr (2, [.ref q291, .int 0, .int 0])), (q291, .inl (cG, 6, .inr (.inr (.inr (.inr (fun _ => none))))))] := hD
  refine W.widen (k := 1) (n := 6) (by decide) (by decide) ?_
  exact W.vret hx hb hr (fun t ht hW => ⟨⟨q291, rfl, trivial, by rw [ht]; exact hP, hD⟩, hS.F ht⟩) hS.2.2 dX2_init_23
