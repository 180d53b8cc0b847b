-- ===== constructors =====
theorem cls_int {D : va_G} {cl : List vw_C} {cI cC cZ cG cA : ClassId} {U : State} (h : va_K D cl (tysG cI cC cZ cG ++ [(cA, .int)]) U) : cI = cA := by
  have a : U.vm.findClass ("[" ++ FieldType.int.toString) = some cI := (h.2 0 _ rfl).2
  have b : U.vm.findClass ("[" ++ FieldType.int.toString) = some cA := (h.2 4 _ rfl).2
  exact Option.some.inj (a.symm.trans b)
theorem cls_char {D : va_G} {cl : List vw_C} {cI cC cZ cG cA : ClassId} {U : State} (h : va_K D cl (tysG cI cC cZ cG ++ [(cA, .char)]) U) : cC = cA := by
  have a : U.vm.findClass ("[" ++ FieldType.char.toString) = some cC := (h.2 1 _ rfl).2
  have b : U.vm.findClass ("[" ++ FieldType.char.toString) = some cA := (h.2 4 _ rfl).2
  exact Option.some.inj (a.symm.trans b)
theorem cls_obj {D : va_G} {cl : List vw_C} {cI cC cZ cG cA : ClassId} {U : State} (h : va_K D cl (tysG cI cC cZ cG ++ [(cA, .object "BridgedPachisi$Game")]) U) : cG = cA := by
  obtain ⟨_, _, _, _, _, a⟩ := (h.2 3 _ rfl).2
  obtain ⟨_, _, _, _, _, b⟩ := (h.2 4 _ rfl).2
  exact Option.some.inj (a.symm.trans b)
/-- a row filled from its start -/
def flv (v : Int32) (f : IA) : Nat → IA
  | 0 => f
  | n + 1 => upd (flv v f n) n v
def zrA : IA := fun _ => 0
def iPr : IA := flv (-6) zrA 12
def iBr : IA := flv 1 zrA 4
def iSe : IA := va_cpy fvF zrA 0 0 3
def iMz : IA := upd (upd (upd (upd (upd (flv (-6) zrA 12) 36 5) 38 1) 39 1) 41 (-6)) 42 1
