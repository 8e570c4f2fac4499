def vIni (k : Nat) : Int32 := if k = 4 then 20 else if k = 5 then 1 else 0
def ini (t : Nat) : Nat → Int32 := if t = 1 then vIni else if t = 47 then vIni else if t = 79 then vIni else if t = 111 then vIni else if t = 143 then vIni else if t = 175 then (fun k => if k = 2 then -1 else if k = 5 then -1 else 0) else if t = 179 then upd (upd (fun _ => 0) 1 1) 2 20 else fun _ => 0
/-- the memory when all is made -/
def M0 : Mem := (ini, fun _ _ => 0)
def es0 (G : Gx) (n0 : Nat) : List va_E := kX11 G n0 0
theorem wz_map (n0 n : Nat) (f : Nat → va_E) : wz n0 ((List.range n).map f) = (List.range n).map (fun t => (n0 + t, f t)) := by
  apply List.ext_getElem?
  intro i
  simp only [wz, List.getElem?_mapIdx, List.getElem?_map]
  by_cases h : i < n
  · rw [List.getElem?_range h]; rfl
  · rw [List.getElem?_eq_none (by simp; omega)]; rfl
set_option maxRecDepth 100000 in
set_option maxHeartbeats 4000000 in
theorem es0_is (G : Gx) (n0 : Nat) : es0 G n0 = (List.range 178).map (fun t => ent G n0 (lay.getD t 0) t (M0.1 t) (M0.2 t)) := by
  with_unfolding_all rfl
theorem wz0 (G : Gx) (n0 : Nat) : wz n0 (es0 G n0) = wld G n0 M0 := by
  rw [es0_is, wz_map]
  rfl
