/-! Math.max, min, abs over ints -/
def jMax (x y : Int32) : Int32 := if x < y then y else x
def jMin (x y : Int32) : Int32 := if y < x then y else x
def jAbs (x : Int32) : Int32 := if 0 ≤ x then x else 0 - x
def MK (G : GT) (own : String) (index : Nat) (nm : MethodName) (code : ByteArray) (n : Nat) : Prop := GW G (.methodLink own index nm) ∧ GW G (.static nm) ∧ GW G (.initialized "java/lang/Math") ∧ GW G (.code nm code n (some .int))
section MATH
variable {T : Type} {G : GT} {l : Launch} {mi : MI} {k n : Nat} {Q : T → QT} {pc : Nat} {lv : List (Nat × Value)} {st : List Value} {ws : va_W} {o : Option T}
theorem s_mmax {x y : Int32} {index : Nat} (hd : decode mi.1 pc = .ok (.invokestatic index, 3)) (hC : MK G mi.2.2.1 index Lib.Math.max.name Lib.Math.max.code 2) (h1 : 1 ≤ hiOf mi) (hcat : (st.map fun v => v.category).sum ≤ 8) (K : SemW G l mi k n Q (pc + 3) lv (.int (jMax x y) :: st) ws o) : SemW G l mi k n Q pc lv (.int y :: .int x :: st) ws o := by
  intro p e R s m args below meth c hM H locs cells slots mc ms ls hP hS hl g1 g2 g3 g4 z hz
  obtain ⟨w1, w2, w3, w4⟩ := hC
  have hf : hiOf mi ≤ R.frames := hM.2.2.2.2.2.2.2.2.1
  have hlo : 40 * hiOf mi ≤ R.locals := hM.2.2.2.2.2.2.2.2.2.1
  exact va_mmax hM.2.1 hM.2.2.1 (hM.2.2.2.1.trans hl.1.symm) hM.2.2.2.2.1 (hM.w w1 args) (hM.w w2 args) (hM.w w3 args) (hM.w w4 args) (by omega) (by omega) (by omega) (by omega) hd (K p e R s m args below meth c hM H locs cells slots mc ms ls hP hS hl g1 g2 g3 g4 z hz)
theorem s_mmin {x y : Int32} {index : Nat} (hd : decode mi.1 pc = .ok (.invokestatic index, 3)) (hC : MK G mi.2.2.1 index Lib.Math.min.name Lib.Math.min.code 2) (h1 : 1 ≤ hiOf mi) (hcat : (st.map fun v => v.category).sum ≤ 8) (K : SemW G l mi k n Q (pc + 3) lv (.int (jMin x y) :: st) ws o) : SemW G l mi k n Q pc lv (.int y :: .int x :: st) ws o := by
  intro p e R s m args below meth c hM H locs cells slots mc ms ls hP hS hl g1 g2 g3 g4 z hz
  obtain ⟨w1, w2, w3, w4⟩ := hC
  have hf : hiOf mi ≤ R.frames := hM.2.2.2.2.2.2.2.2.1
  have hlo : 40 * hiOf mi ≤ R.locals := hM.2.2.2.2.2.2.2.2.2.1
  exact va_mmin hM.2.1 hM.2.2.1 (hM.2.2.2.1.trans hl.1.symm) hM.2.2.2.2.1 (hM.w w1 args) (hM.w w2 args) (hM.w w3 args) (hM.w w4 args) (by omega) (by omega) (by omega) (by omega) hd (K p e R s m args below meth c hM H locs cells slots mc ms ls hP hS hl g1 g2 g3 g4 z hz)
theorem s_mabs {x : Int32} {index : Nat} (hd : decode mi.1 pc = .ok (.invokestatic index, 3)) (hC : MK G mi.2.2.1 index Lib.Math.abs.name Lib.Math.abs.code 1) (h1 : 1 ≤ hiOf mi) (hcat : (st.map fun v => v.category).sum ≤ 8) (K : SemW G l mi k n Q (pc + 3) lv (.int (jAbs x) :: st) ws o) : SemW G l mi k n Q pc lv (.int x :: st) ws o := by
  intro p e R s m args below meth c hM H locs cells slots mc ms ls hP hS hl g1 g2 g3 g4 z hz
  obtain ⟨w1, w2, w3, w4⟩ := hC
  have hf : hiOf mi ≤ R.frames := hM.2.2.2.2.2.2.2.2.1
  have hlo : 40 * hiOf mi ≤ R.locals := hM.2.2.2.2.2.2.2.2.2.1
  exact va_mabs hM.2.1 hM.2.2.1 (hM.2.2.2.1.trans hl.1.symm) hM.2.2.2.2.1 (hM.w w1 args) (hM.w w2 args) (hM.w w3 args) (hM.w w4 args) (by omega) (by omega) (by omega) (by omega) hd (K p e R s m args below meth c hM H locs cells slots mc ms ls hP hS hl g1 g2 g3 g4 z hz)
end MATH
