/-! THE LAW: a pass of its loop (laid by gen_law35.py) -/
def fz (y : PH) : Option (Int32 × PH) := gdP ((0 : Int32) = 0 ∨ (0 : Int32) = 1) (some ((0 : Int32), y))
def shI (W m : PH → Option (Int32 × PH)) (K : PH → Option (Int32 × PH)) (P : PH) : Option (Int32 × PH) := (W P).bind fun (x : Int32 × PH) => (m x.2).bind fun (y : Int32 × PH) => (Mo_thrown y.2).bind fun (t : Int32) => if t = x.1 then (if x.1 = 0 then gdI (0 : Int32) 1 (if (lg_cmp (y.2.2 2 (0 : Int32).toNatClampNeg) ((y.1).toInt64)) = 0 then K y.2 else fz y.2) else K y.2) else fz y.2
def shL (W : PH → Option (Int32 × PH)) (m : PH → Option (Int64 × PH)) (K : PH → Option (Int32 × PH)) (P : PH) : Option (Int32 × PH) := (W P).bind fun (x : Int32 × PH) => (m x.2).bind fun (y : Int64 × PH) => (Mo_thrown y.2).bind fun (t : Int32) => if t = x.1 then (if x.1 = 0 then gdI (0 : Int32) 1 (if (lg_cmp (y.2.2 2 (0 : Int32).toNatClampNeg) (y.1)) = 0 then K y.2 else fz y.2) else K y.2) else fz y.2
def shA (W m : PH → Option (Int32 × PH)) (K : PH → Option (Int32 × PH)) (P : PH) : Option (Int32 × PH) := (W P).bind fun (x : Int32 × PH) => (m x.2).bind fun (y : Int32 × PH) => (Mo_thrown y.2).bind fun (t : Int32) => if t = x.1 then (if x.1 = 0 then gdI (0 : Int32) 1 (if y.1 = 0 then (if (lg_cmp (y.2.2 2 (0 : Int32).toNatClampNeg) (0 : Int64)) = 0 then K y.2 else fz y.2) else (if (lg_cmp (y.2.2 2 (0 : Int32).toNatClampNeg) (1 : Int64)) = 0 then K y.2 else fz y.2)) else K y.2) else fz y.2
def shV (W : PH → Option (Int32 × PH)) (m : PH → Option PH) (K : PH → Option (Int32 × PH)) (P : PH) : Option (Int32 × PH) := (W P).bind fun (x : Int32 × PH) => (m x.2).bind fun (y : PH) => (Mo_thrown y).bind fun (t : Int32) => if t = x.1 then K y else fz y
def shN (B : PH → Option Int32) (m : PH → Option (Int32 × PH)) (K : PH → Option (Int32 × PH)) (P : PH) : Option (Int32 × PH) := (B P).bind fun (x : Int32) => (m P).bind fun (y : Int32 × PH) => if x = y.1 then K y.2 else fz y.2
def shF (B m : PH → Option (Int32 × PH)) (K : PH → Option (Int32 × PH)) (P : PH) : Option (Int32 × PH) := (B P).bind fun (x : Int32 × PH) => (m x.2).bind fun (y : Int32 × PH) => if x.1 = y.1 then K y.2 else fz y.2
def goes (o : Option (Int32 × PH)) : Prop := ∃ P', o = some ((1 : Int32), P')
def WOK (W : Option (Int32 × PH)) (m : PH → Option (Int32 × PH)) : Prop := ∃ (r : Nat × Int32) (P1 P1' : PH), r.1 ≤ 3 ∧ W = some (nI r.1, P1') ∧ out2 P1 P1' ∧ mAft m r P1 ∧ (r.1 = 0 → P1'.2 2 0 = r.2.toInt64)
def WOV (W : Option (Int32 × PH)) (m : PH → Option PH) : Prop := ∃ (t : Nat) (P1 : PH), t ≤ 3 ∧ W = some (nI t, P1) ∧ ∀ P2, out2 P1 P2 → ∃ Q, m P2 = some Q ∧ Q.1 1 5 = nI t ∧ INV Q
section LAW
variable {D : DT} {N : NT} {P : PH} {K : PH → Option (Int32 × PH)}
theorem out2.rf (P : PH) : out2 P P := ⟨rfl, fun _ _ => rfl⟩
theorem out2.st (P : PH) (v : Int64) : out2 P (sL P 2 0 v) := ⟨rfl, fun n a => rowL_o _ _ _ a⟩
theorem gd01 {o : Option (Int32 × PH)} : gdI (0 : Int32) 1 o = o := z_gd (k := 0) (by decide) (by decide)
theorem cmp_id (x : Int64) : lg_cmp x x = 0 := by
  have a := lg_lt x x
  have b := lg_gt x x
  have n : ¬ x < x := Int64.lt_irrefl
  have a' : ¬ lg_cmp x x < 0 := fun z => n (a.mp z)
  have b' : ¬ 0 < lg_cmp x x := fun z => n (b.mp z)
  exact Int32.le_antisymm (Int32.not_lt.mp b') (Int32.not_lt.mp a')
theorem goes_if {c : Prop} [Decidable c] {a b : Option (Int32 × PH)} (h1 : goes a) (h2 : goes b) : goes (if c then a else b) := by
  by_cases z : c
  · rw [if_pos z]; exact h1
  · rw [if_neg z]; exact h2
theorem shI_ok {W m : PH → Option (Int32 × PH)} (h : WOK (W P) m) (hK : ∀ Q, INV Q → goes (K Q)) : goes (shI W m K P) := by
  obtain ⟨r, P1, P1', r1, r2, r3, r4, r5⟩ := h
  obtain ⟨b, Q, q1, q2, q3, q4, q5⟩ := r4 P1' r3
  unfold shI Mo_thrown
  rw [r2, Option.bind_some]
  show goes ((m P1').bind _)
  rw [q1, Option.bind_some, Option.bind_some]
  show goes (if Q.1 1 5 = nI r.1 then (if nI r.1 = 0 then gdI (0 : Int32) 1 (if (lg_cmp (Q.2 2 0) (b.toInt64)) = 0 then K Q else fz Q) else K Q) else fz Q)
  rw [if_pos q2]
  by_cases z : r.1 = 0
  · have e : Q.2 2 0 = b.toInt64 := by rw [q3, r5 z, q4 z]
    rw [if_pos (by rw [z]; rfl), gd01, e, if_pos (cmp_id _)]
    exact hK Q q5
  · rw [if_neg (nI_ne0 (by omega) (by omega))]
    exact hK Q q5
theorem shV_ok {W : PH → Option (Int32 × PH)} {m : PH → Option PH} (h : WOV (W P) m) (hK : ∀ Q, INV Q → goes (K Q)) : goes (shV W m K P) := by
  obtain ⟨t, P1, r1, r2, r3⟩ := h
  obtain ⟨Q, q1, q2, q3⟩ := r3 P1 (out2.rf P1)
  unfold shV Mo_thrown
  rw [r2, Option.bind_some]
  show goes ((m P1).bind _)
  rw [q1, Option.bind_some, Option.bind_some]
  show goes (if Q.1 1 5 = nI t then K Q else fz Q)
  rw [if_pos q2]
  exact hK Q q3
theorem shN_ok {B : PH → Option Int32} {m : PH → Option (Int32 × PH)} (h : callNo (B P) m P) (hK : ∀ Q, INV Q → goes (K Q)) : goes (shN B m K P) := by
  obtain ⟨a, r1, Q, r2, r3⟩ := h
  unfold shN
  rw [r1, Option.bind_some, r2, Option.bind_some]
  show goes (if a = a then K Q else fz Q)
  rw [if_pos rfl]
  exact hK Q r3
theorem shF_ok {B m : PH → Option (Int32 × PH)} (h : callFo (B P) m P) (hK : ∀ Q, INV Q → goes (K Q)) : goes (shF B m K P) := by
  obtain ⟨a, P1, r1, Q, r2, r3⟩ := h
  unfold shF
  rw [r1, Option.bind_some]
  show goes ((m P1).bind _)
  rw [r2, Option.bind_some]
  show goes (if a = a then K Q else fz Q)
  rw [if_pos rfl]
  exact hK Q r3
/-! the wrappers -/
def wrQ (f : String → Option (Int32 × PH)) (P1 : PH) (s : String ⊕ Int32) : Option (Int32 × PH) := Sum.elim f (fun (w : Int32) => gdI (0 : Int32) 1 ((some (sL P1 2 (0 : Int32).toNatClampNeg (w.toInt64))).bind fun (P8 : PH) => some ((0 : Int32), P8))) s
theorem lq {l : List String} {f : String → Option (Int32 × PH)} {P1 : PH} {r : Nat × Int32} (hr : r.1 ≤ l.length) (hf : ∀ k, k < l.length → f (l.getD k "") = some (nI (k + 1), P1)) : ∃ P1', wrQ f P1 (clsI l r) = some (nI r.1, P1') ∧ out2 P1 P1' ∧ (r.1 = 0 → P1'.2 2 0 = r.2.toInt64) := by
  unfold clsI
  by_cases z : r.1 = 0
  · rw [if_pos z, z]
    refine ⟨sL P1 2 0 r.2.toInt64, ?_, out2.st _ _, fun _ => by rw [rowL_s, pk_uLs]⟩
    show gdI (0 : Int32) 1 ((some (sL P1 2 (0 : Int32).toNatClampNeg (r.2.toInt64))).bind fun (P8 : PH) => some ((0 : Int32), P8)) = _
    rw [gd01]
    rfl
  · rw [if_neg z]
    refine ⟨P1, ?_, out2.rf P1, fun q => absurd q z⟩
    have := hf (r.1 - 1) (by omega)
    rw [show r.1 - 1 + 1 = r.1 by omega] at this
    exact this
theorem lu {l : List String} {f : String → Option (Int32 × PH)} {P1 : PH} {t : Nat} (hr : t ≤ l.length) (hf : ∀ k, k < l.length → f (l.getD k "") = some (nI (k + 1), P1)) : Sum.elim f (fun (_ : Unit) => some ((0 : Int32), P1)) (clsU l t) = some (nI t, P1) := by
  unfold clsU
  by_cases z : t = 0
  · rw [if_pos z, z]
    rfl
  · rw [if_neg z]
    have := hf (t - 1) (by omega)
    rw [show t - 1 + 1 = t by omega] at this
    exact this

theorem w_drawing (h : INVx D N P) (v1 : Int32) : WOK (Lw_drawing v1 P) (Mo_drawing v1) := by
  obtain ⟨r, P1, r1, r2, r3⟩ := call_drawing h v1
  obtain ⟨P1', a1, a2, a3⟩ := lq (P1 := P1) (r := r) (l := [IAE]) r1 (f := fun E => if E = IAE then some ((1 : Int32), P1) else none) (fun k hk => by
    have hk : k < 1 := hk
    obtain rfl : k = 0 := by omega
    exact if_pos rfl)
  refine ⟨r, P1, P1', Nat.le_trans r1 (by decide), ?_, a2, r3, a3⟩
  unfold Lw_drawing
  rw [r2, Option.bind_some]
  exact a1
theorem w_line (h : INVx D N P) (v1 : Int32) (v2 : Int32) : WOK (Lw_line v1 v2 P) (Mo_line v1 v2) := by
  obtain ⟨r, r1, r2, r3⟩ := call_line h v1 v2
  obtain ⟨P1', a1, a2, a3⟩ := lq (P1 := P) (r := r) (l := [NSE, IAE]) r1 (f := fun E => if E = NSE then some ((1 : Int32), P) else if E = IAE then some ((2 : Int32), P) else none) (fun k hk => by
    have hk : k < 2 := hk
    rcases (show k = 0 ∨ k = 1 by omega) with rfl | rfl
    · exact if_pos rfl
    · exact (if_neg (by decide)).trans (if_pos rfl))
  refine ⟨r, P, P1', Nat.le_trans r1 (by decide), ?_, a2, moI.aft h r3, a3⟩
  unfold Lw_line
  rw [r2, Option.bind_some]
  exact a1
theorem w_lineAt (h : INVx D N P) (v1 : Int32) (v2 : Int32) : WOK (Lw_lineAt v1 v2 P) (Mo_lineAt v1 v2) := by
  obtain ⟨r, r1, r2, r3⟩ := call_lineAt h v1 v2
  obtain ⟨P1', a1, a2, a3⟩ := lq (P1 := P) (r := r) (l := [NSE]) r1 (f := fun E => if E = NSE then some ((1 : Int32), P) else none) (fun k hk => by
    have hk : k < 1 := hk
    obtain rfl : k = 0 := by omega
    exact if_pos rfl)
  refine ⟨r, P, P1', Nat.le_trans r1 (by decide), ?_, a2, moI.aft h r3, a3⟩
  unfold Lw_lineAt
  rw [r2, Option.bind_some]
  exact a1
theorem w_ends (h : INVx D N P) (v1 : Int32) (v2 : Int32) : WOK (Lw_ends v1 v2 P) (Mo_ends v1 v2) := by
  obtain ⟨r, r1, r2, r3⟩ := call_ends h v1 v2
  obtain ⟨P1', a1, a2, a3⟩ := lq (P1 := P) (r := r) (l := [NSE, IAE]) r1 (f := fun E => if E = NSE then some ((1 : Int32), P) else if E = IAE then some ((2 : Int32), P) else none) (fun k hk => by
    have hk : k < 2 := hk
    rcases (show k = 0 ∨ k = 1 by omega) with rfl | rfl
    · exact if_pos rfl
    · exact (if_neg (by decide)).trans (if_pos rfl))
  refine ⟨r, P, P1', Nat.le_trans r1 (by decide), ?_, a2, moI.aft h r3, a3⟩
  unfold Lw_ends
  rw [r2, Option.bind_some]
  exact a1
theorem w_parts (h : INVx D N P) (v1 : Int32) : WOK (Lw_parts v1 P) (Mo_parts v1) := by
  obtain ⟨r, r1, r2, r3⟩ := call_parts h v1
  obtain ⟨P1', a1, a2, a3⟩ := lq (P1 := P) (r := r) (l := [IAE]) r1 (f := fun E => if E = IAE then some ((1 : Int32), P) else none) (fun k hk => by
    have hk : k < 1 := hk
    obtain rfl : k = 0 := by omega
    exact if_pos rfl)
  refine ⟨r, P, P1', Nat.le_trans r1 (by decide), ?_, a2, r3, a3⟩
  unfold Lw_parts
  rw [r2, Option.bind_some]
  exact a1
theorem w_partOf (h : INVx D N P) (v1 : Int32) : WOK (Lw_partOf v1 P) (Mo_partOf v1) := by
  obtain ⟨r, r1, r2, r3⟩ := call_partOf h v1
  obtain ⟨P1', a1, a2, a3⟩ := lq (P1 := P) (r := r) (l := [NSE]) r1 (f := fun E => if E = NSE then some ((1 : Int32), P) else none) (fun k hk => by
    have hk : k < 1 := hk
    obtain rfl : k = 0 := by omega
    exact if_pos rfl)
  refine ⟨r, P, P1', Nat.le_trans r1 (by decide), ?_, a2, r3, a3⟩
  unfold Lw_partOf
  rw [r2, Option.bind_some]
  exact a1
theorem w_length (h : INVx D N P) (v1 : Int32) : WOK (Lw_length v1 P) (Mo_length v1) := by
  obtain ⟨r, r1, r2, r3⟩ := call_length h v1
  obtain ⟨P1', a1, a2, a3⟩ := lq (P1 := P) (r := r) (l := [IAE]) r1 (f := fun E => if E = IAE then some ((1 : Int32), P) else none) (fun k hk => by
    have hk : k < 1 := hk
    obtain rfl : k = 0 := by omega
    exact if_pos rfl)
  refine ⟨r, P, P1', Nat.le_trans r1 (by decide), ?_, a2, r3, a3⟩
  unfold Lw_length
  rw [r2, Option.bind_some]
  exact a1
theorem w_begin (h : INVx D N P) (v1 : Int32) (v2 : Int32) (b : Bool) : WOV (Lw_begin v1 v2 (if b then 1 else 0) P) (Mo_begin v1 v2 (if b then 1 else 0)) := by
  obtain ⟨t, P1, r1, r2, r3⟩ := call_begin h v1 v2 b
  refine ⟨t, P1, Nat.le_trans r1 (by decide), ?_, r3⟩
  unfold Lw_begin
  rw [r2, Option.bind_some]
  exact lu r1 (fun k hk => by
    have hk : k < 2 := hk
    rcases (show k = 0 ∨ k = 1 by omega) with rfl | rfl
    · exact if_pos rfl
    · exact (if_neg (by decide)).trans (if_pos rfl))
theorem w_cut (h : INVx D N P) : WOK (Lw_cut  P) (Mo_cut ) := by
  obtain ⟨r, P1, r1, r2, r3⟩ := call_cut h 
  obtain ⟨P1', a1, a2, a3⟩ := lq (P1 := P1) (r := r) (l := [ISE]) r1 (f := fun E => if E = ISE then some ((1 : Int32), P1) else none) (fun k hk => by
    have hk : k < 1 := hk
    obtain rfl : k = 0 := by omega
    exact if_pos rfl)
  refine ⟨r, P1, P1', Nat.le_trans r1 (by decide), ?_, a2, r3, a3⟩
  unfold Lw_cut
  rw [r2, Option.bind_some]
  exact a1
theorem w_may (h : INVx D N P) (v1 : Int32) : WOK (Lw_may v1 P) (Mo_may v1) := by
  obtain ⟨r, r1, r2, r3⟩ := call_may h v1
  obtain ⟨P1', a1, a2, a3⟩ := lq (P1 := P) (r := r) (l := [NSE]) r1 (f := fun E => if E = NSE then some ((1 : Int32), P) else none) (fun k hk => by
    have hk : k < 1 := hk
    obtain rfl : k = 0 := by omega
    exact if_pos rfl)
  refine ⟨r, P, P1', Nat.le_trans r1 (by decide), ?_, a2, r3, a3⟩
  unfold Lw_may
  rw [r2, Option.bind_some]
  exact a1
theorem w_stitch (h : INVx D N P) (v1 : Int32) : WOK (Lw_stitch v1 P) (Mo_stitch v1) := by
  obtain ⟨r, P1, r1, r2, r3⟩ := call_stitch h v1
  obtain ⟨P1', a1, a2, a3⟩ := lq (P1 := P1) (r := r) (l := [NSE]) r1 (f := fun E => if E = NSE then some ((1 : Int32), P1) else none) (fun k hk => by
    have hk : k < 1 := hk
    obtain rfl : k = 0 := by omega
    exact if_pos rfl)
  refine ⟨r, P1, P1', Nat.le_trans r1 (by decide), ?_, a2, r3, a3⟩
  unfold Lw_stitch
  rw [r2, Option.bind_some]
  exact a1
theorem w_unpick (h : INVx D N P) (v1 : Int32) : WOK (Lw_unpick v1 P) (Mo_unpick v1) := by
  obtain ⟨r, P1, r1, r2, r3⟩ := call_unpick h v1
  obtain ⟨P1', a1, a2, a3⟩ := lq (P1 := P1) (r := r) (l := [ISE, IAE]) r1 (f := fun E => if E = ISE then some ((1 : Int32), P1) else if E = IAE then some ((2 : Int32), P1) else none) (fun k hk => by
    have hk : k < 2 := hk
    rcases (show k = 0 ∨ k = 1 by omega) with rfl | rfl
    · exact if_pos rfl
    · exact (if_neg (by decide)).trans (if_pos rfl))
  refine ⟨r, P1, P1', Nat.le_trans r1 (by decide), ?_, a2, r3, a3⟩
  unfold Lw_unpick
  rw [r2, Option.bind_some]
  exact a1
theorem w_thread (h : INVx D N P) (v1 : Int32) : WOK (Lw_thread v1 P) (Mo_thread v1) := by
  obtain ⟨r, r1, r2, r3⟩ := call_thread h v1
  obtain ⟨P1', a1, a2, a3⟩ := lq (P1 := P) (r := r) (l := [ISE, IAE]) r1 (f := fun E => if E = ISE then some ((1 : Int32), P) else if E = IAE then some ((2 : Int32), P) else none) (fun k hk => by
    have hk : k < 2 := hk
    rcases (show k = 0 ∨ k = 1 by omega) with rfl | rfl
    · exact if_pos rfl
    · exact (if_neg (by decide)).trans (if_pos rfl))
  refine ⟨r, P, P1', Nat.le_trans r1 (by decide), ?_, a2, r3, a3⟩
  unfold Lw_thread
  rw [r2, Option.bind_some]
  exact a1
theorem w_done (h : INVx D N P) (v1 : Int32) : WOK (Lw_done v1 P) (Mo_done v1) := by
  obtain ⟨r, r1, r2, r3⟩ := call_done h v1
  obtain ⟨P1', a1, a2, a3⟩ := lq (P1 := P) (r := r) (l := [ISE]) r1 (f := fun E => if E = ISE then some ((1 : Int32), P) else none) (fun k hk => by
    have hk : k < 1 := hk
    obtain rfl : k = 0 := by omega
    exact if_pos rfl)
  refine ⟨r, P, P1', Nat.le_trans r1 (by decide), ?_, a2, r3, a3⟩
  unfold Lw_done
  rw [r2, Option.bind_some]
  exact a1
theorem w_judge (h : INVx D N P) (v1 : Int32) (v2 : Int32) : WOK (Lw_judge v1 v2 P) (Mo_judge v1 v2) := by
  obtain ⟨r, P1, r1, r2, r3⟩ := call_judge h v1 v2
  obtain ⟨P1', a1, a2, a3⟩ := lq (P1 := P1) (r := r) (l := [NSE, ISE, IAE]) r1 (f := fun E => if E = NSE then some ((1 : Int32), P1) else if E = ISE then some ((2 : Int32), P1) else if E = IAE then some ((3 : Int32), P1) else none) (fun k hk => by
    have hk : k < 3 := hk
    rcases (show k = 0 ∨ k = 1 ∨ k = 2 by omega) with rfl | rfl | rfl
    · exact if_pos rfl
    · exact (if_neg (by decide)).trans (if_pos rfl)
    · exact (if_neg (by decide)).trans ((if_neg (by decide)).trans (if_pos rfl)))
  refine ⟨r, P1, P1', Nat.le_trans r1 (by decide), ?_, a2, r3, a3⟩
  unfold Lw_judge
  rw [r2, Option.bind_some]
  exact a1
theorem w_perform (h : INVx D N P) (v1 : Int32) : WOK (Lw_perform v1 P) (Mo_perform v1) := by
  obtain ⟨r, P1, r1, r2, r3⟩ := call_perform h v1
  obtain ⟨P1', a1, a2, a3⟩ := lq (P1 := P1) (r := r) (l := [NSE, ISE]) r1 (f := fun E => if E = NSE then some ((1 : Int32), P1) else if E = ISE then some ((2 : Int32), P1) else none) (fun k hk => by
    have hk : k < 2 := hk
    rcases (show k = 0 ∨ k = 1 by omega) with rfl | rfl
    · exact if_pos rfl
    · exact (if_neg (by decide)).trans (if_pos rfl))
  refine ⟨r, P1, P1', Nat.le_trans r1 (by decide), ?_, a2, r3, a3⟩
  unfold Lw_perform
  rw [r2, Option.bind_some]
  exact a1
theorem w_left (h : INVx D N P) : WOK (Lw_left  P) (Mo_left ) := by
  obtain ⟨r, r1, r2, r3⟩ := call_left h 
  obtain ⟨P1', a1, a2, a3⟩ := lq (P1 := P) (r := r) (l := [ISE]) r1 (f := fun E => if E = ISE then some ((1 : Int32), P) else none) (fun k hk => by
    have hk : k < 1 := hk
    obtain rfl : k = 0 := by omega
    exact if_pos rfl)
  refine ⟨r, P, P1', Nat.le_trans r1 (by decide), ?_, a2, r3, a3⟩
  unfold Lw_left
  rw [r2, Option.bind_some]
  exact a1
theorem w_barred (h : INVx D N P) (v1 : Int32) : WOK (Lw_barred v1 P) (Mo_barred v1) := by
  obtain ⟨r, P1, r1, r2, r3⟩ := call_barred h v1
  obtain ⟨P1', a1, a2, a3⟩ := lq (P1 := P1) (r := r) (l := [ISE, IAE]) r1 (f := fun E => if E = ISE then some ((1 : Int32), P1) else if E = IAE then some ((2 : Int32), P1) else none) (fun k hk => by
    have hk : k < 2 := hk
    rcases (show k = 0 ∨ k = 1 by omega) with rfl | rfl
    · exact if_pos rfl
    · exact (if_neg (by decide)).trans (if_pos rfl))
  refine ⟨r, P1, P1', Nat.le_trans r1 (by decide), ?_, a2, r3, a3⟩
  unfold Lw_barred
  rw [r2, Option.bind_some]
  exact a1
theorem w_ending (h : INVx D N P) : WOK (Lw_ending  P) (Mo_ending ) := by
  obtain ⟨r, P1, r1, r2, r3⟩ := call_ending h 
  obtain ⟨P1', a1, a2, a3⟩ := lq (P1 := P1) (r := r) (l := [ISE]) r1 (f := fun E => if E = ISE then some ((1 : Int32), P1) else none) (fun k hk => by
    have hk : k < 1 := hk
    obtain rfl : k = 0 := by omega
    exact if_pos rfl)
  refine ⟨r, P1, P1', Nat.le_trans r1 (by decide), ?_, a2, r3, a3⟩
  unfold Lw_ending
  rw [r2, Option.bind_some]
  exact a1
theorem w_working (h : INVx D N P) (v1 : Int32) : WOK (Lw_working v1 P) (Mo_working v1) := by
  obtain ⟨r, P1, r1, r2, r3⟩ := call_working h v1
  obtain ⟨P1', a1, a2, a3⟩ := lq (P1 := P1) (r := r) (l := [ISE]) r1 (f := fun E => if E = ISE then some ((1 : Int32), P1) else none) (fun k hk => by
    have hk : k < 1 := hk
    obtain rfl : k = 0 := by omega
    exact if_pos rfl)
  refine ⟨r, P1, P1', Nat.le_trans r1 (by decide), ?_, a2, r3, a3⟩
  unfold Lw_working
  rw [r2, Option.bind_some]
  exact a1
theorem w_work (h : INVx D N P) : WOK (Lw_work  P) (Mo_work ) := by
  obtain ⟨r, P1, r1, r2, r3⟩ := call_work h 
  obtain ⟨P1', a1, a2, a3⟩ := lq (P1 := P1) (r := r) (l := [ISE]) r1 (f := fun E => if E = ISE then some ((1 : Int32), P1) else none) (fun k hk => by
    have hk : k < 1 := hk
    obtain rfl : k = 0 := by omega
    exact if_pos rfl)
  refine ⟨r, P1, P1', Nat.le_trans r1 (by decide), ?_, a2, r3, a3⟩
  unfold Lw_work
  rw [r2, Option.bind_some]
  exact a1
theorem w_ways (h : INVx D N P) : WOK (Lw_ways  P) (Mo_ways ) := by
  obtain ⟨r, P1, r1, r2, r3⟩ := call_ways h 
  obtain ⟨P1', a1, a2, a3⟩ := lq (P1 := P1) (r := r) (l := [ISE]) r1 (f := fun E => if E = ISE then some ((1 : Int32), P1) else none) (fun k hk => by
    have hk : k < 1 := hk
    obtain rfl : k = 0 := by omega
    exact if_pos rfl)
  refine ⟨r, P1, P1', Nat.le_trans r1 (by decide), ?_, a2, r3, a3⟩
  unfold Lw_ways
  rw [r2, Option.bind_some]
  exact a1
theorem w_unpicked (h : INVx D N P) (b : Bool) (v2 : Int32) : WOK (Lw_unpicked (if b then 1 else 0) v2 P) (Mo_unpicked (if b then 1 else 0) v2) := by
  obtain ⟨r, P1, r1, r2, r3⟩ := call_unpicked h b v2
  obtain ⟨P1', a1, a2, a3⟩ := lq (P1 := P1) (r := r) (l := [ISE, IAE]) r1 (f := fun E => if E = ISE then some ((1 : Int32), P1) else if E = IAE then some ((2 : Int32), P1) else none) (fun k hk => by
    have hk : k < 2 := hk
    rcases (show k = 0 ∨ k = 1 by omega) with rfl | rfl
    · exact if_pos rfl
    · exact (if_neg (by decide)).trans (if_pos rfl))
  refine ⟨r, P1, P1', Nat.le_trans r1 (by decide), ?_, a2, r3, a3⟩
  unfold Lw_unpicked
  rw [r2, Option.bind_some]
  exact a1
theorem w_places (h : INVx D N P) (v1 : Int32) : WOK (Lw_places v1 P) (Mo_places v1) := by
  obtain ⟨r, P1, r1, r2, r3⟩ := call_places h v1
  obtain ⟨P1', a1, a2, a3⟩ := lq (P1 := P1) (r := r) (l := [IAE]) r1 (f := fun E => if E = IAE then some ((1 : Int32), P1) else none) (fun k hk => by
    have hk : k < 1 := hk
    obtain rfl : k = 0 := by omega
    exact if_pos rfl)
  refine ⟨r, P1, P1', Nat.le_trans r1 (by decide), ?_, a2, r3, a3⟩
  unfold Lw_places
  rw [r2, Option.bind_some]
  exact a1
theorem w_threads (h : INVx D N P) (v1 : Int32) (v2 : Int32) : WOK (Lw_threads v1 v2 P) (Mo_threads v1 v2) := by
  obtain ⟨r, P1, r1, r2, r3⟩ := call_threads h v1 v2
  obtain ⟨P1', a1, a2, a3⟩ := lq (P1 := P1) (r := r) (l := [IAE]) r1 (f := fun E => if E = IAE then some ((1 : Int32), P1) else none) (fun k hk => by
    have hk : k < 1 := hk
    obtain rfl : k = 0 := by omega
    exact if_pos rfl)
  refine ⟨r, P1, P1', Nat.le_trans r1 (by decide), ?_, a2, r3, a3⟩
  unfold Lw_threads
  rw [r2, Option.bind_some]
  exact a1
theorem w_sameAt (h : INVx D N P) (v1 : Int32) : WOK (Lw_sameAt v1 P) (Mo_sameAt v1) := by
  obtain ⟨r, P1, r1, r2, r3⟩ := call_sameAt h v1
  obtain ⟨P1', a1, a2, a3⟩ := lq (P1 := P1) (r := r) (l := [ISE]) r1 (f := fun E => if E = ISE then some ((1 : Int32), P1) else none) (fun k hk => by
    have hk : k < 1 := hk
    obtain rfl : k = 0 := by omega
    exact if_pos rfl)
  refine ⟨r, P1, P1', Nat.le_trans r1 (by decide), ?_, a2, r3, a3⟩
  unfold Lw_sameAt
  rw [r2, Option.bind_some]
  exact a1
theorem w_unlike (h : INVx D N P) (v1 : Int32) : WOK (Lw_unlike v1 P) (Mo_unlike v1) := by
  obtain ⟨r, r1, r2, r3⟩ := call_unlike h v1
  obtain ⟨P1', a1, a2, a3⟩ := lq (P1 := P) (r := r) (l := [NSE]) r1 (f := fun E => if E = NSE then some ((1 : Int32), P) else none) (fun k hk => by
    have hk : k < 1 := hk
    obtain rfl : k = 0 := by omega
    exact if_pos rfl)
  refine ⟨r, P, P1', Nat.le_trans r1 (by decide), ?_, a2, r3, a3⟩
  unfold Lw_unlike
  rw [r2, Option.bind_some]
  exact a1
theorem w_tray (h : INVx D N P) (v1 : Int32) (v2 : Int32) (v3 : Int32) : WOV (Lw_tray v1 v2 v3 P) (Mo_tray v1 v2 v3) := by
  obtain ⟨t, P1, r1, r2, r3⟩ := call_tray h v1 v2 v3
  refine ⟨t, P1, Nat.le_trans r1 (by decide), ?_, r3⟩
  unfold Lw_tray
  rw [r2, Option.bind_some]
  exact lu r1 (fun k hk => by
    have hk : k < 2 := hk
    rcases (show k = 0 ∨ k = 1 by omega) with rfl | rfl
    · exact if_pos rfl
    · exact (if_neg (by decide)).trans (if_pos rfl))
theorem w_image (h : INVx D N P) (v1 : Int32) : WOV (Lw_image v1 P) (Mo_image v1) := by
  obtain ⟨t, P1, r1, r2, r3⟩ := call_image h v1
  refine ⟨t, P1, Nat.le_trans r1 (by decide), ?_, r3⟩
  unfold Lw_image
  rw [r2, Option.bind_some]
  exact lu r1 (fun k hk => by
    have hk : k < 1 := hk
    obtain rfl : k = 0 := by omega
    exact if_pos rfl)
theorem w_restore (h : INVx D N P) (v1 : Int32) : WOV (Lw_restore v1 P) (Mo_restore v1) := by
  obtain ⟨t, P1, r1, r2, r3⟩ := call_restore h v1
  refine ⟨t, P1, Nat.le_trans r1 (by decide), ?_, r3⟩
  unfold Lw_restore
  rw [r2, Option.bind_some]
  exact lu r1 (fun k hk => by
    have hk : k < 2 := hk
    rcases (show k = 0 ∨ k = 1 by omega) with rfl | rfl
    · exact if_pos rfl
    · exact (if_neg (by decide)).trans (if_pos rfl))
end LAW
