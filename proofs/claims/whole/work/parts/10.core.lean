/-! the words that every contract takes; names, values, heaps of the picture; the judgement WP and its rules -/
def gw : List Cond := lw_tbl.filter goodWord
def nwq (w : Cond) : Bool := match w with
  | .methodLinkNest _ _ _ _ => true
  | .arrayOver (.object _) => true
  | _ => false
def nw : List Cond := tables_1.filter nwq
theorem gt {w : Cond} (i : Nat) (h : tables_1[i]? = some w) (g : goodWord w = true) : w ∈ gw := List.mem_filter.mpr ⟨List.mem_append_right _ (List.mem_of_getElem? h), g⟩
theorem gp {w : Cond} (i : Nat) (h : (k2_sels lw_privs)[i]? = some w) (g : goodWord w = true) : w ∈ gw := List.mem_filter.mpr ⟨List.mem_append_left _ (List.mem_of_getElem? h), g⟩
theorem gn {w : Cond} (i : Nat) (h : tables_1[i]? = some w) (g : nwq w = true) : w ∈ nw := List.mem_filter.mpr ⟨List.mem_of_getElem? h, g⟩
theorem gl {ws : List Cond} (ps : List Nat) (h : ws = ps.filterMap (fun i => tables_1[i]?)) (g : ws.all goodWord = true) : ∀ w ∈ ws, w ∈ gw := by
  intro w hw
  have h1 := List.all_eq_true.mp g w hw
  rw [h] at hw
  obtain ⟨i, -, hi⟩ := List.mem_filterMap.mp hw
  exact gt i hi h1
abbrev xN : Type := Nat × Nat
abbrev xV : Type := Int32 ⊕ (Int64 ⊕ (UInt32 ⊕ xN))
abbrev xi (x : Int32) : xV := Sum.inl x
abbrev xl (x : Int64) : xV := Sum.inr (Sum.inl x)
abbrev xf (x : UInt32) : xV := Sum.inr (Sum.inr (Sum.inl x))
abbrev xr (n : xN) : xV := Sum.inr (Sum.inr (Sum.inr n))
abbrev xH : Type := (xN → Nat) × ((xN → Nat → Int32) × (xN → Nat → xN))
def hS (h : xH) (n : xN) : Nat := h.1 n
def hI (h : xH) (n : xN) (j : Nat) : Int32 := h.2.1 n j
def hR (h : xH) (n : xN) (j : Nat) : xN := h.2.2 n j
def sI (h : xH) (n : xN) (j : Nat) (x : Int32) : xH := (h.1, (fun n' j' => if n' = n ∧ j' = j then x else h.2.1 n' j'), h.2.2)
def sR (h : xH) (n : xN) (j : Nat) (r : xN) : xH := (h.1, h.2.1, fun n' j' => if n' = n ∧ j' = j then r else h.2.2 n' j')
def nW (h : xH) (n : xN) (z : Nat) : xH := ((fun n' => if n' = n then z + 1 else h.1 n'), (fun n' j' => if n' = n then 0 else h.2.1 n' j'), (fun n' j' => if n' = n then (0, 0) else h.2.2 n' j'))
def kdl : List (Nat × Nat) := [(0, 0), (6, 0), (1, 0), (1, 1), (1, 2), (1, 3), (1, 4), (1, 5), (1, 6), (1, 7), (1, 8), (1, 9), (1, 10), (2, 0), (5, 7), (2, 0), (2, 0), (2, 0), (2, 0), (2, 0), (3, 0), (2, 0), (2, 0), (2, 0), (2, 0), (2, 0), (2, 0), (5, 4), (5, 3), (5, 8), (5, 1), (5, 5), (2, 0), (2, 0), (0, 0), (2, 0), (2, 0), (2, 0), (3, 0), (2, 0), (3, 0), (2, 0), (2, 0), (3, 0), (0, 0), (0, 0), (2, 0), (2, 0), (2, 0), (2, 0), (2, 0), (2, 0), (2, 0), (2, 0), (2, 0), (2, 0), (0, 0), (0, 0), (2, 0), (2, 0), (2, 0), (2, 0), (2, 0), (2, 0), (2, 0), (2, 0), (3, 0), (2, 0), (2, 0), (0, 0), (2, 0), (2, 0), (2, 0), (2, 0), (2, 0), (0, 0), (0, 0), (0, 0), (0, 0), (0, 0), (0, 0), (0, 0), (2, 0), (0, 0), (2, 0), (3, 0), (2, 0), (2, 0), (2, 0), (2, 0), (2, 0), (2, 0), (3, 0), (2, 0), (2, 0), (2, 0), (0, 0), (2, 0), (2, 0), (4, 0), (0, 0), (2, 0)]
def irl : List (List Bool) := [[true, false], [true, false], [true, true, false, false], [false, false, true, true, false, false, true, true, true, false], [false, true, true, true, true, false, false, false, false], [true, false, false], [true, true, false, false, false, false, false, false, false], [true, false, false, false], [true, false, false, false, false, false, false], [true, true, true, true, true, true, true, true, true, true, false, false, false, false, false, false], [false, true, true, true, true, true, true, true, true, true, false, false, true, true, true, true, true, true, true, true, true, true, false, false, true, true, true, true, true, true, true, true, true, true, true, false, true, true, true, true, true, false, false, false, false, false, false, false, true, false, true, true, true, true, true, true, true, true, true, true, true, true, false, true, true, true, false, true]]

def kd (k : Nat) : Nat × Nat := kdl.getD k (0, 0)
def isR (ci j : Nat) : Bool := (irl.getD ci []).getD j false
def nF (ci : Nat) : Nat := (vwCl.getD ci ("", TX0, 0)).2.2
def tyOf (t ci : Nat) : FieldType := match t with
  | 2 => .int
  | 3 => .boolean
  | 4 => .float
  | _ => .object (vwCl.getD ci ("", TX0, 0)).1
def aTy (k : Nat) : FieldType := tyOf (kd k).1 (kd k).2
def op (ad : xN → Nat) (n : xN) : Option Nat := if n.1 = 0 then none else some (ad n)
def cv (ad : xN → Nat) : xV → Value
  | .inl x => .int x
  | .inr (.inl x) => .long x
  | .inr (.inr (.inl x)) => .float x
  | .inr (.inr (.inr n)) => va_rf (op ad n)
def fv (ad : xN → Nat) (h : xH) (n : xN) (ci j : Nat) : Value := if isR ci j = true then va_rf (op ad (hR h n j)) else .int (hI h n j)
def fl (ad : xN → Nat) (h : xH) (n : xN) (ci : Nat) : List Value := (List.range (nF ci)).map (fv ad h n ci)
def ce (ad : xN → Nat) (ac : xN → ClassId) (h : xH) (n : xN) : va_E :=
  if (kd n.1).1 = 1 then .inr ((kd n.1).2, fl ad h n (kd n.1).2)
  else .inl (ac n, hS h n - 1, if (kd n.1).1 = 4 then .inr (.inr (.inl (fun j => (hI h n j).toUInt32))) else if (kd n.1).1 = 5 then .inr (.inr (.inr (.inr (fun j => op ad (hR h n j))))) else .inl (hI h n))
def wl (ad : xN → Nat) (ac : xN → ClassId) (h : xH) (nm : List xN) : va_W := nm.map (fun n => (ad n, ce ad ac h n))
def oN (nm : List xN) (n : xN) : Prop := n.1 = 0 ∨ n ∈ nm
def oV (nm : List xN) : xV → Prop
  | .inr (.inr (.inr n)) => n.1 = 0 ∨ n.1 = 1 ∨ n ∈ nm
  | _ => True
/-- what the pure side knows of a picture -/
def Pu (h : xH) (nm : List xN) : Prop := nm.Nodup ∧ (∀ n : xN, n ∈ nm ↔ (2 ≤ n.1 ∧ hS h n ≠ 0)) ∧ ∀ n ∈ nm, ∀ j, oN nm (hR h n j)
def Ar (s : State) (ac : xN → ClassId) (nm : List xN) : Prop := ∀ n ∈ nm, (kd n.1).1 ≠ 1 → ArrOfT s (ac n) (aTy n.1) ∧ va_RA s (ac n) (aTy n.1)
def KX (D : va_G) (U : State) : Prop := va_K D vwCl [] U ∧ ∀ w ∈ nw, va_Nw w U
/-- the machine's heap holds the picture -/
def Ab (D : va_G) (A : Nat → Prop) (s : State) (H : Heap) (locs : List Loc) (h : xH) (ad : xN → Nat) (ac : xN → ClassId) (nm : List xN) : Prop :=
  va_P D vwCl (wl ad ac h nm) H ∧ va_D A (wl ad ac h nm) ∧ va_S A s.heap H locs ∧ Pu h nm ∧ Ar s ac nm
def Ext (ad0 : xN → Nat) (nm0 : List xN) (h0 : xH) (ad : xN → Nat) (nm : List xN) (h : xH) : Prop :=
  (∀ n : xN, (n ∈ nm0 ∨ n.1 = 1) → ad n = ad0 n) ∧ (∀ n ∈ nm0, n ∈ nm) ∧ hS h (1, 0) = hS h0 (1, 0) ∧ ∀ j, hI h (1, 0) j = hI h0 (1, 0) j
/-- a method: its name, bytes, locals, answer; its frames, its locals' room, the cells that it may make -/
abbrev xM : Type := MethodName × ByteArray × Nat × Option FieldType × Nat × Nat × Nat
abbrev xM.y (M : xM) : MethodName := M.1
abbrev xM.cc (M : xM) : ByteArray := M.2.1
abbrev xM.mL (M : xM) : Nat := M.2.2.1
abbrev xM.rt (M : xM) : Option FieldType := M.2.2.2.1
abbrev xM.fr (M : xM) : Nat := M.2.2.2.2.1
abbrev xM.lo (M : xM) : Nat := M.2.2.2.2.2.1
abbrev xM.mc (M : xM) : Nat := M.2.2.2.2.2.2
def SX (M : xM) (A : Nat → Prop) (s : State) (ad : xN → Nat) (h : xH) : Prop := M.y.cls = "ToteHouseLaw" → (va_X (ad (1, 0)) (hS h (1, 0) - 1) (hI h (1, 0)) s s.heap ∧ ad (1, 0) < s.heap.size ∧ ¬ A (ad (1, 0)))
def Cx (M : xM) (p : Program) (R : Room) (s : State) (m : MethodId) (args : Array Value) (meth : Method) (c : Code) (D : va_G) (A : Nat → Prop) : Prop :=
  p.tables.exec = Jvm.exec ∧ c.code = M.cc ∧ c.maxLocals = M.mL ∧ s.vm.findClass M.y.cls = some m.cls ∧ (∀ w ∈ gw, w.before args s = true) ∧ KX D s ∧ (∀ q, s.heap.size ≤ q → A q) ∧ (M.fr ≤ R.frames ∧ M.lo ≤ R.locals ∧ M.mc ≤ R.cells ∧ 1500 * M.mc ≤ R.slots) ∧ (M.y.cls ≠ "ToteHouseLaw" → meth.name = M.y.name)
def Cu (M : xM) (D : va_G) (A : Nat → Prop) (s : State) (ad0 : xN → Nat) (nm0 : List xN) (h0 : xH) (H : Heap) (locs : List Loc) (ad : xN → Nat) (ac : xN → ClassId) (nm : List xN) (lsM : Array Slot) (ls : List (Nat × xV)) (st : List xV) (h : xH) (k : Nat) : Prop :=
  Ab D A s H locs h ad ac nm ∧ Ext ad0 nm0 h0 ad nm h ∧ SX M A s ad h ∧ lv_has lsM M.mL (ls.map (fun q => (q.1, cv ad q.2))) ∧ (∀ q ∈ ls, oV nm q.2) ∧ (∀ v ∈ st, oV nm v) ∧ k ≤ M.mc
def rI (r : Option xV) : Instr := match r with
  | none => .return_
  | some (.inl _) => .ireturn
  | some (.inr (.inl _)) => .lreturn
  | some (.inr (.inr (.inl _))) => .freturn
  | some (.inr (.inr (.inr _))) => .areturn
/-- the answer is of the method's type -/
def rOK (rt : Option FieldType) (r : Option xV) : Prop := match rt, r with
  | none, none => True
  | some .int, some (.inl _) => True
  | some .boolean, some (.inl x) => x = 0 ∨ x = 1
  | some .long, some (.inr (.inl _)) => True
  | some .float, some (.inr (.inr (.inl _))) => True
  | some (.object _), some (.inr (.inr (.inr _))) => True
  | _, _ => False
def RT (M : xM) (p : Program) (l : Launch) (e : Env) (R : Room) (s : State) (m : MethodId) (args : Array Value) (below : List Frame) (meth : Method) (c : Code) (D : va_G) (A : Nat → Prop) (Fin : State → Prop) (ad0 : xN → Nat) (nm0 : List xN) (h0 : xH) (Q : Option xV → xH → Prop) : Prop :=
  ∀ (H : Heap) (locs : List Loc) (ad : xN → Nat) (ac : xN → ClassId) (nm : List xN) (lsM : Array Slot) (h : xH) (k pc : Nat) (r : Option xV), Ab D A s H locs h ad ac nm → Ext ad0 nm0 h0 ad nm h → k ≤ M.mc → Q r h → rOK M.rt r → (∀ v ∈ r.toList, oV nm v) → decode M.cc pc = .ok (rI r, 1) →
    W p l e R s m args below meth c H locs k (1500 * k) Fin (F0 m pc lsM (r.toList.map (cv ad)))
/-- at pc with these locals, this stack, this heap: the method comes to its end with Q -/
def WP (M : xM) (pc : Nat) (ls : List (Nat × xV)) (st : List xV) (h : xH) (k : Nat) (Q : Option xV → xH → Prop) : Prop :=
  ∀ (p : Program) (l : Launch) (e : Env) (R : Room) (s : State) (m : MethodId) (args : Array Value) (below : List Frame) (meth : Method) (c : Code) (D : va_G) (A : Nat → Prop) (Fin : State → Prop) (ad0 : xN → Nat) (nm0 : List xN) (h0 : xH),
    Cx M p R s m args meth c D A → RT M p l e R s m args below meth c D A Fin ad0 nm0 h0 Q →
    ∀ (H : Heap) (locs : List Loc) (ad : xN → Nat) (ac : xN → ClassId) (nm : List xN) (lsM : Array Slot), Cu M D A s ad0 nm0 h0 H locs ad ac nm lsM ls st h k →
    W p l e R s m args below meth c H locs k (1500 * k) Fin (F0 m pc lsM (st.map (cv ad)))
section Rules
variable {M : xM} {pc : Nat} {ls : List (Nat × xV)} {st : List xV} {h : xH} {k : Nat} {Q : Option xV → xH → Prop}
theorem oV_l {nm : List xN} {ls : List (Nat × xV)} (h : ∀ q ∈ ls, oV nm q.2) {i : Nat} {v : xV} (hk : ls.lookup i = some v) : oV nm v := by
  induction ls with
  | nil => simp at hk
  | cons a l ih =>
    rw [List.lookup_cons] at hk
    split at hk
    · cases hk; exact h a List.mem_cons_self
    · exact ih (fun q hq => h q (List.mem_cons_of_mem _ hq)) hk
theorem lv_lk {lsM : Array Slot} {nL : Nat} {ad : xN → Nat} {ls : List (Nat × xV)} (hl : lv_has lsM nL (ls.map (fun q => (q.1, cv ad q.2)))) {i : Nat} {v : xV} (hk : ls.lookup i = some v) : lsM[i]? = some (.val (cv ad v)) := by
  refine hl.2.2 (i, cv ad v) ?_
  clear hl
  induction ls with
  | nil => simp at hk
  | cons a l ih =>
    rw [List.lookup_cons] at hk
    split at hk
    · rename_i e
      cases hk
      have : i = a.1 := by simpa using e
      subst this
      exact List.mem_cons_self
    · exact List.mem_cons_of_mem _ (ih hk)
theorem oV_s {nm : List xN} {st : List xV} (h : ∀ v ∈ st, oV nm v) {v : xV} (hv : oV nm v) : ∀ w ∈ v :: st, oV nm w := fun w hw => (List.mem_cons.mp hw).elim (fun e => e ▸ hv) (h w)
theorem oV_t {nm : List xN} {st : List xV} {v : xV} (h : ∀ w ∈ v :: st, oV nm w) : ∀ w ∈ st, oV nm w := fun w hw => h w (List.mem_cons_of_mem _ hw)
/-- storing -/
def ct2 (v : xV) : Bool := match v with
  | .inr (.inl _) => true
  | _ => false
def s1 (ls : List (Nat × xV)) (i : Nat) (v : xV) : List (Nat × xV) := (i, v) :: ls.filter (fun q => !(q.1 == i) && !(q.1 + 1 == i && ct2 q.2))
def s2 (ls : List (Nat × xV)) (i : Nat) (v : xV) : List (Nat × xV) := (i, v) :: ls.filter (fun q => !(q.1 == i) && (!(q.1 == i + 1) && !(q.1 + 1 == i && ct2 q.2)))
theorem ct2_cv (ad : xN → Nat) (v : xV) : ((cv ad v).category == 2) = ct2 v := by
  rcases v with x | x | x | n
  · rfl
  · rfl
  · rfl
  · show ((va_rf (op ad n)).category == 2) = false
    unfold op
    split <;> rfl
theorem s1_cv (ad : xN → Nat) (ls : List (Nat × xV)) (i : Nat) (v : xV) : (i, cv ad v) :: (ls.map (fun q => (q.1, cv ad q.2))).filter (fun q => !(q.1 == i) && !(q.1 + 1 == i && q.2.category == 2)) = (s1 ls i v).map (fun q => (q.1, cv ad q.2)) := by
  simp only [s1, List.map_cons, List.filter_map]
  congr 2
  apply List.filter_congr
  intro q _
  simp only [Function.comp, ct2_cv]
theorem s2_cv (ad : xN → Nat) (ls : List (Nat × xV)) (i : Nat) (v : xV) : (i, cv ad v) :: (ls.map (fun q => (q.1, cv ad q.2))).filter (fun q => !(q.1 == i) && (!(q.1 == i + 1) && !(q.1 + 1 == i && q.2.category == 2))) = (s2 ls i v).map (fun q => (q.1, cv ad q.2)) := by
  simp only [s2, List.map_cons, List.filter_map]
  congr 2
  apply List.filter_congr
  intro q _
  simp only [Function.comp, ct2_cv]
theorem s1_ok {nm : List xN} {ls : List (Nat × xV)} (h : ∀ q ∈ ls, oV nm q.2) {i : Nat} {v : xV} (hv : oV nm v) : ∀ q ∈ s1 ls i v, oV nm q.2 := fun q hq => (List.mem_cons.mp hq).elim (fun e => by rw [e]; exact hv) (fun e => h q (List.mem_filter.mp e).1)
theorem s2_ok {nm : List xN} {ls : List (Nat × xV)} (h : ∀ q ∈ ls, oV nm q.2) {i : Nat} {v : xV} (hv : oV nm v) : ∀ q ∈ s2 ls i v, oV nm q.2 := fun q hq => (List.mem_cons.mp hq).elim (fun e => by rw [e]; exact hv) (fun e => h q (List.mem_filter.mp e).1)

theorem wp_iconst {n : Int} (v : Int32) (hv : Int32.ofInt n = v) (hd : decode M.cc pc = .ok (.iconst n, 1)) (kk : WP M (pc + 1) ls (xi v :: st) h k Q) : WP M pc ls (st) h k Q := by
  intro p l e R s m args below meth c D A Fin ad0 nm0 h0 C RT H locs ad ac nm lsM U
  exact lv_iconst C.1 C.2.1 hd hv (kk p l e R s m args below meth c D A Fin ad0 nm0 h0 C RT H locs ad ac nm lsM ⟨U.1, U.2.1, U.2.2.1, U.2.2.2.1, U.2.2.2.2.1, (oV_s U.2.2.2.2.2.1 trivial), U.2.2.2.2.2.2⟩)
theorem wp_bipush {n : Int} (v : Int32) (hv : (Int8.ofInt n).toInt32 = v) (hd : decode M.cc pc = .ok (.bipush n, 2)) (kk : WP M (pc + 2) ls (xi v :: st) h k Q) : WP M pc ls (st) h k Q := by
  intro p l e R s m args below meth c D A Fin ad0 nm0 h0 C RT H locs ad ac nm lsM U
  exact lv_bipush C.1 C.2.1 hd hv (kk p l e R s m args below meth c D A Fin ad0 nm0 h0 C RT H locs ad ac nm lsM ⟨U.1, U.2.1, U.2.2.1, U.2.2.2.1, U.2.2.2.2.1, (oV_s U.2.2.2.2.2.1 trivial), U.2.2.2.2.2.2⟩)
theorem wp_sipush {n : Int} (v : Int32) (hv : (Int16.ofInt n).toInt32 = v) (hd : decode M.cc pc = .ok (.sipush n, 3)) (kk : WP M (pc + 3) ls (xi v :: st) h k Q) : WP M pc ls (st) h k Q := by
  intro p l e R s m args below meth c D A Fin ad0 nm0 h0 C RT H locs ad ac nm lsM U
  exact lv_sipush C.1 C.2.1 hd hv (kk p l e R s m args below meth c D A Fin ad0 nm0 h0 C RT H locs ad ac nm lsM ⟨U.1, U.2.1, U.2.2.1, U.2.2.2.1, U.2.2.2.2.1, (oV_s U.2.2.2.2.2.1 trivial), U.2.2.2.2.2.2⟩)
theorem wp_lconst {n : Fin 2} (v : Int64) (hv : Int64.ofNat (n : Nat) = v) (hd : decode M.cc pc = .ok (.lconst n, 1)) (kk : WP M (pc + 1) ls (xl v :: st) h k Q) : WP M pc ls (st) h k Q := by
  intro p l e R s m args below meth c D A Fin ad0 nm0 h0 C RT H locs ad ac nm lsM U
  exact lv_lconst C.1 C.2.1 hd hv (kk p l e R s m args below meth c D A Fin ad0 nm0 h0 C RT H locs ad ac nm lsM ⟨U.1, U.2.1, U.2.2.1, U.2.2.2.1, U.2.2.2.2.1, (oV_s U.2.2.2.2.2.1 trivial), U.2.2.2.2.2.2⟩)
theorem wp_fconst0 (hd : decode M.cc pc = .ok (.fconst 0, 1)) (kk : WP M (pc + 1) ls (xf 0 :: st) h k Q) : WP M pc ls (st) h k Q := by
  intro p l e R s m args below meth c D A Fin ad0 nm0 h0 C RT H locs ad ac nm lsM U
  exact lv_fconst0 C.1 C.2.1 hd (kk p l e R s m args below meth c D A Fin ad0 nm0 h0 C RT H locs ad ac nm lsM ⟨U.1, U.2.1, U.2.2.1, U.2.2.2.1, U.2.2.2.2.1, (oV_s U.2.2.2.2.2.1 trivial), U.2.2.2.2.2.2⟩)
theorem wp_fconst2 (hd : decode M.cc pc = .ok (.fconst 2, 1)) (kk : WP M (pc + 1) ls (xf 0x40000000 :: st) h k Q) : WP M pc ls (st) h k Q := by
  intro p l e R s m args below meth c D A Fin ad0 nm0 h0 C RT H locs ad ac nm lsM U
  exact lv_fconst2 C.1 C.2.1 hd (kk p l e R s m args below meth c D A Fin ad0 nm0 h0 C RT H locs ad ac nm lsM ⟨U.1, U.2.1, U.2.2.1, U.2.2.2.1, U.2.2.2.2.1, (oV_s U.2.2.2.2.2.1 trivial), U.2.2.2.2.2.2⟩)
theorem wp_ldc {i : Nat} (v : Int32) (hc : Cond.constant M.y.cls i v ∈ gw) (hd : decode M.cc pc = .ok (.ldc i, 2)) (kk : WP M (pc + 2) ls (xi v :: st) h k Q) : WP M pc ls (st) h k Q := by
  intro p l e R s m args below meth c D A Fin ad0 nm0 h0 C RT H locs ad ac nm lsM U
  exact lv_ldc C.1 C.2.1 C.2.2.2.1 (C.2.2.2.2.1 _ hc) hd (kk p l e R s m args below meth c D A Fin ad0 nm0 h0 C RT H locs ad ac nm lsM ⟨U.1, U.2.1, U.2.2.1, U.2.2.2.1, U.2.2.2.2.1, (oV_s U.2.2.2.2.2.1 trivial), U.2.2.2.2.2.2⟩)
theorem wp_ldcw {i : Nat} (v : Int32) (hc : Cond.constant M.y.cls i v ∈ gw) (hd : decode M.cc pc = .ok (.ldc_w i, 3)) (kk : WP M (pc + 3) ls (xi v :: st) h k Q) : WP M pc ls (st) h k Q := by
  intro p l e R s m args below meth c D A Fin ad0 nm0 h0 C RT H locs ad ac nm lsM U
  exact lv_ldcw C.1 C.2.1 C.2.2.2.1 (C.2.2.2.2.1 _ hc) hd (kk p l e R s m args below meth c D A Fin ad0 nm0 h0 C RT H locs ad ac nm lsM ⟨U.1, U.2.1, U.2.2.1, U.2.2.2.1, U.2.2.2.2.1, (oV_s U.2.2.2.2.2.1 trivial), U.2.2.2.2.2.2⟩)
theorem wp_ldcf {i : Nat} (v : UInt32) (hc : Cond.constantFloat M.y.cls i v ∈ gw) (hd : decode M.cc pc = .ok (.ldc i, 2)) (kk : WP M (pc + 2) ls (xf v :: st) h k Q) : WP M pc ls (st) h k Q := by
  intro p l e R s m args below meth c D A Fin ad0 nm0 h0 C RT H locs ad ac nm lsM U
  exact lv_ldcf C.1 C.2.1 C.2.2.2.1 (C.2.2.2.2.1 _ hc) hd (kk p l e R s m args below meth c D A Fin ad0 nm0 h0 C RT H locs ad ac nm lsM ⟨U.1, U.2.1, U.2.2.1, U.2.2.2.1, U.2.2.2.2.1, (oV_s U.2.2.2.2.2.1 trivial), U.2.2.2.2.2.2⟩)
theorem wp_ldc2 {i : Nat} (v : Int64) (hc : Cond.constantLong M.y.cls i v ∈ gw) (hd : decode M.cc pc = .ok (.ldc2_w i, 3)) (kk : WP M (pc + 3) ls (xl v :: st) h k Q) : WP M pc ls (st) h k Q := by
  intro p l e R s m args below meth c D A Fin ad0 nm0 h0 C RT H locs ad ac nm lsM U
  exact lv_ldc2 C.1 C.2.1 C.2.2.2.1 (C.2.2.2.2.1 _ hc) hd (kk p l e R s m args below meth c D A Fin ad0 nm0 h0 C RT H locs ad ac nm lsM ⟨U.1, U.2.1, U.2.2.1, U.2.2.2.1, U.2.2.2.2.1, (oV_s U.2.2.2.2.2.1 trivial), U.2.2.2.2.2.2⟩)
theorem wp_null (hd : decode M.cc pc = .ok (.aconst_null, 1)) (kk : WP M (pc + 1) ls (xr (0, 0) :: st) h k Q) : WP M pc ls (st) h k Q := by
  intro p l e R s m args below meth c D A Fin ad0 nm0 h0 C RT H locs ad ac nm lsM U
  exact lv_null C.1 C.2.1 hd (kk p l e R s m args below meth c D A Fin ad0 nm0 h0 C RT H locs ad ac nm lsM ⟨U.1, U.2.1, U.2.2.1, U.2.2.2.1, U.2.2.2.2.1, (oV_s U.2.2.2.2.2.1 (Or.inl rfl)), U.2.2.2.2.2.2⟩)
theorem wp_iload_n {q : Fin 4} (i : Nat) {x : Int32} (hi : (q : Nat) = i) (hl : ls.lookup i = some (xi x)) (hd : decode M.cc pc = .ok (.iload_n q, 1)) (kk : WP M (pc + 1) ls (xi x :: st) h k Q) : WP M pc ls (st) h k Q := by
  intro p l e R s m args below meth c D A Fin ad0 nm0 h0 C RT H locs ad ac nm lsM U
  exact lv_iload_n C.1 C.2.1 hd hi (lv_lk U.2.2.2.1 hl) (kk p l e R s m args below meth c D A Fin ad0 nm0 h0 C RT H locs ad ac nm lsM ⟨U.1, U.2.1, U.2.2.1, U.2.2.2.1, U.2.2.2.2.1, (oV_s U.2.2.2.2.2.1 trivial), U.2.2.2.2.2.2⟩)
theorem wp_iload {i : Nat} {x : Int32} (hl : ls.lookup i = some (xi x)) (hd : decode M.cc pc = .ok (.iload i, 2)) (kk : WP M (pc + 2) ls (xi x :: st) h k Q) : WP M pc ls (st) h k Q := by
  intro p l e R s m args below meth c D A Fin ad0 nm0 h0 C RT H locs ad ac nm lsM U
  exact lv_iload C.1 C.2.1 hd (lv_lk U.2.2.2.1 hl) (kk p l e R s m args below meth c D A Fin ad0 nm0 h0 C RT H locs ad ac nm lsM ⟨U.1, U.2.1, U.2.2.1, U.2.2.2.1, U.2.2.2.2.1, (oV_s U.2.2.2.2.2.1 trivial), U.2.2.2.2.2.2⟩)
theorem wp_lload_n {q : Fin 4} (i : Nat) {x : Int64} (hi : (q : Nat) = i) (hl : ls.lookup i = some (xl x)) (hd : decode M.cc pc = .ok (.lload_n q, 1)) (kk : WP M (pc + 1) ls (xl x :: st) h k Q) : WP M pc ls (st) h k Q := by
  intro p l e R s m args below meth c D A Fin ad0 nm0 h0 C RT H locs ad ac nm lsM U
  exact lv_lload_n C.1 C.2.1 hd hi (lv_lk U.2.2.2.1 hl) (kk p l e R s m args below meth c D A Fin ad0 nm0 h0 C RT H locs ad ac nm lsM ⟨U.1, U.2.1, U.2.2.1, U.2.2.2.1, U.2.2.2.2.1, (oV_s U.2.2.2.2.2.1 trivial), U.2.2.2.2.2.2⟩)
theorem wp_lload {i : Nat} {x : Int64} (hl : ls.lookup i = some (xl x)) (hd : decode M.cc pc = .ok (.lload i, 2)) (kk : WP M (pc + 2) ls (xl x :: st) h k Q) : WP M pc ls (st) h k Q := by
  intro p l e R s m args below meth c D A Fin ad0 nm0 h0 C RT H locs ad ac nm lsM U
  exact lv_lload C.1 C.2.1 hd (lv_lk U.2.2.2.1 hl) (kk p l e R s m args below meth c D A Fin ad0 nm0 h0 C RT H locs ad ac nm lsM ⟨U.1, U.2.1, U.2.2.1, U.2.2.2.1, U.2.2.2.2.1, (oV_s U.2.2.2.2.2.1 trivial), U.2.2.2.2.2.2⟩)
theorem wp_fload_n {q : Fin 4} (i : Nat) {x : UInt32} (hi : (q : Nat) = i) (hl : ls.lookup i = some (xf x)) (hd : decode M.cc pc = .ok (.fload_n q, 1)) (kk : WP M (pc + 1) ls (xf x :: st) h k Q) : WP M pc ls (st) h k Q := by
  intro p l e R s m args below meth c D A Fin ad0 nm0 h0 C RT H locs ad ac nm lsM U
  exact lv_fload_n C.1 C.2.1 hd hi (lv_lk U.2.2.2.1 hl) (kk p l e R s m args below meth c D A Fin ad0 nm0 h0 C RT H locs ad ac nm lsM ⟨U.1, U.2.1, U.2.2.1, U.2.2.2.1, U.2.2.2.2.1, (oV_s U.2.2.2.2.2.1 trivial), U.2.2.2.2.2.2⟩)
theorem wp_fload {i : Nat} {x : UInt32} (hl : ls.lookup i = some (xf x)) (hd : decode M.cc pc = .ok (.fload i, 2)) (kk : WP M (pc + 2) ls (xf x :: st) h k Q) : WP M pc ls (st) h k Q := by
  intro p l e R s m args below meth c D A Fin ad0 nm0 h0 C RT H locs ad ac nm lsM U
  exact lv_fload C.1 C.2.1 hd (lv_lk U.2.2.2.1 hl) (kk p l e R s m args below meth c D A Fin ad0 nm0 h0 C RT H locs ad ac nm lsM ⟨U.1, U.2.1, U.2.2.1, U.2.2.2.1, U.2.2.2.2.1, (oV_s U.2.2.2.2.2.1 trivial), U.2.2.2.2.2.2⟩)
theorem wp_aload_n {q : Fin 4} (i : Nat) {n : xN} (hi : (q : Nat) = i) (hl : ls.lookup i = some (xr n)) (hd : decode M.cc pc = .ok (.aload_n q, 1)) (kk : WP M (pc + 1) ls (xr n :: st) h k Q) : WP M pc ls (st) h k Q := by
  intro p l e R s m args below meth c D A Fin ad0 nm0 h0 C RT H locs ad ac nm lsM U
  have K := kk p l e R s m args below meth c D A Fin ad0 nm0 h0 C RT H locs ad ac nm lsM ⟨U.1, U.2.1, U.2.2.1, U.2.2.2.1, U.2.2.2.2.1, (oV_s U.2.2.2.2.2.1 (oV_l U.2.2.2.2.1 hl)), U.2.2.2.2.2.2⟩
  have E := lv_lk U.2.2.2.1 hl
  simp only [cv, op] at E
  simp only [List.map_cons, cv, op] at K
  split at E
  · rename_i hz
    rw [if_pos hz] at K
    exact lv_aload_nN C.1 C.2.1 hd hi E K
  · rename_i hz
    rw [if_neg hz] at K
    exact lv_aload_n C.1 C.2.1 hd hi E K
theorem wp_aload {i : Nat} {n : xN} (hl : ls.lookup i = some (xr n)) (hd : decode M.cc pc = .ok (.aload i, 2)) (kk : WP M (pc + 2) ls (xr n :: st) h k Q) : WP M pc ls (st) h k Q := by
  intro p l e R s m args below meth c D A Fin ad0 nm0 h0 C RT H locs ad ac nm lsM U
  have K := kk p l e R s m args below meth c D A Fin ad0 nm0 h0 C RT H locs ad ac nm lsM ⟨U.1, U.2.1, U.2.2.1, U.2.2.2.1, U.2.2.2.2.1, (oV_s U.2.2.2.2.2.1 (oV_l U.2.2.2.2.1 hl)), U.2.2.2.2.2.2⟩
  have E := lv_lk U.2.2.2.1 hl
  simp only [cv, op] at E
  simp only [List.map_cons, cv, op] at K
  split at E
  · rename_i hz
    rw [if_pos hz] at K
    exact lv_aloadN C.1 C.2.1 hd E K
  · rename_i hz
    rw [if_neg hz] at K
    exact lv_aload C.1 C.2.1 hd E K
theorem wp_istore_n {q : Fin 4} (i : Nat) {x : Int32} (hi : (q : Nat) = i) (hn : i < M.mL) (hd : decode M.cc pc = .ok (.istore_n q, 1)) {ls' : List (Nat × xV)} (hls : s1 ls i (xi x) = ls') (kk : WP M (pc + 1) ls' st h k Q) : WP M pc ls (xi x :: st) h k Q := by
  intro p l e R s m args below meth c D A Fin ad0 nm0 h0 C RT H locs ad ac nm lsM U
  subst hls
  exact lv_istore_n C.1 C.2.1 hd hi U.2.2.2.1 hn (s1_cv ad ls i (xi x)) (fun lsM' hl' => kk p l e R s m args below meth c D A Fin ad0 nm0 h0 C RT H locs ad ac nm lsM' ⟨U.1, U.2.1, U.2.2.1, hl', s1_ok U.2.2.2.2.1 (U.2.2.2.2.2.1 _ List.mem_cons_self), (oV_t U.2.2.2.2.2.1), U.2.2.2.2.2.2⟩)
theorem wp_istore {i : Nat} {x : Int32} (hn : i < M.mL) (hd : decode M.cc pc = .ok (.istore i, 2)) {ls' : List (Nat × xV)} (hls : s1 ls i (xi x) = ls') (kk : WP M (pc + 2) ls' st h k Q) : WP M pc ls (xi x :: st) h k Q := by
  intro p l e R s m args below meth c D A Fin ad0 nm0 h0 C RT H locs ad ac nm lsM U
  subst hls
  exact lv_istore C.1 C.2.1 hd U.2.2.2.1 hn (s1_cv ad ls i (xi x)) (fun lsM' hl' => kk p l e R s m args below meth c D A Fin ad0 nm0 h0 C RT H locs ad ac nm lsM' ⟨U.1, U.2.1, U.2.2.1, hl', s1_ok U.2.2.2.2.1 (U.2.2.2.2.2.1 _ List.mem_cons_self), (oV_t U.2.2.2.2.2.1), U.2.2.2.2.2.2⟩)
theorem wp_fstore_n {q : Fin 4} (i : Nat) {x : UInt32} (hi : (q : Nat) = i) (hn : i < M.mL) (hd : decode M.cc pc = .ok (.fstore_n q, 1)) {ls' : List (Nat × xV)} (hls : s1 ls i (xf x) = ls') (kk : WP M (pc + 1) ls' st h k Q) : WP M pc ls (xf x :: st) h k Q := by
  intro p l e R s m args below meth c D A Fin ad0 nm0 h0 C RT H locs ad ac nm lsM U
  subst hls
  exact lv_fstore_n C.1 C.2.1 hd hi U.2.2.2.1 hn (s1_cv ad ls i (xf x)) (fun lsM' hl' => kk p l e R s m args below meth c D A Fin ad0 nm0 h0 C RT H locs ad ac nm lsM' ⟨U.1, U.2.1, U.2.2.1, hl', s1_ok U.2.2.2.2.1 (U.2.2.2.2.2.1 _ List.mem_cons_self), (oV_t U.2.2.2.2.2.1), U.2.2.2.2.2.2⟩)
theorem wp_fstore {i : Nat} {x : UInt32} (hn : i < M.mL) (hd : decode M.cc pc = .ok (.fstore i, 2)) {ls' : List (Nat × xV)} (hls : s1 ls i (xf x) = ls') (kk : WP M (pc + 2) ls' st h k Q) : WP M pc ls (xf x :: st) h k Q := by
  intro p l e R s m args below meth c D A Fin ad0 nm0 h0 C RT H locs ad ac nm lsM U
  subst hls
  exact lv_fstore C.1 C.2.1 hd U.2.2.2.1 hn (s1_cv ad ls i (xf x)) (fun lsM' hl' => kk p l e R s m args below meth c D A Fin ad0 nm0 h0 C RT H locs ad ac nm lsM' ⟨U.1, U.2.1, U.2.2.1, hl', s1_ok U.2.2.2.2.1 (U.2.2.2.2.2.1 _ List.mem_cons_self), (oV_t U.2.2.2.2.2.1), U.2.2.2.2.2.2⟩)
theorem wp_lstore_n {q : Fin 4} (i : Nat) {x : Int64} (hi : (q : Nat) = i) (hn : i + 1 < M.mL) (hd : decode M.cc pc = .ok (.lstore_n q, 1)) {ls' : List (Nat × xV)} (hls : s2 ls i (xl x) = ls') (kk : WP M (pc + 1) ls' st h k Q) : WP M pc ls (xl x :: st) h k Q := by
  intro p l e R s m args below meth c D A Fin ad0 nm0 h0 C RT H locs ad ac nm lsM U
  subst hls
  exact lv_lstore_n C.1 C.2.1 hd hi U.2.2.2.1 hn (s2_cv ad ls i (xl x)) (fun lsM' hl' => kk p l e R s m args below meth c D A Fin ad0 nm0 h0 C RT H locs ad ac nm lsM' ⟨U.1, U.2.1, U.2.2.1, hl', s2_ok U.2.2.2.2.1 (U.2.2.2.2.2.1 _ List.mem_cons_self), (oV_t U.2.2.2.2.2.1), U.2.2.2.2.2.2⟩)
theorem wp_lstore {i : Nat} {x : Int64} (hn : i + 1 < M.mL) (hd : decode M.cc pc = .ok (.lstore i, 2)) {ls' : List (Nat × xV)} (hls : s2 ls i (xl x) = ls') (kk : WP M (pc + 2) ls' st h k Q) : WP M pc ls (xl x :: st) h k Q := by
  intro p l e R s m args below meth c D A Fin ad0 nm0 h0 C RT H locs ad ac nm lsM U
  subst hls
  exact lv_lstore C.1 C.2.1 hd U.2.2.2.1 hn (s2_cv ad ls i (xl x)) (fun lsM' hl' => kk p l e R s m args below meth c D A Fin ad0 nm0 h0 C RT H locs ad ac nm lsM' ⟨U.1, U.2.1, U.2.2.1, hl', s2_ok U.2.2.2.2.1 (U.2.2.2.2.2.1 _ List.mem_cons_self), (oV_t U.2.2.2.2.2.1), U.2.2.2.2.2.2⟩)
theorem wp_astore_n {q : Fin 4} (i : Nat) {n : xN} (hi : (q : Nat) = i) (hn : i < M.mL) (hd : decode M.cc pc = .ok (.astore_n q, 1)) {ls' : List (Nat × xV)} (hls : s1 ls i (xr n) = ls') (kk : WP M (pc + 1) ls' st h k Q) : WP M pc ls (xr n :: st) h k Q := by
  intro p l e R s m args below meth c D A Fin ad0 nm0 h0 C RT H locs ad ac nm lsM U
  subst hls
  have K := fun lsM' hl' => kk p l e R s m args below meth c D A Fin ad0 nm0 h0 C RT H locs ad ac nm lsM' ⟨U.1, U.2.1, U.2.2.1, hl', s1_ok U.2.2.2.2.1 (U.2.2.2.2.2.1 _ List.mem_cons_self), (oV_t U.2.2.2.2.2.1), U.2.2.2.2.2.2⟩
  have E := s1_cv ad ls i (xr n)
  have L := U.2.2.2.1
  show W p l e R s m args below meth c H locs k (1500 * k) Fin (F0 m pc lsM (cv ad (xr n) :: st.map (cv ad)))
  by_cases hz : n.1 = 0
  · rw [show cv ad (xr n) = Value.null by simp [cv, op, hz, va_rf]] at E ⊢
    exact lv_astore_nN C.1 C.2.1 hd hi L hn E K
  · rw [show cv ad (xr n) = Value.ref (ad n) by simp [cv, op, hz, va_rf]] at E ⊢
    exact lv_astore_n C.1 C.2.1 hd hi L hn E K
theorem wp_astore {i : Nat} {n : xN} (hn : i < M.mL) (hd : decode M.cc pc = .ok (.astore i, 2)) {ls' : List (Nat × xV)} (hls : s1 ls i (xr n) = ls') (kk : WP M (pc + 2) ls' st h k Q) : WP M pc ls (xr n :: st) h k Q := by
  intro p l e R s m args below meth c D A Fin ad0 nm0 h0 C RT H locs ad ac nm lsM U
  subst hls
  have K := fun lsM' hl' => kk p l e R s m args below meth c D A Fin ad0 nm0 h0 C RT H locs ad ac nm lsM' ⟨U.1, U.2.1, U.2.2.1, hl', s1_ok U.2.2.2.2.1 (U.2.2.2.2.2.1 _ List.mem_cons_self), (oV_t U.2.2.2.2.2.1), U.2.2.2.2.2.2⟩
  have E := s1_cv ad ls i (xr n)
  have L := U.2.2.2.1
  show W p l e R s m args below meth c H locs k (1500 * k) Fin (F0 m pc lsM (cv ad (xr n) :: st.map (cv ad)))
  by_cases hz : n.1 = 0
  · rw [show cv ad (xr n) = Value.null by simp [cv, op, hz, va_rf]] at E ⊢
    exact lv_astoreN C.1 C.2.1 hd L hn E K
  · rw [show cv ad (xr n) = Value.ref (ad n) by simp [cv, op, hz, va_rf]] at E ⊢
    exact lv_astore C.1 C.2.1 hd L hn E K
theorem lk_get {ls : List (Nat × xV)} {i : Nat} {v : xV} (h : ls.lookup i = some v) : ∃ q : Nat, ls[q]? = some (i, v) := by
  induction ls with
  | nil => simp at h
  | cons a l ih =>
    rw [List.lookup_cons] at h
    split at h
    · rename_i e
      cases h
      have : i = a.1 := by simpa using e
      subst this
      exact ⟨0, rfl⟩
    · obtain ⟨q, hq⟩ := ih h
      exact ⟨q + 1, by simpa using hq⟩
theorem wp_iinc {i : Nat} {n : Int} {x : Int32} (v : Int32) (hl : ls.lookup i = some (xi x)) (hv : x + Int32.ofInt n = v) (hn : i < M.mL) (hd : decode M.cc pc = .ok (.iinc i n, 3)) {ls' : List (Nat × xV)} (hls : s1 ls i (xi v) = ls') (kk : WP M (pc + 3) ls' st h k Q) : WP M pc ls st h k Q := by
  intro p l e R s m args below meth c D A Fin ad0 nm0 h0 C RT H locs ad ac nm lsM U
  subst hls
  obtain ⟨q, hq⟩ := lk_get hl
  exact lv_iinc C.1 C.2.1 hd U.2.2.2.1 (k := q) (by rw [List.getElem?_map, hq]; rfl) hv hn (s1_cv ad ls i (xi v)) (fun lsM' hl' => kk p l e R s m args below meth c D A Fin ad0 nm0 h0 C RT H locs ad ac nm lsM' ⟨U.1, U.2.1, U.2.2.1, hl', s1_ok U.2.2.2.2.1 trivial, U.2.2.2.2.2.1, U.2.2.2.2.2.2⟩)
theorem wp_iadd {x y : Int32} (hd : decode M.cc pc = .ok (.iadd, 1)) (kk : WP M (pc + 1) ls (xi (x + y) :: st) h k Q) : WP M pc ls (xi y :: xi x :: st) h k Q := by
  intro p l e R s m args below meth c D A Fin ad0 nm0 h0 C RT H locs ad ac nm lsM U
  exact lv_iadd C.1 C.2.1 hd (kk p l e R s m args below meth c D A Fin ad0 nm0 h0 C RT H locs ad ac nm lsM ⟨U.1, U.2.1, U.2.2.1, U.2.2.2.1, U.2.2.2.2.1, (oV_s (oV_t (oV_t U.2.2.2.2.2.1)) trivial), U.2.2.2.2.2.2⟩)
theorem wp_isub {x y : Int32} (hd : decode M.cc pc = .ok (.isub, 1)) (kk : WP M (pc + 1) ls (xi (x - y) :: st) h k Q) : WP M pc ls (xi y :: xi x :: st) h k Q := by
  intro p l e R s m args below meth c D A Fin ad0 nm0 h0 C RT H locs ad ac nm lsM U
  exact lv_isub C.1 C.2.1 hd (kk p l e R s m args below meth c D A Fin ad0 nm0 h0 C RT H locs ad ac nm lsM ⟨U.1, U.2.1, U.2.2.1, U.2.2.2.1, U.2.2.2.2.1, (oV_s (oV_t (oV_t U.2.2.2.2.2.1)) trivial), U.2.2.2.2.2.2⟩)
theorem wp_imul {x y : Int32} (hd : decode M.cc pc = .ok (.imul, 1)) (kk : WP M (pc + 1) ls (xi (x * y) :: st) h k Q) : WP M pc ls (xi y :: xi x :: st) h k Q := by
  intro p l e R s m args below meth c D A Fin ad0 nm0 h0 C RT H locs ad ac nm lsM U
  exact lv_imul C.1 C.2.1 hd (kk p l e R s m args below meth c D A Fin ad0 nm0 h0 C RT H locs ad ac nm lsM ⟨U.1, U.2.1, U.2.2.1, U.2.2.2.1, U.2.2.2.2.1, (oV_s (oV_t (oV_t U.2.2.2.2.2.1)) trivial), U.2.2.2.2.2.2⟩)
theorem wp_iand {x y : Int32} (hd : decode M.cc pc = .ok (.iand, 1)) (kk : WP M (pc + 1) ls (xi (x &&& y) :: st) h k Q) : WP M pc ls (xi y :: xi x :: st) h k Q := by
  intro p l e R s m args below meth c D A Fin ad0 nm0 h0 C RT H locs ad ac nm lsM U
  exact lv_iand C.1 C.2.1 hd (kk p l e R s m args below meth c D A Fin ad0 nm0 h0 C RT H locs ad ac nm lsM ⟨U.1, U.2.1, U.2.2.1, U.2.2.2.1, U.2.2.2.2.1, (oV_s (oV_t (oV_t U.2.2.2.2.2.1)) trivial), U.2.2.2.2.2.2⟩)
theorem wp_ior {x y : Int32} (hd : decode M.cc pc = .ok (.ior, 1)) (kk : WP M (pc + 1) ls (xi (x ||| y) :: st) h k Q) : WP M pc ls (xi y :: xi x :: st) h k Q := by
  intro p l e R s m args below meth c D A Fin ad0 nm0 h0 C RT H locs ad ac nm lsM U
  exact lv_ior C.1 C.2.1 hd (kk p l e R s m args below meth c D A Fin ad0 nm0 h0 C RT H locs ad ac nm lsM ⟨U.1, U.2.1, U.2.2.1, U.2.2.2.1, U.2.2.2.2.1, (oV_s (oV_t (oV_t U.2.2.2.2.2.1)) trivial), U.2.2.2.2.2.2⟩)
theorem wp_idiv {x y : Int32} (hne : ¬ y = 0) (hd : decode M.cc pc = .ok (.idiv, 1)) (kk : WP M (pc + 1) ls (xi (x / y) :: st) h k Q) : WP M pc ls (xi y :: xi x :: st) h k Q := by
  intro p l e R s m args below meth c D A Fin ad0 nm0 h0 C RT H locs ad ac nm lsM U
  exact lv_idiv C.1 C.2.1 hd hne (kk p l e R s m args below meth c D A Fin ad0 nm0 h0 C RT H locs ad ac nm lsM ⟨U.1, U.2.1, U.2.2.1, U.2.2.2.1, U.2.2.2.2.1, (oV_s (oV_t (oV_t U.2.2.2.2.2.1)) trivial), U.2.2.2.2.2.2⟩)
theorem wp_irem {x y : Int32} (hne : ¬ y = 0) (hd : decode M.cc pc = .ok (.irem, 1)) (kk : WP M (pc + 1) ls (xi (x - x / y * y) :: st) h k Q) : WP M pc ls (xi y :: xi x :: st) h k Q := by
  intro p l e R s m args below meth c D A Fin ad0 nm0 h0 C RT H locs ad ac nm lsM U
  exact lv_irem C.1 C.2.1 hd hne (kk p l e R s m args below meth c D A Fin ad0 nm0 h0 C RT H locs ad ac nm lsM ⟨U.1, U.2.1, U.2.2.1, U.2.2.2.1, U.2.2.2.2.1, (oV_s (oV_t (oV_t U.2.2.2.2.2.1)) trivial), U.2.2.2.2.2.2⟩)
theorem wp_ishl {x y : Int32} (hd : decode M.cc pc = .ok (.ishl, 1)) (kk : WP M (pc + 1) ls (xi (x <<< (y &&& 31)) :: st) h k Q) : WP M pc ls (xi y :: xi x :: st) h k Q := by
  intro p l e R s m args below meth c D A Fin ad0 nm0 h0 C RT H locs ad ac nm lsM U
  exact lv_ishl C.1 C.2.1 hd (kk p l e R s m args below meth c D A Fin ad0 nm0 h0 C RT H locs ad ac nm lsM ⟨U.1, U.2.1, U.2.2.1, U.2.2.2.1, U.2.2.2.2.1, (oV_s (oV_t (oV_t U.2.2.2.2.2.1)) trivial), U.2.2.2.2.2.2⟩)
theorem wp_ishr {x y : Int32} (hd : decode M.cc pc = .ok (.ishr, 1)) (kk : WP M (pc + 1) ls (xi (x >>> (y &&& 31)) :: st) h k Q) : WP M pc ls (xi y :: xi x :: st) h k Q := by
  intro p l e R s m args below meth c D A Fin ad0 nm0 h0 C RT H locs ad ac nm lsM U
  exact lv_ishr C.1 C.2.1 hd (kk p l e R s m args below meth c D A Fin ad0 nm0 h0 C RT H locs ad ac nm lsM ⟨U.1, U.2.1, U.2.2.1, U.2.2.2.1, U.2.2.2.2.1, (oV_s (oV_t (oV_t U.2.2.2.2.2.1)) trivial), U.2.2.2.2.2.2⟩)
theorem wp_ladd {x y : Int64} (hd : decode M.cc pc = .ok (.ladd, 1)) (kk : WP M (pc + 1) ls (xl (x + y) :: st) h k Q) : WP M pc ls (xl y :: xl x :: st) h k Q := by
  intro p l e R s m args below meth c D A Fin ad0 nm0 h0 C RT H locs ad ac nm lsM U
  exact lv_ladd C.1 C.2.1 hd (kk p l e R s m args below meth c D A Fin ad0 nm0 h0 C RT H locs ad ac nm lsM ⟨U.1, U.2.1, U.2.2.1, U.2.2.2.1, U.2.2.2.2.1, (oV_s (oV_t (oV_t U.2.2.2.2.2.1)) trivial), U.2.2.2.2.2.2⟩)
theorem wp_lmul {x y : Int64} (hd : decode M.cc pc = .ok (.lmul, 1)) (kk : WP M (pc + 1) ls (xl (x * y) :: st) h k Q) : WP M pc ls (xl y :: xl x :: st) h k Q := by
  intro p l e R s m args below meth c D A Fin ad0 nm0 h0 C RT H locs ad ac nm lsM U
  exact lv_lmul C.1 C.2.1 hd (kk p l e R s m args below meth c D A Fin ad0 nm0 h0 C RT H locs ad ac nm lsM ⟨U.1, U.2.1, U.2.2.1, U.2.2.2.1, U.2.2.2.2.1, (oV_s (oV_t (oV_t U.2.2.2.2.2.1)) trivial), U.2.2.2.2.2.2⟩)
theorem wp_land {x y : Int64} (hd : decode M.cc pc = .ok (.land, 1)) (kk : WP M (pc + 1) ls (xl (x &&& y) :: st) h k Q) : WP M pc ls (xl y :: xl x :: st) h k Q := by
  intro p l e R s m args below meth c D A Fin ad0 nm0 h0 C RT H locs ad ac nm lsM U
  exact lv_land C.1 C.2.1 hd (kk p l e R s m args below meth c D A Fin ad0 nm0 h0 C RT H locs ad ac nm lsM ⟨U.1, U.2.1, U.2.2.1, U.2.2.2.1, U.2.2.2.2.1, (oV_s (oV_t (oV_t U.2.2.2.2.2.1)) trivial), U.2.2.2.2.2.2⟩)
theorem wp_lor {x y : Int64} (hd : decode M.cc pc = .ok (.lor, 1)) (kk : WP M (pc + 1) ls (xl (x ||| y) :: st) h k Q) : WP M pc ls (xl y :: xl x :: st) h k Q := by
  intro p l e R s m args below meth c D A Fin ad0 nm0 h0 C RT H locs ad ac nm lsM U
  exact lv_lor C.1 C.2.1 hd (kk p l e R s m args below meth c D A Fin ad0 nm0 h0 C RT H locs ad ac nm lsM ⟨U.1, U.2.1, U.2.2.1, U.2.2.2.1, U.2.2.2.2.1, (oV_s (oV_t (oV_t U.2.2.2.2.2.1)) trivial), U.2.2.2.2.2.2⟩)
theorem wp_ldiv {x y : Int64} (hne : ¬ y = 0) (hd : decode M.cc pc = .ok (.ldiv, 1)) (kk : WP M (pc + 1) ls (xl (x / y) :: st) h k Q) : WP M pc ls (xl y :: xl x :: st) h k Q := by
  intro p l e R s m args below meth c D A Fin ad0 nm0 h0 C RT H locs ad ac nm lsM U
  exact lv_ldiv C.1 C.2.1 hd hne (kk p l e R s m args below meth c D A Fin ad0 nm0 h0 C RT H locs ad ac nm lsM ⟨U.1, U.2.1, U.2.2.1, U.2.2.2.1, U.2.2.2.2.1, (oV_s (oV_t (oV_t U.2.2.2.2.2.1)) trivial), U.2.2.2.2.2.2⟩)
theorem wp_ineg {x : Int32} (hd : decode M.cc pc = .ok (.ineg, 1)) (kk : WP M (pc + 1) ls (xi (-x) :: st) h k Q) : WP M pc ls (xi x :: st) h k Q := by
  intro p l e R s m args below meth c D A Fin ad0 nm0 h0 C RT H locs ad ac nm lsM U
  exact lv_ineg C.1 C.2.1 hd (kk p l e R s m args below meth c D A Fin ad0 nm0 h0 C RT H locs ad ac nm lsM ⟨U.1, U.2.1, U.2.2.1, U.2.2.2.1, U.2.2.2.2.1, (oV_s (oV_t U.2.2.2.2.2.1) trivial), U.2.2.2.2.2.2⟩)
theorem wp_i2l {x : Int32} (hd : decode M.cc pc = .ok (.i2l, 1)) (kk : WP M (pc + 1) ls (xl x.toInt64 :: st) h k Q) : WP M pc ls (xi x :: st) h k Q := by
  intro p l e R s m args below meth c D A Fin ad0 nm0 h0 C RT H locs ad ac nm lsM U
  exact lv_i2l C.1 C.2.1 hd rfl (kk p l e R s m args below meth c D A Fin ad0 nm0 h0 C RT H locs ad ac nm lsM ⟨U.1, U.2.1, U.2.2.1, U.2.2.2.1, U.2.2.2.2.1, (oV_s (oV_t U.2.2.2.2.2.1) trivial), U.2.2.2.2.2.2⟩)
theorem wp_l2i {x : Int64} (hd : decode M.cc pc = .ok (.l2i, 1)) (kk : WP M (pc + 1) ls (xi x.toInt32 :: st) h k Q) : WP M pc ls (xl x :: st) h k Q := by
  intro p l e R s m args below meth c D A Fin ad0 nm0 h0 C RT H locs ad ac nm lsM U
  exact lv_l2i C.1 C.2.1 hd rfl (kk p l e R s m args below meth c D A Fin ad0 nm0 h0 C RT H locs ad ac nm lsM ⟨U.1, U.2.1, U.2.2.1, U.2.2.2.1, U.2.2.2.2.1, (oV_s (oV_t U.2.2.2.2.2.1) trivial), U.2.2.2.2.2.2⟩)
theorem wp_i2f {x : Int32} (hd : decode M.cc pc = .ok (.i2f, 1)) (kk : WP M (pc + 1) ls (xf (FP.i2f x) :: st) h k Q) : WP M pc ls (xi x :: st) h k Q := by
  intro p l e R s m args below meth c D A Fin ad0 nm0 h0 C RT H locs ad ac nm lsM U
  exact lv_i2f C.1 C.2.1 hd (kk p l e R s m args below meth c D A Fin ad0 nm0 h0 C RT H locs ad ac nm lsM ⟨U.1, U.2.1, U.2.2.1, U.2.2.2.1, U.2.2.2.2.1, (oV_s (oV_t U.2.2.2.2.2.1) trivial), U.2.2.2.2.2.2⟩)
theorem wp_f2i {x : UInt32} (hd : decode M.cc pc = .ok (.f2i, 1)) (kk : WP M (pc + 1) ls (xi (FP.f2i x) :: st) h k Q) : WP M pc ls (xf x :: st) h k Q := by
  intro p l e R s m args below meth c D A Fin ad0 nm0 h0 C RT H locs ad ac nm lsM U
  exact lv_f2i C.1 C.2.1 hd (kk p l e R s m args below meth c D A Fin ad0 nm0 h0 C RT H locs ad ac nm lsM ⟨U.1, U.2.1, U.2.2.1, U.2.2.2.1, U.2.2.2.2.1, (oV_s (oV_t U.2.2.2.2.2.1) trivial), U.2.2.2.2.2.2⟩)
theorem wp_fneg {x : UInt32} (hd : decode M.cc pc = .ok (.fneg, 1)) (kk : WP M (pc + 1) ls (xf (FP.fneg x) :: st) h k Q) : WP M pc ls (xf x :: st) h k Q := by
  intro p l e R s m args below meth c D A Fin ad0 nm0 h0 C RT H locs ad ac nm lsM U
  exact lv_fneg C.1 C.2.1 hd (kk p l e R s m args below meth c D A Fin ad0 nm0 h0 C RT H locs ad ac nm lsM ⟨U.1, U.2.1, U.2.2.1, U.2.2.2.1, U.2.2.2.2.1, (oV_s (oV_t U.2.2.2.2.2.1) trivial), U.2.2.2.2.2.2⟩)
theorem wp_fadd {x y : UInt32} (hne : vf_n32 (FP.fadd x y)) (hd : decode M.cc pc = .ok (.fadd, 1)) (kk : WP M (pc + 1) ls (xf (FP.fadd x y) :: st) h k Q) : WP M pc ls (xf y :: xf x :: st) h k Q := by
  intro p l e R s m args below meth c D A Fin ad0 nm0 h0 C RT H locs ad ac nm lsM U
  exact lv_fadd C.1 C.2.1 hd hne (kk p l e R s m args below meth c D A Fin ad0 nm0 h0 C RT H locs ad ac nm lsM ⟨U.1, U.2.1, U.2.2.1, U.2.2.2.1, U.2.2.2.2.1, (oV_s (oV_t (oV_t U.2.2.2.2.2.1)) trivial), U.2.2.2.2.2.2⟩)
theorem wp_fmul {x y : UInt32} (hne : vf_n32 (FP.fmul x y)) (hd : decode M.cc pc = .ok (.fmul, 1)) (kk : WP M (pc + 1) ls (xf (FP.fmul x y) :: st) h k Q) : WP M pc ls (xf y :: xf x :: st) h k Q := by
  intro p l e R s m args below meth c D A Fin ad0 nm0 h0 C RT H locs ad ac nm lsM U
  exact lv_fmul C.1 C.2.1 hd hne (kk p l e R s m args below meth c D A Fin ad0 nm0 h0 C RT H locs ad ac nm lsM ⟨U.1, U.2.1, U.2.2.1, U.2.2.2.1, U.2.2.2.2.1, (oV_s (oV_t (oV_t U.2.2.2.2.2.1)) trivial), U.2.2.2.2.2.2⟩)
theorem wp_fdiv {x y : UInt32} (hne : vf_n32 (FP.fdiv x y)) (hd : decode M.cc pc = .ok (.fdiv, 1)) (kk : WP M (pc + 1) ls (xf (FP.fdiv x y) :: st) h k Q) : WP M pc ls (xf y :: xf x :: st) h k Q := by
  intro p l e R s m args below meth c D A Fin ad0 nm0 h0 C RT H locs ad ac nm lsM U
  exact lv_fdiv C.1 C.2.1 hd hne (kk p l e R s m args below meth c D A Fin ad0 nm0 h0 C RT H locs ad ac nm lsM ⟨U.1, U.2.1, U.2.2.1, U.2.2.2.1, U.2.2.2.2.1, (oV_s (oV_t (oV_t U.2.2.2.2.2.1)) trivial), U.2.2.2.2.2.2⟩)
theorem wp_frem {x y : UInt32} (hne : vf_n32 (FP.frem x y)) (hd : decode M.cc pc = .ok (.frem, 1)) (kk : WP M (pc + 1) ls (xf (FP.frem x y) :: st) h k Q) : WP M pc ls (xf y :: xf x :: st) h k Q := by
  intro p l e R s m args below meth c D A Fin ad0 nm0 h0 C RT H locs ad ac nm lsM U
  exact lv_frem C.1 C.2.1 hd hne (kk p l e R s m args below meth c D A Fin ad0 nm0 h0 C RT H locs ad ac nm lsM ⟨U.1, U.2.1, U.2.2.1, U.2.2.2.1, U.2.2.2.2.1, (oV_s (oV_t (oV_t U.2.2.2.2.2.1)) trivial), U.2.2.2.2.2.2⟩)
theorem wp_lushr {x : Int64} {y : Int32} (hd : decode M.cc pc = .ok (.lushr, 1)) (kk : WP M (pc + 1) ls (xl ((x.toUInt64 >>> (y.toInt64.toUInt64 &&& Int64.toUInt64 63)).toInt64) :: st) h k Q) : WP M pc ls (xi y :: xl x :: st) h k Q := by
  intro p l e R s m args below meth c D A Fin ad0 nm0 h0 C RT H locs ad ac nm lsM U
  exact lv_lushr C.1 C.2.1 hd rfl (kk p l e R s m args below meth c D A Fin ad0 nm0 h0 C RT H locs ad ac nm lsM ⟨U.1, U.2.1, U.2.2.1, U.2.2.2.1, U.2.2.2.2.1, (oV_s (oV_t (oV_t U.2.2.2.2.2.1)) trivial), U.2.2.2.2.2.2⟩)
theorem wp_lshl {x : Int64} {y : Int32} (hd : decode M.cc pc = .ok (.lshl, 1)) (kk : WP M (pc + 1) ls (xl (x <<< (y.toInt64 &&& 63)) :: st) h k Q) : WP M pc ls (xi y :: xl x :: st) h k Q := by
  intro p l e R s m args below meth c D A Fin ad0 nm0 h0 C RT H locs ad ac nm lsM U
  exact lv_lshl C.1 C.2.1 hd rfl (kk p l e R s m args below meth c D A Fin ad0 nm0 h0 C RT H locs ad ac nm lsM ⟨U.1, U.2.1, U.2.2.1, U.2.2.2.1, U.2.2.2.2.1, (oV_s (oV_t (oV_t U.2.2.2.2.2.1)) trivial), U.2.2.2.2.2.2⟩)
theorem wp_lshr {x : Int64} {y : Int32} (hd : decode M.cc pc = .ok (.lshr, 1)) (kk : WP M (pc + 1) ls (xl (x >>> (y.toInt64 &&& 63)) :: st) h k Q) : WP M pc ls (xi y :: xl x :: st) h k Q := by
  intro p l e R s m args below meth c D A Fin ad0 nm0 h0 C RT H locs ad ac nm lsM U
  exact lv_lshr C.1 C.2.1 hd rfl (kk p l e R s m args below meth c D A Fin ad0 nm0 h0 C RT H locs ad ac nm lsM ⟨U.1, U.2.1, U.2.2.1, U.2.2.2.1, U.2.2.2.2.1, (oV_s (oV_t (oV_t U.2.2.2.2.2.1)) trivial), U.2.2.2.2.2.2⟩)
theorem wp_fcmp {x y : UInt32} {o : CmpOp} (hd : decode M.cc pc = .ok (.fcmp o, 1)) (kk : WP M (pc + 1) ls (xi (Op.cmpValue (FP.fcmp x y) o) :: st) h k Q) : WP M pc ls (xf y :: xf x :: st) h k Q := by
  intro p l e R s m args below meth c D A Fin ad0 nm0 h0 C RT H locs ad ac nm lsM U
  exact lv_fcmp C.1 C.2.1 hd (kk p l e R s m args below meth c D A Fin ad0 nm0 h0 C RT H locs ad ac nm lsM ⟨U.1, U.2.1, U.2.2.1, U.2.2.2.1, U.2.2.2.2.1, (oV_s (oV_t (oV_t U.2.2.2.2.2.1)) trivial), U.2.2.2.2.2.2⟩)
theorem wp_lcmp {x y : Int64} (hd : decode M.cc pc = .ok (.lcmp, 1)) (kk : WP M (pc + 1) ls (xi (lg_cmp x y) :: st) h k Q) : WP M pc ls (xl y :: xl x :: st) h k Q := by
  intro p l e R s m args below meth c D A Fin ad0 nm0 h0 C RT H locs ad ac nm lsM U
  exact W.lcmp C.1 C.2.1 hd (kk p l e R s m args below meth c D A Fin ad0 nm0 h0 C RT H locs ad ac nm lsM ⟨U.1, U.2.1, U.2.2.1, U.2.2.2.1, U.2.2.2.2.1, (oV_s (oV_t (oV_t U.2.2.2.2.2.1)) trivial), U.2.2.2.2.2.2⟩)
theorem cat1 (ad : xN → Nat) (v : xV) (h : ct2 v = false) : (cv ad v).category = 1 := by
  have e := ct2_cv ad v
  rw [h] at e
  rcases lv_cat (cv ad v) with h | h
  · exact h
  · rw [h] at e; cases e
theorem wp_dup {v : xV} (hc : ct2 v = false) (hd : decode M.cc pc = .ok (.dup, 1)) (kk : WP M (pc + 1) ls (v :: v :: st) h k Q) : WP M pc ls (v :: st) h k Q := by
  intro p l e R s m args below meth c D A Fin ad0 nm0 h0 C RT H locs ad ac nm lsM U
  exact lv_dup C.1 C.2.1 hd (cat1 ad v hc) (kk p l e R s m args below meth c D A Fin ad0 nm0 h0 C RT H locs ad ac nm lsM ⟨U.1, U.2.1, U.2.2.1, U.2.2.2.1, U.2.2.2.2.1, (oV_s U.2.2.2.2.2.1 (U.2.2.2.2.2.1 _ List.mem_cons_self)), U.2.2.2.2.2.2⟩)
theorem wp_pop {v : xV} (hc : ct2 v = false) (hd : decode M.cc pc = .ok (.pop, 1)) (kk : WP M (pc + 1) ls (st) h k Q) : WP M pc ls (v :: st) h k Q := by
  intro p l e R s m args below meth c D A Fin ad0 nm0 h0 C RT H locs ad ac nm lsM U
  exact lv_pop C.1 C.2.1 hd (cat1 ad v hc) (kk p l e R s m args below meth c D A Fin ad0 nm0 h0 C RT H locs ad ac nm lsM ⟨U.1, U.2.1, U.2.2.1, U.2.2.2.1, U.2.2.2.2.1, (oV_t U.2.2.2.2.2.1), U.2.2.2.2.2.2⟩)
theorem wp_dup2 {v w : xV} (hc : ct2 v = false) (hc2 : ct2 w = false) (hd : decode M.cc pc = .ok (.dup2, 1)) (kk : WP M (pc + 1) ls (v :: w :: v :: w :: st) h k Q) : WP M pc ls (v :: w :: st) h k Q := by
  intro p l e R s m args below meth c D A Fin ad0 nm0 h0 C RT H locs ad ac nm lsM U
  exact lv_dup2_11 C.1 C.2.1 hd (cat1 ad v hc) (cat1 ad w hc2) (kk p l e R s m args below meth c D A Fin ad0 nm0 h0 C RT H locs ad ac nm lsM ⟨U.1, U.2.1, U.2.2.1, U.2.2.2.1, U.2.2.2.2.1, (oV_s (oV_s U.2.2.2.2.2.1 (U.2.2.2.2.2.1 _ (List.mem_cons_of_mem _ List.mem_cons_self))) (U.2.2.2.2.2.1 _ List.mem_cons_self)), U.2.2.2.2.2.2⟩)
theorem wp_goto {off : Int} (t : Nat) (ht : (pc : Int) + off = (t : Int)) (hd : decode M.cc pc = .ok (.goto off, 3)) (kk : WP M t ls (st) h k Q) : WP M pc ls (st) h k Q := by
  intro p l e R s m args below meth c D A Fin ad0 nm0 h0 C RT H locs ad ac nm lsM U
  exact lv_goto C.1 C.2.1 hd ht (kk p l e R s m args below meth c D A Fin ad0 nm0 h0 C RT H locs ad ac nm lsM ⟨U.1, U.2.1, U.2.2.1, U.2.2.2.1, U.2.2.2.2.1, U.2.2.2.2.2.1, U.2.2.2.2.2.2⟩)
theorem wp_if_eq {x : Int32} {off : Int} (t : Nat) (ht : (pc : Int) + off = (t : Int)) (hd : decode M.cc pc = .ok (.ifCond .eq off, 3)) (kt : x = 0 → WP M t ls st h k Q) (kf : ¬ x = 0 → WP M (pc + 3) ls st h k Q) : WP M pc ls (xi x :: st) h k Q := by
  intro p l e R s m args below meth c D A Fin ad0 nm0 h0 C RT H locs ad ac nm lsM U
  exact lv_if_eq C.1 C.2.1 hd ht (fun c0 => kt c0 p l e R s m args below meth c D A Fin ad0 nm0 h0 C RT H locs ad ac nm lsM ⟨U.1, U.2.1, U.2.2.1, U.2.2.2.1, U.2.2.2.2.1, (oV_t U.2.2.2.2.2.1), U.2.2.2.2.2.2⟩) (fun c0 => kf c0 p l e R s m args below meth c D A Fin ad0 nm0 h0 C RT H locs ad ac nm lsM ⟨U.1, U.2.1, U.2.2.1, U.2.2.2.1, U.2.2.2.2.1, (oV_t U.2.2.2.2.2.1), U.2.2.2.2.2.2⟩)
theorem wp_icmp_eq {x y : Int32} {off : Int} (t : Nat) (ht : (pc : Int) + off = (t : Int)) (hd : decode M.cc pc = .ok (.if_icmp .eq off, 3)) (kt : x = y → WP M t ls st h k Q) (kf : ¬ x = y → WP M (pc + 3) ls st h k Q) : WP M pc ls (xi y :: xi x :: st) h k Q := by
  intro p l e R s m args below meth c D A Fin ad0 nm0 h0 C RT H locs ad ac nm lsM U
  exact lv_icmp_eq C.1 C.2.1 hd ht (fun c0 => kt c0 p l e R s m args below meth c D A Fin ad0 nm0 h0 C RT H locs ad ac nm lsM ⟨U.1, U.2.1, U.2.2.1, U.2.2.2.1, U.2.2.2.2.1, (oV_t (oV_t U.2.2.2.2.2.1)), U.2.2.2.2.2.2⟩) (fun c0 => kf c0 p l e R s m args below meth c D A Fin ad0 nm0 h0 C RT H locs ad ac nm lsM ⟨U.1, U.2.1, U.2.2.1, U.2.2.2.1, U.2.2.2.2.1, (oV_t (oV_t U.2.2.2.2.2.1)), U.2.2.2.2.2.2⟩)
theorem wp_if_ne {x : Int32} {off : Int} (t : Nat) (ht : (pc : Int) + off = (t : Int)) (hd : decode M.cc pc = .ok (.ifCond .ne off, 3)) (kt : ¬ x = 0 → WP M t ls st h k Q) (kf : x = 0 → WP M (pc + 3) ls st h k Q) : WP M pc ls (xi x :: st) h k Q := by
  intro p l e R s m args below meth c D A Fin ad0 nm0 h0 C RT H locs ad ac nm lsM U
  exact lv_if_ne C.1 C.2.1 hd ht (fun c0 => kt c0 p l e R s m args below meth c D A Fin ad0 nm0 h0 C RT H locs ad ac nm lsM ⟨U.1, U.2.1, U.2.2.1, U.2.2.2.1, U.2.2.2.2.1, (oV_t U.2.2.2.2.2.1), U.2.2.2.2.2.2⟩) (fun c0 => kf c0 p l e R s m args below meth c D A Fin ad0 nm0 h0 C RT H locs ad ac nm lsM ⟨U.1, U.2.1, U.2.2.1, U.2.2.2.1, U.2.2.2.2.1, (oV_t U.2.2.2.2.2.1), U.2.2.2.2.2.2⟩)
theorem wp_icmp_ne {x y : Int32} {off : Int} (t : Nat) (ht : (pc : Int) + off = (t : Int)) (hd : decode M.cc pc = .ok (.if_icmp .ne off, 3)) (kt : ¬ x = y → WP M t ls st h k Q) (kf : x = y → WP M (pc + 3) ls st h k Q) : WP M pc ls (xi y :: xi x :: st) h k Q := by
  intro p l e R s m args below meth c D A Fin ad0 nm0 h0 C RT H locs ad ac nm lsM U
  exact lv_icmp_ne C.1 C.2.1 hd ht (fun c0 => kt c0 p l e R s m args below meth c D A Fin ad0 nm0 h0 C RT H locs ad ac nm lsM ⟨U.1, U.2.1, U.2.2.1, U.2.2.2.1, U.2.2.2.2.1, (oV_t (oV_t U.2.2.2.2.2.1)), U.2.2.2.2.2.2⟩) (fun c0 => kf c0 p l e R s m args below meth c D A Fin ad0 nm0 h0 C RT H locs ad ac nm lsM ⟨U.1, U.2.1, U.2.2.1, U.2.2.2.1, U.2.2.2.2.1, (oV_t (oV_t U.2.2.2.2.2.1)), U.2.2.2.2.2.2⟩)
theorem wp_if_lt {x : Int32} {off : Int} (t : Nat) (ht : (pc : Int) + off = (t : Int)) (hd : decode M.cc pc = .ok (.ifCond .lt off, 3)) (kt : x < 0 → WP M t ls st h k Q) (kf : ¬ x < 0 → WP M (pc + 3) ls st h k Q) : WP M pc ls (xi x :: st) h k Q := by
  intro p l e R s m args below meth c D A Fin ad0 nm0 h0 C RT H locs ad ac nm lsM U
  exact lv_if_lt C.1 C.2.1 hd ht (fun c0 => kt c0 p l e R s m args below meth c D A Fin ad0 nm0 h0 C RT H locs ad ac nm lsM ⟨U.1, U.2.1, U.2.2.1, U.2.2.2.1, U.2.2.2.2.1, (oV_t U.2.2.2.2.2.1), U.2.2.2.2.2.2⟩) (fun c0 => kf c0 p l e R s m args below meth c D A Fin ad0 nm0 h0 C RT H locs ad ac nm lsM ⟨U.1, U.2.1, U.2.2.1, U.2.2.2.1, U.2.2.2.2.1, (oV_t U.2.2.2.2.2.1), U.2.2.2.2.2.2⟩)
theorem wp_icmp_lt {x y : Int32} {off : Int} (t : Nat) (ht : (pc : Int) + off = (t : Int)) (hd : decode M.cc pc = .ok (.if_icmp .lt off, 3)) (kt : x < y → WP M t ls st h k Q) (kf : ¬ x < y → WP M (pc + 3) ls st h k Q) : WP M pc ls (xi y :: xi x :: st) h k Q := by
  intro p l e R s m args below meth c D A Fin ad0 nm0 h0 C RT H locs ad ac nm lsM U
  exact lv_icmp_lt C.1 C.2.1 hd ht (fun c0 => kt c0 p l e R s m args below meth c D A Fin ad0 nm0 h0 C RT H locs ad ac nm lsM ⟨U.1, U.2.1, U.2.2.1, U.2.2.2.1, U.2.2.2.2.1, (oV_t (oV_t U.2.2.2.2.2.1)), U.2.2.2.2.2.2⟩) (fun c0 => kf c0 p l e R s m args below meth c D A Fin ad0 nm0 h0 C RT H locs ad ac nm lsM ⟨U.1, U.2.1, U.2.2.1, U.2.2.2.1, U.2.2.2.2.1, (oV_t (oV_t U.2.2.2.2.2.1)), U.2.2.2.2.2.2⟩)
theorem wp_if_ge {x : Int32} {off : Int} (t : Nat) (ht : (pc : Int) + off = (t : Int)) (hd : decode M.cc pc = .ok (.ifCond .ge off, 3)) (kt : 0 ≤ x → WP M t ls st h k Q) (kf : ¬ 0 ≤ x → WP M (pc + 3) ls st h k Q) : WP M pc ls (xi x :: st) h k Q := by
  intro p l e R s m args below meth c D A Fin ad0 nm0 h0 C RT H locs ad ac nm lsM U
  exact lv_if_ge C.1 C.2.1 hd ht (fun c0 => kt c0 p l e R s m args below meth c D A Fin ad0 nm0 h0 C RT H locs ad ac nm lsM ⟨U.1, U.2.1, U.2.2.1, U.2.2.2.1, U.2.2.2.2.1, (oV_t U.2.2.2.2.2.1), U.2.2.2.2.2.2⟩) (fun c0 => kf c0 p l e R s m args below meth c D A Fin ad0 nm0 h0 C RT H locs ad ac nm lsM ⟨U.1, U.2.1, U.2.2.1, U.2.2.2.1, U.2.2.2.2.1, (oV_t U.2.2.2.2.2.1), U.2.2.2.2.2.2⟩)
theorem wp_icmp_ge {x y : Int32} {off : Int} (t : Nat) (ht : (pc : Int) + off = (t : Int)) (hd : decode M.cc pc = .ok (.if_icmp .ge off, 3)) (kt : y ≤ x → WP M t ls st h k Q) (kf : ¬ y ≤ x → WP M (pc + 3) ls st h k Q) : WP M pc ls (xi y :: xi x :: st) h k Q := by
  intro p l e R s m args below meth c D A Fin ad0 nm0 h0 C RT H locs ad ac nm lsM U
  exact lv_icmp_ge C.1 C.2.1 hd ht (fun c0 => kt c0 p l e R s m args below meth c D A Fin ad0 nm0 h0 C RT H locs ad ac nm lsM ⟨U.1, U.2.1, U.2.2.1, U.2.2.2.1, U.2.2.2.2.1, (oV_t (oV_t U.2.2.2.2.2.1)), U.2.2.2.2.2.2⟩) (fun c0 => kf c0 p l e R s m args below meth c D A Fin ad0 nm0 h0 C RT H locs ad ac nm lsM ⟨U.1, U.2.1, U.2.2.1, U.2.2.2.1, U.2.2.2.2.1, (oV_t (oV_t U.2.2.2.2.2.1)), U.2.2.2.2.2.2⟩)
theorem wp_if_gt {x : Int32} {off : Int} (t : Nat) (ht : (pc : Int) + off = (t : Int)) (hd : decode M.cc pc = .ok (.ifCond .gt off, 3)) (kt : 0 < x → WP M t ls st h k Q) (kf : ¬ 0 < x → WP M (pc + 3) ls st h k Q) : WP M pc ls (xi x :: st) h k Q := by
  intro p l e R s m args below meth c D A Fin ad0 nm0 h0 C RT H locs ad ac nm lsM U
  exact lv_if_gt C.1 C.2.1 hd ht (fun c0 => kt c0 p l e R s m args below meth c D A Fin ad0 nm0 h0 C RT H locs ad ac nm lsM ⟨U.1, U.2.1, U.2.2.1, U.2.2.2.1, U.2.2.2.2.1, (oV_t U.2.2.2.2.2.1), U.2.2.2.2.2.2⟩) (fun c0 => kf c0 p l e R s m args below meth c D A Fin ad0 nm0 h0 C RT H locs ad ac nm lsM ⟨U.1, U.2.1, U.2.2.1, U.2.2.2.1, U.2.2.2.2.1, (oV_t U.2.2.2.2.2.1), U.2.2.2.2.2.2⟩)
theorem wp_icmp_gt {x y : Int32} {off : Int} (t : Nat) (ht : (pc : Int) + off = (t : Int)) (hd : decode M.cc pc = .ok (.if_icmp .gt off, 3)) (kt : y < x → WP M t ls st h k Q) (kf : ¬ y < x → WP M (pc + 3) ls st h k Q) : WP M pc ls (xi y :: xi x :: st) h k Q := by
  intro p l e R s m args below meth c D A Fin ad0 nm0 h0 C RT H locs ad ac nm lsM U
  exact lv_icmp_gt C.1 C.2.1 hd ht (fun c0 => kt c0 p l e R s m args below meth c D A Fin ad0 nm0 h0 C RT H locs ad ac nm lsM ⟨U.1, U.2.1, U.2.2.1, U.2.2.2.1, U.2.2.2.2.1, (oV_t (oV_t U.2.2.2.2.2.1)), U.2.2.2.2.2.2⟩) (fun c0 => kf c0 p l e R s m args below meth c D A Fin ad0 nm0 h0 C RT H locs ad ac nm lsM ⟨U.1, U.2.1, U.2.2.1, U.2.2.2.1, U.2.2.2.2.1, (oV_t (oV_t U.2.2.2.2.2.1)), U.2.2.2.2.2.2⟩)
theorem wp_if_le {x : Int32} {off : Int} (t : Nat) (ht : (pc : Int) + off = (t : Int)) (hd : decode M.cc pc = .ok (.ifCond .le off, 3)) (kt : x ≤ 0 → WP M t ls st h k Q) (kf : ¬ x ≤ 0 → WP M (pc + 3) ls st h k Q) : WP M pc ls (xi x :: st) h k Q := by
  intro p l e R s m args below meth c D A Fin ad0 nm0 h0 C RT H locs ad ac nm lsM U
  exact lv_if_le C.1 C.2.1 hd ht (fun c0 => kt c0 p l e R s m args below meth c D A Fin ad0 nm0 h0 C RT H locs ad ac nm lsM ⟨U.1, U.2.1, U.2.2.1, U.2.2.2.1, U.2.2.2.2.1, (oV_t U.2.2.2.2.2.1), U.2.2.2.2.2.2⟩) (fun c0 => kf c0 p l e R s m args below meth c D A Fin ad0 nm0 h0 C RT H locs ad ac nm lsM ⟨U.1, U.2.1, U.2.2.1, U.2.2.2.1, U.2.2.2.2.1, (oV_t U.2.2.2.2.2.1), U.2.2.2.2.2.2⟩)
theorem wp_icmp_le {x y : Int32} {off : Int} (t : Nat) (ht : (pc : Int) + off = (t : Int)) (hd : decode M.cc pc = .ok (.if_icmp .le off, 3)) (kt : x ≤ y → WP M t ls st h k Q) (kf : ¬ x ≤ y → WP M (pc + 3) ls st h k Q) : WP M pc ls (xi y :: xi x :: st) h k Q := by
  intro p l e R s m args below meth c D A Fin ad0 nm0 h0 C RT H locs ad ac nm lsM U
  exact lv_icmp_le C.1 C.2.1 hd ht (fun c0 => kt c0 p l e R s m args below meth c D A Fin ad0 nm0 h0 C RT H locs ad ac nm lsM ⟨U.1, U.2.1, U.2.2.1, U.2.2.2.1, U.2.2.2.2.1, (oV_t (oV_t U.2.2.2.2.2.1)), U.2.2.2.2.2.2⟩) (fun c0 => kf c0 p l e R s m args below meth c D A Fin ad0 nm0 h0 C RT H locs ad ac nm lsM ⟨U.1, U.2.1, U.2.2.1, U.2.2.2.1, U.2.2.2.2.1, (oV_t (oV_t U.2.2.2.2.2.1)), U.2.2.2.2.2.2⟩)
theorem wp_ifnull {n : xN} {off : Int} (t : Nat) (ht : (pc : Int) + off = (t : Int)) (hd : decode M.cc pc = .ok (.ifnull off, 3)) (kt : n.1 = 0 → WP M t ls st h k Q) (kf : ¬ n.1 = 0 → WP M (pc + 3) ls st h k Q) : WP M pc ls (xr n :: st) h k Q := by
  intro p l e R s m args below meth c D A Fin ad0 nm0 h0 C RT H locs ad ac nm lsM U
  show W p l e R s m args below meth c H locs k (1500 * k) Fin (F0 m pc lsM (cv ad (xr n) :: st.map (cv ad)))
  by_cases hz : n.1 = 0
  · rw [show cv ad (xr n) = Value.null by simp [cv, op, hz, va_rf]]
    exact lv_ifnullN C.1 C.2.1 hd ht (kt hz p l e R s m args below meth c D A Fin ad0 nm0 h0 C RT H locs ad ac nm lsM ⟨U.1, U.2.1, U.2.2.1, U.2.2.2.1, U.2.2.2.2.1, (oV_t U.2.2.2.2.2.1), U.2.2.2.2.2.2⟩)
  · rw [show cv ad (xr n) = Value.ref (ad n) by simp [cv, op, hz, va_rf]]
    exact lv_ifnull C.1 C.2.1 hd (kf hz p l e R s m args below meth c D A Fin ad0 nm0 h0 C RT H locs ad ac nm lsM ⟨U.1, U.2.1, U.2.2.1, U.2.2.2.1, U.2.2.2.2.1, (oV_t U.2.2.2.2.2.1), U.2.2.2.2.2.2⟩)
theorem wp_ifnonnull {n : xN} {off : Int} (t : Nat) (ht : (pc : Int) + off = (t : Int)) (hd : decode M.cc pc = .ok (.ifnonnull off, 3)) (kt : ¬ n.1 = 0 → WP M t ls st h k Q) (kf : n.1 = 0 → WP M (pc + 3) ls st h k Q) : WP M pc ls (xr n :: st) h k Q := by
  intro p l e R s m args below meth c D A Fin ad0 nm0 h0 C RT H locs ad ac nm lsM U
  show W p l e R s m args below meth c H locs k (1500 * k) Fin (F0 m pc lsM (cv ad (xr n) :: st.map (cv ad)))
  by_cases hz : n.1 = 0
  · rw [show cv ad (xr n) = Value.null by simp [cv, op, hz, va_rf]]
    exact lv_ifnonnullN C.1 C.2.1 hd (kf hz p l e R s m args below meth c D A Fin ad0 nm0 h0 C RT H locs ad ac nm lsM ⟨U.1, U.2.1, U.2.2.1, U.2.2.2.1, U.2.2.2.2.1, (oV_t U.2.2.2.2.2.1), U.2.2.2.2.2.2⟩)
  · rw [show cv ad (xr n) = Value.ref (ad n) by simp [cv, op, hz, va_rf]]
    exact lv_ifnonnull C.1 C.2.1 hd ht (kt hz p l e R s m args below meth c D A Fin ad0 nm0 h0 C RT H locs ad ac nm lsM ⟨U.1, U.2.1, U.2.2.1, U.2.2.2.1, U.2.2.2.2.1, (oV_t U.2.2.2.2.2.1), U.2.2.2.2.2.2⟩)
theorem wl_get {ad : xN → Nat} {ac : xN → ClassId} {nm : List xN} {n : xN} (hn : n ∈ nm) (h : xH) : ∃ q0 : Nat, (wl ad ac h nm)[q0]? = some (ad n, ce ad ac h n) ∧ nm[q0]? = some n := by
  obtain ⟨q, hq⟩ := List.getElem?_of_mem hn
  exact ⟨q, by simp [wl, hq], hq⟩
theorem wl_inj {A : Nat → Prop} {ad : xN → Nat} {ac : xN → ClassId} {nm : List xN} {h : xH} (hD : va_D A (wl ad ac h nm)) {n1 n2 : xN} (h1 : n1 ∈ nm) (h2 : n2 ∈ nm) (e : ad n1 = ad n2) : n1 = n2 := by
  obtain ⟨q1, a1, b1⟩ := wl_get (ad := ad) (ac := ac) h1 h
  obtain ⟨q2, a2, b2⟩ := wl_get (ad := ad) (ac := ac) h2 h
  have := hD.1 q1 q2 _ _ a1 a2 e
  subst this
  rw [b1] at b2
  exact Option.some.inj b2
theorem oV_in {nm : List xN} {n : xN} (h : oV nm (xr n)) (h2 : 2 ≤ n.1) : n ∈ nm := by
  rcases h with h | h | h
  · omega
  · omega
  · exact h
theorem op_some {ad : xN → Nat} {n : xN} (h2 : 2 ≤ n.1) : op ad n = some (ad n) := by
  unfold op
  rw [if_neg (by omega)]
theorem cv_ref {ad : xN → Nat} {n : xN} (h2 : 2 ≤ n.1) : cv ad (xr n) = .ref (ad n) := by
  show va_rf (op ad n) = _
  rw [op_some h2]
  rfl
theorem wp_acmp_ne {n1 n2 : xN} (h1 : 2 ≤ n1.1) (h2 : 2 ≤ n2.1) {off : Int} (t : Nat) (ht : (pc : Int) + off = (t : Int)) (hd : decode M.cc pc = .ok (.if_acmp .ne off, 3)) (kt : ¬ n1 = n2 → WP M t ls st h k Q) (kf : n1 = n2 → WP M (pc + 3) ls st h k Q) : WP M pc ls (xr n2 :: xr n1 :: st) h k Q := by
  intro p l e R s m args below meth c D A Fin ad0 nm0 h0 C RT H locs ad ac nm lsM U
  have m2 := oV_in (U.2.2.2.2.2.1 _ List.mem_cons_self) h2
  have m1 := oV_in (U.2.2.2.2.2.1 _ (List.mem_cons_of_mem _ List.mem_cons_self)) h1
  refine lv_acmp_ne (rx := op ad n1) (ry := op ad n2) C.1 C.2.1 hd ht (fun c0 => kt (fun e => c0 (by rw [e])) p l e R s m args below meth c D A Fin ad0 nm0 h0 C RT H locs ad ac nm lsM ⟨U.1, U.2.1, U.2.2.1, U.2.2.2.1, U.2.2.2.2.1, (oV_t (oV_t U.2.2.2.2.2.1)), U.2.2.2.2.2.2⟩) (fun c0 => kf ?_ p l e R s m args below meth c D A Fin ad0 nm0 h0 C RT H locs ad ac nm lsM ⟨U.1, U.2.1, U.2.2.1, U.2.2.2.1, U.2.2.2.2.1, (oV_t (oV_t U.2.2.2.2.2.1)), U.2.2.2.2.2.2⟩)
  rw [op_some h1, op_some h2] at c0
  exact wl_inj U.1.2.1 m1 m2 (Option.some.inj c0)
def tsw (pc : Nat) (lo : Int) (offs : List Int) : List (Int32 × Nat) := (List.range offs.length).map (fun (j : Nat) => (Int32.ofInt (lo + (j : Int)), ((pc : Int) + offs.getD j 0).toNat))
theorem wp_tsw {x : Int32} {df lo hi : Int} {offs : Array Int} {len : Nat} (hd : decode M.cc pc = .ok (.tableswitch df lo hi offs, len)) (cs : List (Int32 × Nat)) (t : Nat) (ht : (pc : Int) + df = (t : Int)) (hc : tsw pc lo offs.toList = cs) (hb : hi = lo + (offs.toList.length : Int) - 1 ∧ -2147483648 ≤ lo ∧ hi ≤ 2147483647 ∧ (offs.toList.all fun o => decide (0 ≤ (pc : Int) + o)) = true)
    (kin : ∀ q ∈ cs, x = q.1 → WP M q.2 ls st h k Q) (kout : (∀ q ∈ cs.map (·.1), x ≠ q) → WP M t ls st h k Q) : WP M pc ls (xi x :: st) h k Q := by
  intro p l e R s m args below meth c D A Fin ad0 nm0 h0 C RT H locs ad ac nm lsM U
  by_cases hr : x.toInt < lo ∨ hi < x.toInt
  · refine lv_tableOut C.1 C.2.1 hd hr ht (kout ?_ p l e R s m args below meth c D A Fin ad0 nm0 h0 C RT H locs ad ac nm lsM ⟨U.1, U.2.1, U.2.2.1, U.2.2.2.1, U.2.2.2.2.1, (oV_t U.2.2.2.2.2.1), U.2.2.2.2.2.2⟩)
    intro q hq
    subst hc
    rw [tsw, List.map_map] at hq
    obtain ⟨j, hj, rfl⟩ := List.mem_map.mp hq
    have hj := List.mem_range.mp hj
    intro e
    have : x.toInt = lo + (j : Int) := by
      rw [e]
      show (Int32.ofInt (lo + (j : Int))).toInt = _
      rw [Int32.toInt_ofInt_of_le (by omega) (by omega)]
    omega
  · have h1 : ¬ x.toInt < lo := fun z => hr (Or.inl z)
    have h2 : ¬ hi < x.toInt := fun z => hr (Or.inr z)
    have hlt : (x.toInt - lo).toNat < offs.toList.length := by omega
    have ho : offs[(x.toInt - lo).toNat]? = some (offs.toList.getD (x.toInt - lo).toNat 0) := by
      rw [← Array.getElem?_toList, List.getD_eq_getElem?_getD, List.getElem?_eq_getElem hlt]; rfl
    have hge : 0 ≤ (pc : Int) + offs.toList.getD (x.toInt - lo).toNat 0 := by
      have := List.all_eq_true.mp hb.2.2.2 (offs.toList.getD (x.toInt - lo).toNat 0) (by rw [List.getD_eq_getElem?_getD, List.getElem?_eq_getElem hlt]; exact List.getElem_mem hlt)
      exact of_decide_eq_true this
    refine lv_tableIn C.1 C.2.1 hd h1 h2 ho (tgt := ((pc : Int) + offs.toList.getD (x.toInt - lo).toNat 0).toNat) (by omega) ?_
    refine kin (x, ((pc : Int) + offs.toList.getD (x.toInt - lo).toNat 0).toNat) ?_ rfl p l e R s m args below meth c D A Fin ad0 nm0 h0 C RT H locs ad ac nm lsM ⟨U.1, U.2.1, U.2.2.1, U.2.2.2.1, U.2.2.2.2.1, (oV_t U.2.2.2.2.2.1), U.2.2.2.2.2.2⟩
    rw [← hc, tsw]
    refine List.mem_map.mpr ⟨(x.toInt - lo).toNat, List.mem_range.mpr hlt, ?_⟩
    rw [show lo + ((x.toInt - lo).toNat : Int) = x.toInt by omega, Int32.ofInt_toInt]
theorem hS_sI (h : xH) (n : xN) (j : Nat) (x : Int32) : hS (sI h n j x) = hS h := rfl
theorem hR_sI (h : xH) (n : xN) (j : Nat) (x : Int32) : hR (sI h n j x) = hR h := rfl
theorem hS_sR (h : xH) (n : xN) (j : Nat) (x : xN) : hS (sR h n j x) = hS h := rfl
theorem hI_sR (h : xH) (n : xN) (j : Nat) (x : xN) : hI (sR h n j x) = hI h := rfl
theorem hI_sI (h : xH) (n : xN) (j : Nat) (x : Int32) (n' : xN) (j' : Nat) : hI (sI h n j x) n' j' = if n' = n ∧ j' = j then x else hI h n' j' := rfl
theorem hR_sR (h : xH) (n : xN) (j : Nat) (x : xN) (n' : xN) (j' : Nat) : hR (sR h n j x) n' j' = if n' = n ∧ j' = j then x else hR h n' j' := rfl
theorem hI_sI_ne (h : xH) {n n' : xN} (j : Nat) (x : Int32) (e : n' ≠ n) : hI (sI h n j x) n' = hI h n' := by
  funext i
  rw [hI_sI, if_neg (fun q => e q.1)]
theorem hR_sR_ne (h : xH) {n n' : xN} (j : Nat) (x : xN) (e : n' ≠ n) : hR (sR h n j x) n' = hR h n' := by
  funext i
  rw [hR_sR, if_neg (fun q => e q.1)]
theorem ce_congr {ad ad' : xN → Nat} {ac ac' : xN → ClassId} {h h' : xH} {n : xN} (e1 : hS h' n = hS h n) (e2 : hI h' n = hI h n) (e3 : ∀ j, op ad' (hR h' n j) = op ad (hR h n j)) (e4 : ac' n = ac n) : ce ad' ac' h' n = ce ad ac h n := by
  have e5 : ∀ ci j, fv ad' h' n ci j = fv ad h n ci j := by
    intro ci j
    unfold fv
    rw [e2, e3 j]
  have e6 : ∀ ci, fl ad' h' n ci = fl ad h n ci := by
    intro ci
    unfold fl
    exact congrArg (fun f => List.map f (List.range (nF ci))) (funext (e5 ci))
  unfold ce
  rw [e6, e1, e2, e4]
  simp only [e3]
theorem wl_set {ad : xN → Nat} {ac : xN → ClassId} {h h' : xH} {nm : List xN} {n : xN} {q0 : Nat} {e : va_E} (hnd : nm.Nodup) (hq : nm[q0]? = some n) (ho : ∀ n', n' ≠ n → ce ad ac h' n' = ce ad ac h n') (he : e = ce ad ac h' n) : (wl ad ac h nm).set q0 (ad n, e) = wl ad ac h' nm := by
  subst he
  apply List.ext_getElem?
  intro i
  obtain ⟨hlt, hq'⟩ := List.getElem?_eq_some_iff.mp hq
  by_cases hi : i = q0
  · subst hi
    rw [List.getElem?_set_self (by simpa [wl] using hlt)]
    simp [wl, hq]
  · rw [List.getElem?_set_ne (fun z => hi z.symm)]
    simp only [wl, List.getElem?_map]
    cases hx : nm[i]? with
    | none => rfl
    | some n' =>
      have hne : n' ≠ n := by
        intro e
        subst e
        obtain ⟨hl2, hx'⟩ := List.getElem?_eq_some_iff.mp hx
        exact hi ((List.getElem_inj hnd).mp (hx'.trans hq'.symm))
      simp only [Option.map_some]
      rw [ho n' hne]
theorem fl_set {ad : xN → Nat} {h h' : xH} {n : xN} {ci j : Nat} {v : Value} (hj : fv ad h' n ci j = v) (ho : ∀ i, i ≠ j → fv ad h' n ci i = fv ad h n ci i) : (fl ad h n ci).set j v = fl ad h' n ci := by
  apply List.ext_getElem?
  intro i
  by_cases hi : i = j
  · subst hi
    by_cases hl : i < nF ci
    · rw [List.getElem?_set_self (by simpa [fl] using hl)]
      simp [fl, hl, hj]
    · simp [fl, hl]
  · rw [List.getElem?_set_ne (fun z => hi z.symm)]
    simp only [fl, List.getElem?_map]
    by_cases hl : i < nF ci
    · simp [hl, ho i hi]
    · simp [hl]
theorem fl_get {ad : xN → Nat} {h : xH} {n : xN} {ci j : Nat} (hj : j < nF ci) : (fl ad h n ci)[j]? = some (fv ad h n ci j) := by simp [fl, hj]
theorem fl_len {ad : xN → Nat} {h : xH} {n : xN} {ci : Nat} : (fl ad h n ci).length = nF ci := by simp [fl]
theorem ce_obj {ad : xN → Nat} {ac : xN → ClassId} {h : xH} {n : xN} {ci : Nat} (hn : kd n.1 = (1, ci)) : ce ad ac h n = .inr (ci, fl ad h n ci) := by
  unfold ce
  rw [hn]
  rfl
theorem kd_ge {n : xN} {t ci : Nat} (hn : kd n.1 = (t, ci)) (h1 : 1 ≤ t) (h2 : t ≤ 5) : 2 ≤ n.1 := by
  rcases Nat.lt_or_ge n.1 2 with h | h
  · have : n.1 = 0 ∨ n.1 = 1 := by omega
    rcases this with e | e <;> rw [e] at hn
    · have : (0, 0) = (t, ci) := hn
      cases this
      omega
    · have : (6, 0) = (t, ci) := hn
      cases this
      omega
  · exact h
/-- what is known of a class -/
def CO (ci : Nat) (C : String) (T : u_T) (N : Nat) (ty : Nat → FieldType) : Prop :=
  vwCl[ci]? = some (C, T, N) ∧ nF ci = N ∧ (∀ w ∈ u_ws C T N, w ∈ gw) ∧ (∀ k, k < N → parseFieldDescriptor (T k).2.2.1 = some (ty k)) ∧ (∀ a, a < N → ∀ b, b < N → a ≠ b → (T a).2.1 ≠ (T b).2.1)
theorem wp_geti {ci : Nat} {C0 : String} {T : u_T} {N : Nat} {ty : Nat → FieldType} (K : CO ci C0 T N ty) {idx : Nat} (j : Nat) (hj : j < N) (hl : Cond.fieldLink M.y.cls idx (T j).1 (T j).2.1 (T j).2.2.1 ∈ gw) {n : xN} (hr : isR ci j = false) (hn : kd n.1 = (1, ci)) (hd : decode M.cc pc = .ok (.getfield idx, 3)) (kk : WP M (pc + 3) ls (xi (hI h n j) :: st) h k Q) : WP M pc ls (xr n :: st) h k Q := by
  intro p l e R s m args below meth c D A Fin ad0 nm0 h0 C RT H locs ad ac nm lsM U
  have h2 := kd_ge hn (by omega) (by omega)
  have hm := oV_in (U.2.2.2.2.2.1 _ List.mem_cons_self) h2
  obtain ⟨q0, e1, -⟩ := wl_get (ad := ad) (ac := ac) hm h
  rw [ce_obj hn] at e1
  show W p l e R s m args below meth c H locs k (1500 * k) Fin (F0 m pc lsM (cv ad (xr n) :: st.map (cv ad)))
  rw [cv_ref h2]
  exact va_get C.1 C.2.1 C.2.2.2.2.1 K.2.2.1 C.2.2.2.1 C.2.2.2.2.2.1.1 U.1.1 q0 e1 K.1 j hj (C.2.2.2.2.1 _ hl) (fun _ z => z) (v := .int (hI h n j)) (by rw [fl_get (by rw [K.2.1]; exact hj)]; simp [fv, hr]) hd (kk p l e R s m args below meth c D A Fin ad0 nm0 h0 C RT H locs ad ac nm lsM ⟨U.1, U.2.1, U.2.2.1, U.2.2.2.1, U.2.2.2.2.1, (oV_s (oV_t U.2.2.2.2.2.1) trivial), U.2.2.2.2.2.2⟩)
theorem wp_getr {ci : Nat} {C0 : String} {T : u_T} {N : Nat} {ty : Nat → FieldType} (K : CO ci C0 T N ty) {idx : Nat} (j : Nat) (hj : j < N) (hl : Cond.fieldLink M.y.cls idx (T j).1 (T j).2.1 (T j).2.2.1 ∈ gw) {n : xN} (hr : isR ci j = true) (hn : kd n.1 = (1, ci)) (hd : decode M.cc pc = .ok (.getfield idx, 3)) (kk : WP M (pc + 3) ls (xr (hR h n j) :: st) h k Q) : WP M pc ls (xr n :: st) h k Q := by
  intro p l e R s m args below meth c D A Fin ad0 nm0 h0 C RT H locs ad ac nm lsM U
  have h2 := kd_ge hn (by omega) (by omega)
  have hm := oV_in (U.2.2.2.2.2.1 _ List.mem_cons_self) h2
  obtain ⟨q0, e1, -⟩ := wl_get (ad := ad) (ac := ac) hm h
  rw [ce_obj hn] at e1
  show W p l e R s m args below meth c H locs k (1500 * k) Fin (F0 m pc lsM (cv ad (xr n) :: st.map (cv ad)))
  rw [cv_ref h2]
  exact va_get C.1 C.2.1 C.2.2.2.2.1 K.2.2.1 C.2.2.2.1 C.2.2.2.2.2.1.1 U.1.1 q0 e1 K.1 j hj (C.2.2.2.2.1 _ hl) (fun _ z => z) (v := va_rf (op ad (hR h n j))) (by rw [fl_get (by rw [K.2.1]; exact hj)]; simp [fv, hr]) hd (kk p l e R s m args below meth c D A Fin ad0 nm0 h0 C RT H locs ad ac nm lsM ⟨U.1, U.2.1, U.2.2.1, U.2.2.2.1, U.2.2.2.2.1, (oV_s (oV_t U.2.2.2.2.2.1) ((U.1.2.2.2.1.2.2 n hm j).elim Or.inl (fun z => Or.inr (Or.inr z)))), U.2.2.2.2.2.2⟩)
theorem nf_ref (ty : FieldType) (h : (∃ c, ty = .object c) ∨ ∃ t, ty = .array t) (o : Option Nat) : narrow ty (va_rf o) = va_rf o ∧ fits ty (va_rf o) = true := by
  rcases h with ⟨_, rfl⟩ | ⟨_, rfl⟩ <;> cases o <;> exact ⟨rfl, rfl⟩
theorem Pu_sI {h : xH} {nm : List xN} (n : xN) (j : Nat) (x : Int32) (P : Pu h nm) : Pu (sI h n j x) nm := P
theorem Pu_sR {h : xH} {nm : List xN} (n : xN) (j : Nat) {r : xN} (P : Pu h nm) (hr : oN nm r) : Pu (sR h n j r) nm := by
  refine ⟨P.1, P.2.1, fun n' hn' j' => ?_⟩
  rw [hR_sR]
  split
  · exact hr
  · exact P.2.2 n' hn' j'
theorem Ext_sI {ad0 ad : xN → Nat} {nm0 nm : List xN} {h0 h : xH} {n : xN} (j : Nat) (x : Int32) (h2 : 2 ≤ n.1) (E : Ext ad0 nm0 h0 ad nm h) : Ext ad0 nm0 h0 ad nm (sI h n j x) := by
  refine ⟨E.1, E.2.1, E.2.2.1, fun j' => ?_⟩
  rw [hI_sI, if_neg (fun z => by have := congrArg Prod.fst z.1; simp at this; omega)]
  exact E.2.2.2 j'
theorem SX_sI {M : xM} {A : Nat → Prop} {s : State} {ad : xN → Nat} {h : xH} {n : xN} (j : Nat) (x : Int32) (h2 : 2 ≤ n.1) (E : SX M A s ad h) : SX M A s ad (sI h n j x) := by
  intro hM
  have := E hM
  rw [hS_sI, hI_sI_ne h j x (n' := (1, 0)) (fun z => by have := congrArg Prod.fst z; simp at this; omega)]
  exact this
theorem Ab_sI {D : va_G} {A : Nat → Prop} {s : State} {H H1 : Heap} {locs locs1 : List Loc} {h : xH} {ad : xN → Nat} {ac : xN → ClassId} {nm : List xN} {n : xN} {j q0 : Nat} {x : Int32} {e : va_E} (B : Ab D A s H locs h ad ac nm) (hq : nm[q0]? = some n) (he : e = ce ad ac (sI h n j x) n) (hP : va_P D vwCl ((wl ad ac h nm).set q0 (ad n, e)) H1) (hD : va_D A ((wl ad ac h nm).set q0 (ad n, e))) (hS1 : va_S A s.heap H1 locs1) : Ab D A s H1 locs1 (sI h n j x) ad ac nm := by
  rw [wl_set (h := h) B.2.2.2.1.1 hq (h' := sI h n j x) (fun n' hn' => ce_congr rfl (hI_sI_ne h j x hn') (fun _ => rfl) rfl) he] at hP hD
  exact ⟨hP, hD, hS1, B.2.2.2.1, B.2.2.2.2⟩
theorem Ab_sR {D : va_G} {A : Nat → Prop} {s : State} {H H1 : Heap} {locs locs1 : List Loc} {h : xH} {ad : xN → Nat} {ac : xN → ClassId} {nm : List xN} {n : xN} {j q0 : Nat} {r : xN} {e : va_E} (B : Ab D A s H locs h ad ac nm) (hq : nm[q0]? = some n) (hr : oN nm r) (he : e = ce ad ac (sR h n j r) n) (hP : va_P D vwCl ((wl ad ac h nm).set q0 (ad n, e)) H1) (hD : va_D A ((wl ad ac h nm).set q0 (ad n, e))) (hS1 : va_S A s.heap H1 locs1) : Ab D A s H1 locs1 (sR h n j r) ad ac nm := by
  rw [wl_set (h := h) B.2.2.2.1.1 hq (h' := sR h n j r) (fun n' hn' => ce_congr rfl rfl (fun i => by rw [hR_sR_ne h j r hn']) rfl) he] at hP hD
  exact ⟨hP, hD, hS1, Pu_sR n j B.2.2.2.1 hr, B.2.2.2.2⟩
theorem oN_of {nm : List xN} {r : xN} (h : oV nm (xr r)) (h1 : r.1 ≠ 1) : oN nm r := by
  rcases h with h | h | h
  · exact Or.inl h
  · exact absurd h h1
  · exact Or.inr h
theorem wp_puti {ci : Nat} {C0 : String} {T : u_T} {N : Nat} {ty : Nat → FieldType} (K : CO ci C0 T N ty) {idx : Nat} (j : Nat) (hj : j < N) (hl : Cond.fieldLink M.y.cls idx (T j).1 (T j).2.1 (T j).2.2.1 ∈ gw) {n : xN} {x : Int32} (hr : isR ci j = false) (hfin : (T j).2.2.2 = false) (hnf : narrow (ty j) (.int x) = .int x ∧ fits (ty j) (.int x) = true) (hn : kd n.1 = (1, ci)) (hd : decode M.cc pc = .ok (.putfield idx, 3)) (kk : WP M (pc + 3) ls st (sI h n j x) k Q) : WP M pc ls (xi x :: xr n :: st) h k Q := by
  intro p l e R s m args below meth c D A Fin ad0 nm0 h0 C RT H locs ad ac nm lsM U
  have h2 := kd_ge hn (by omega) (by omega)
  have hm := oV_in (U.2.2.2.2.2.1 _ (List.mem_cons_of_mem _ List.mem_cons_self)) h2
  obtain ⟨q0, e1, e2⟩ := wl_get (ad := ad) (ac := ac) hm h
  rw [ce_obj hn] at e1
  show W p l e R s m args below meth c H locs k (1500 * k) Fin (F0 m pc lsM (Value.int x :: cv ad (xr n) :: st.map (cv ad)))
  rw [cv_ref h2]
  refine va_put C.1 C.2.1 C.2.2.2.2.1 K.2.2.1 ty K.2.2.2.1 K.2.2.2.2 C.2.2.2.1 C.2.2.2.2.2.1.1 U.1.1 U.1.2.1 U.1.2.2.1 q0 e1 K.1 j hj (C.2.2.2.2.1 _ hl) (fun _ z => z) hfin (K.2.2.2.1 j hj) hnf.1 hnf.2 (by rw [fl_len, K.2.1]; exact hj) hd (fun H1 locs1 hP hD hS1 => kk p l e R s m args below meth c D A Fin ad0 nm0 h0 C RT H1 locs1 ad ac nm lsM ⟨Ab_sI U.1 e2 ?_ hP hD hS1, Ext_sI j x h2 U.2.1, SX_sI j x h2 U.2.2.1, U.2.2.2.1, U.2.2.2.2.1, (oV_t (oV_t U.2.2.2.2.2.1)), U.2.2.2.2.2.2⟩)
  rw [ce_obj hn, fl_set (h' := sI h n j x)]
  · simp [fv, hr, hI_sI]
  · intro i hi
    have e9 : hI (sI h n j x) n i = hI h n i := by rw [hI_sI, if_neg (fun z => hi z.2)]
    simp only [fv, e9, hR_sI]
theorem wp_putr {ci : Nat} {C0 : String} {T : u_T} {N : Nat} {ty : Nat → FieldType} (K : CO ci C0 T N ty) {idx : Nat} (j : Nat) (hj : j < N) (hl : Cond.fieldLink M.y.cls idx (T j).1 (T j).2.1 (T j).2.2.1 ∈ gw) {n r : xN} (hr : isR ci j = true) (hfin : (T j).2.2.2 = false) (hty : (∃ c, ty j = .object c) ∨ ∃ t, ty j = .array t) (hn : kd n.1 = (1, ci)) (h1 : r.1 ≠ 1) (hd : decode M.cc pc = .ok (.putfield idx, 3)) (kk : WP M (pc + 3) ls st (sR h n j r) k Q) : WP M pc ls (xr r :: xr n :: st) h k Q := by
  intro p l e R s m args below meth c D A Fin ad0 nm0 h0 C RT H locs ad ac nm lsM U
  have h2 := kd_ge hn (by omega) (by omega)
  have hm := oV_in (U.2.2.2.2.2.1 _ (List.mem_cons_of_mem _ List.mem_cons_self)) h2
  have ho := oN_of (U.2.2.2.2.2.1 _ List.mem_cons_self) h1
  obtain ⟨q0, e1, e2⟩ := wl_get (ad := ad) (ac := ac) hm h
  rw [ce_obj hn] at e1
  have hnf := nf_ref (ty j) hty (op ad r)
  show W p l e R s m args below meth c H locs k (1500 * k) Fin (F0 m pc lsM (va_rf (op ad r) :: cv ad (xr n) :: st.map (cv ad)))
  rw [cv_ref h2]
  refine va_put C.1 C.2.1 C.2.2.2.2.1 K.2.2.1 ty K.2.2.2.1 K.2.2.2.2 C.2.2.2.1 C.2.2.2.2.2.1.1 U.1.1 U.1.2.1 U.1.2.2.1 q0 e1 K.1 j hj (C.2.2.2.2.1 _ hl) (fun _ z => z) hfin (K.2.2.2.1 j hj) hnf.1 hnf.2 (by rw [fl_len, K.2.1]; exact hj) hd (fun H1 locs1 hP hD hS1 => kk p l e R s m args below meth c D A Fin ad0 nm0 h0 C RT H1 locs1 ad ac nm lsM ⟨Ab_sR U.1 e2 ho ?_ hP hD hS1, U.2.1, U.2.2.1, U.2.2.2.1, U.2.2.2.2.1, (oV_t (oV_t U.2.2.2.2.2.1)), U.2.2.2.2.2.2⟩)
  rw [ce_obj hn, fl_set (h' := sR h n j r)]
  · simp [fv, hr, hR_sR]
  · intro i hi
    have e9 : hR (sR h n j r) n i = hR h n i := by rw [hR_sR, if_neg (fun z => hi z.2)]
    simp only [fv, e9, hI_sR]
theorem wp_putiF {ci : Nat} {C0 : String} {T : u_T} {N : Nat} {ty : Nat → FieldType} (K : CO ci C0 T N ty) {idx : Nat} (j : Nat) (hj : j < N) (hl : Cond.fieldLink M.y.cls idx (T j).1 (T j).2.1 (T j).2.2.1 ∈ gw) {n : xN} {x : Int32} (hr : isR ci j = false) (hfin : (T j).2.2.2 = true) (hin : M.y.name = "<init>" ∧ M.y.cls ≠ "ToteHouseLaw") (hdc : (T j).1 = M.y.cls) (hnf : narrow (ty j) (.int x) = .int x ∧ fits (ty j) (.int x) = true) (hn : kd n.1 = (1, ci)) (hd : decode M.cc pc = .ok (.putfield idx, 3)) (kk : WP M (pc + 3) ls st (sI h n j x) k Q) : WP M pc ls (xi x :: xr n :: st) h k Q := by
  intro p l e R s m args below meth c D A Fin ad0 nm0 h0 C RT H locs ad ac nm lsM U
  have h2 := kd_ge hn (by omega) (by omega)
  have hm := oV_in (U.2.2.2.2.2.1 _ (List.mem_cons_of_mem _ List.mem_cons_self)) h2
  obtain ⟨q0, e1, e2⟩ := wl_get (ad := ad) (ac := ac) hm h
  rw [ce_obj hn] at e1
  show W p l e R s m args below meth c H locs k (1500 * k) Fin (F0 m pc lsM (Value.int x :: cv ad (xr n) :: st.map (cv ad)))
  rw [cv_ref h2]
  refine va_putF C.1 C.2.1 C.2.2.2.2.1 K.2.2.1 ty K.2.2.2.1 K.2.2.2.2 C.2.2.2.1 C.2.2.2.2.2.1.1 U.1.1 U.1.2.1 U.1.2.2.1 q0 e1 K.1 j hj (C.2.2.2.2.1 _ hl) (fun _ z => z) hfin ((C.2.2.2.2.2.2.2.2 hin.2).trans hin.1) hdc (K.2.2.2.1 j hj) hnf.1 hnf.2 (by rw [fl_len, K.2.1]; exact hj) hd (fun H1 locs1 hP hD hS1 => kk p l e R s m args below meth c D A Fin ad0 nm0 h0 C RT H1 locs1 ad ac nm lsM ⟨Ab_sI U.1 e2 ?_ hP hD hS1, Ext_sI j x h2 U.2.1, SX_sI j x h2 U.2.2.1, U.2.2.2.1, U.2.2.2.2.1, (oV_t (oV_t U.2.2.2.2.2.1)), U.2.2.2.2.2.2⟩)
  rw [ce_obj hn, fl_set (h' := sI h n j x)]
  · simp [fv, hr, hI_sI]
  · intro i hi
    have e9 : hI (sI h n j x) n i = hI h n i := by rw [hI_sI, if_neg (fun z => hi z.2)]
    simp only [fv, e9, hR_sI]
theorem wp_putrF {ci : Nat} {C0 : String} {T : u_T} {N : Nat} {ty : Nat → FieldType} (K : CO ci C0 T N ty) {idx : Nat} (j : Nat) (hj : j < N) (hl : Cond.fieldLink M.y.cls idx (T j).1 (T j).2.1 (T j).2.2.1 ∈ gw) {n r : xN} (hr : isR ci j = true) (hfin : (T j).2.2.2 = true) (hin : M.y.name = "<init>" ∧ M.y.cls ≠ "ToteHouseLaw") (hdc : (T j).1 = M.y.cls) (hty : (∃ c, ty j = .object c) ∨ ∃ t, ty j = .array t) (hn : kd n.1 = (1, ci)) (h1 : r.1 ≠ 1) (hd : decode M.cc pc = .ok (.putfield idx, 3)) (kk : WP M (pc + 3) ls st (sR h n j r) k Q) : WP M pc ls (xr r :: xr n :: st) h k Q := by
  intro p l e R s m args below meth c D A Fin ad0 nm0 h0 C RT H locs ad ac nm lsM U
  have h2 := kd_ge hn (by omega) (by omega)
  have hm := oV_in (U.2.2.2.2.2.1 _ (List.mem_cons_of_mem _ List.mem_cons_self)) h2
  have ho := oN_of (U.2.2.2.2.2.1 _ List.mem_cons_self) h1
  obtain ⟨q0, e1, e2⟩ := wl_get (ad := ad) (ac := ac) hm h
  rw [ce_obj hn] at e1
  have hnf := nf_ref (ty j) hty (op ad r)
  show W p l e R s m args below meth c H locs k (1500 * k) Fin (F0 m pc lsM (va_rf (op ad r) :: cv ad (xr n) :: st.map (cv ad)))
  rw [cv_ref h2]
  refine va_putF C.1 C.2.1 C.2.2.2.2.1 K.2.2.1 ty K.2.2.2.1 K.2.2.2.2 C.2.2.2.1 C.2.2.2.2.2.1.1 U.1.1 U.1.2.1 U.1.2.2.1 q0 e1 K.1 j hj (C.2.2.2.2.1 _ hl) (fun _ z => z) hfin ((C.2.2.2.2.2.2.2.2 hin.2).trans hin.1) hdc (K.2.2.2.1 j hj) hnf.1 hnf.2 (by rw [fl_len, K.2.1]; exact hj) hd (fun H1 locs1 hP hD hS1 => kk p l e R s m args below meth c D A Fin ad0 nm0 h0 C RT H1 locs1 ad ac nm lsM ⟨Ab_sR U.1 e2 ho ?_ hP hD hS1, U.2.1, U.2.2.1, U.2.2.2.1, U.2.2.2.2.1, (oV_t (oV_t U.2.2.2.2.2.1)), U.2.2.2.2.2.2⟩)
  rw [ce_obj hn, fl_set (h' := sR h n j r)]
  · simp [fv, hr, hR_sR]
  · intro i hi
    have e9 : hR (sR h n j r) n i = hR h n i := by rw [hR_sR, if_neg (fun z => hi z.2)]
    simp only [fv, e9, hI_sR]
theorem ce_arr {ad : xN → Nat} {ac : xN → ClassId} {h : xH} {n : xN} {t ci : Nat} (hn : kd n.1 = (t, ci)) (ht : t = 2 ∨ t = 3) : ce ad ac h n = .inl (ac n, hS h n - 1, .inl (hI h n)) := by
  unfold ce
  rw [hn]
  rcases ht with rfl | rfl <;> rfl
theorem ce_arrF {ad : xN → Nat} {ac : xN → ClassId} {h : xH} {n : xN} {ci : Nat} (hn : kd n.1 = (4, ci)) : ce ad ac h n = .inl (ac n, hS h n - 1, .inr (.inr (.inl (fun j => (hI h n j).toUInt32)))) := by
  unfold ce
  rw [hn]
  rfl
theorem ce_arrR {ad : xN → Nat} {ac : xN → ClassId} {h : xH} {n : xN} {ci : Nat} (hn : kd n.1 = (5, ci)) : ce ad ac h n = .inl (ac n, hS h n - 1, .inr (.inr (.inr (.inr (fun j => op ad (hR h n j)))))) := by
  unfold ce
  rw [hn]
  rfl
theorem va_K1 {D : va_G} {s : State} {cA : ClassId} {ty : FieldType} (hK : va_K D vwCl [] s) (h : ArrOfT s cA ty ∧ va_RA s cA ty) : va_K D vwCl [(cA, ty)] s := by
  refine ⟨hK.1, fun k q hk => ?_⟩
  have hz : k < 1 := (List.getElem?_eq_some_iff.mp hk).1
  rw [show k = 0 by omega] at hk
  cases hk
  exact h
theorem aTy_of {n : xN} {t ci : Nat} (hn : kd n.1 = (t, ci)) : aTy n.1 = tyOf t ci := by
  unfold aTy
  rw [hn]
theorem upd_hI (h : xH) (n : xN) (j : Nat) (x : Int32) : upd (hI h n) j x = hI (sI h n j x) n := by
  funext i
  rw [hI_sI]
  unfold upd
  simp
theorem zo_nar {x : Int32} (h : x = 0 ∨ x = 1) : vp_nar .boolean x = x := by rcases h with rfl | rfl <;> decide
theorem wp_iaload {n : xN} {i : Int32} {ci : Nat} (hn : kd n.1 = (2, ci)) (hi : vp_in i (hS h n - 1)) (hd : decode M.cc pc = .ok (.iaload, 1)) (kk : WP M (pc + 1) ls (xi (hI h n i.toNatClampNeg) :: st) h k Q) : WP M pc ls (xi i :: xr n :: st) h k Q := by
  intro p l e R s m args below meth c D A Fin ad0 nm0 h0 C RT H locs ad ac nm lsM U
  have h2 := kd_ge hn (by omega) (by omega)
  have hm := oV_in (U.2.2.2.2.2.1 _ (List.mem_cons_of_mem _ List.mem_cons_self)) h2
  obtain ⟨q0, e1, -⟩ := wl_get (ad := ad) (ac := ac) hm h
  rw [ce_arr hn (Or.inl rfl)] at e1
  have ha := U.1.2.2.2.2 n hm (by rw [hn]; simp)
  rw [aTy_of hn] at ha
  show W p l e R s m args below meth c H locs k (1500 * k) Fin (F0 m pc lsM (Value.int i :: cv ad (xr n) :: st.map (cv ad)))
  rw [cv_ref h2]
  exact va_iald C.1 C.2.1 (va_K1 C.2.2.2.2.2.1.1 ha) U.1.1 q0 0 e1 rfl hi hd (kk p l e R s m args below meth c D A Fin ad0 nm0 h0 C RT H locs ad ac nm lsM ⟨U.1, U.2.1, U.2.2.1, U.2.2.2.1, U.2.2.2.2.1, (oV_s (oV_t (oV_t U.2.2.2.2.2.1)) trivial), U.2.2.2.2.2.2⟩)
theorem wp_baload {n : xN} {i : Int32} {ci : Nat} (hn : kd n.1 = (3, ci)) (hi : vp_in i (hS h n - 1)) (hd : decode M.cc pc = .ok (.baload, 1)) (kk : WP M (pc + 1) ls (xi (hI h n i.toNatClampNeg) :: st) h k Q) : WP M pc ls (xi i :: xr n :: st) h k Q := by
  intro p l e R s m args below meth c D A Fin ad0 nm0 h0 C RT H locs ad ac nm lsM U
  have h2 := kd_ge hn (by omega) (by omega)
  have hm := oV_in (U.2.2.2.2.2.1 _ (List.mem_cons_of_mem _ List.mem_cons_self)) h2
  obtain ⟨q0, e1, -⟩ := wl_get (ad := ad) (ac := ac) hm h
  rw [ce_arr hn (Or.inr rfl)] at e1
  have ha := U.1.2.2.2.2 n hm (by rw [hn]; simp)
  rw [aTy_of hn] at ha
  show W p l e R s m args below meth c H locs k (1500 * k) Fin (F0 m pc lsM (Value.int i :: cv ad (xr n) :: st.map (cv ad)))
  rw [cv_ref h2]
  exact va_zald C.1 C.2.1 (va_K1 C.2.2.2.2.2.1.1 ha) U.1.1 q0 0 e1 rfl hi hd (kk p l e R s m args below meth c D A Fin ad0 nm0 h0 C RT H locs ad ac nm lsM ⟨U.1, U.2.1, U.2.2.1, U.2.2.2.1, U.2.2.2.2.1, (oV_s (oV_t (oV_t U.2.2.2.2.2.1)) trivial), U.2.2.2.2.2.2⟩)
theorem wp_faload {n : xN} {i : Int32} {ci : Nat} (hn : kd n.1 = (4, ci)) (hi : vp_in i (hS h n - 1)) (hd : decode M.cc pc = .ok (.faload, 1)) (kk : WP M (pc + 1) ls (xf (hI h n i.toNatClampNeg).toUInt32 :: st) h k Q) : WP M pc ls (xi i :: xr n :: st) h k Q := by
  intro p l e R s m args below meth c D A Fin ad0 nm0 h0 C RT H locs ad ac nm lsM U
  have h2 := kd_ge hn (by omega) (by omega)
  have hm := oV_in (U.2.2.2.2.2.1 _ (List.mem_cons_of_mem _ List.mem_cons_self)) h2
  obtain ⟨q0, e1, -⟩ := wl_get (ad := ad) (ac := ac) hm h
  rw [ce_arrF hn] at e1
  have ha := U.1.2.2.2.2 n hm (by rw [hn]; simp)
  rw [aTy_of hn] at ha
  show W p l e R s m args below meth c H locs k (1500 * k) Fin (F0 m pc lsM (Value.int i :: cv ad (xr n) :: st.map (cv ad)))
  rw [cv_ref h2]
  exact va_fald C.1 C.2.1 (va_K1 C.2.2.2.2.2.1.1 ha) U.1.1 q0 0 e1 rfl hi hd (kk p l e R s m args below meth c D A Fin ad0 nm0 h0 C RT H locs ad ac nm lsM ⟨U.1, U.2.1, U.2.2.1, U.2.2.2.1, U.2.2.2.2.1, (oV_s (oV_t (oV_t U.2.2.2.2.2.1)) trivial), U.2.2.2.2.2.2⟩)
theorem wp_aaload {n : xN} {i : Int32} {ci : Nat} (hn : kd n.1 = (5, ci)) (hi : vp_in i (hS h n - 1)) (hd : decode M.cc pc = .ok (.aaload, 1)) (kk : WP M (pc + 1) ls (xr (hR h n i.toNatClampNeg) :: st) h k Q) : WP M pc ls (xi i :: xr n :: st) h k Q := by
  intro p l e R s m args below meth c D A Fin ad0 nm0 h0 C RT H locs ad ac nm lsM U
  have h2 := kd_ge hn (by omega) (by omega)
  have hm := oV_in (U.2.2.2.2.2.1 _ (List.mem_cons_of_mem _ List.mem_cons_self)) h2
  obtain ⟨q0, e1, -⟩ := wl_get (ad := ad) (ac := ac) hm h
  rw [ce_arrR hn] at e1
  have ha := U.1.2.2.2.2 n hm (by rw [hn]; simp)
  rw [aTy_of hn] at ha
  show W p l e R s m args below meth c H locs k (1500 * k) Fin (F0 m pc lsM (Value.int i :: cv ad (xr n) :: st.map (cv ad)))
  rw [cv_ref h2]
  exact va_aldq C.1 C.2.1 (va_K1 C.2.2.2.2.2.1.1 ha) U.1.1 q0 0 e1 rfl hi hd (kk p l e R s m args below meth c D A Fin ad0 nm0 h0 C RT H locs ad ac nm lsM ⟨U.1, U.2.1, U.2.2.1, U.2.2.2.1, U.2.2.2.2.1, (oV_s (oV_t (oV_t U.2.2.2.2.2.1)) ((U.1.2.2.2.1.2.2 n hm i.toNatClampNeg).elim Or.inl (fun z => Or.inr (Or.inr z)))), U.2.2.2.2.2.2⟩)
theorem wp_alen {n : xN} {t ci : Nat} (hn : kd n.1 = (t, ci)) (ht : 2 ≤ t ∧ t ≤ 5) {v : Int32} (hv : Int32.ofNat (hS h n - 1) = v) (hd : decode M.cc pc = .ok (.arraylength, 1)) (kk : WP M (pc + 1) ls (xi v :: st) h k Q) : WP M pc ls (xr n :: st) h k Q := by
  intro p l e R s m args below meth c D A Fin ad0 nm0 h0 C RT H locs ad ac nm lsM U
  have h2 := kd_ge hn (by omega) (by omega)
  have hm := oV_in (U.2.2.2.2.2.1 _ List.mem_cons_self) h2
  obtain ⟨q0, e1, -⟩ := wl_get (ad := ad) (ac := ac) hm h
  have ha := U.1.2.2.2.2 n hm (by rw [hn]; simp; omega)
  unfold ce at e1
  rw [if_neg (by rw [hn]; simp; omega)] at e1
  show W p l e R s m args below meth c H locs k (1500 * k) Fin (F0 m pc lsM (cv ad (xr n) :: st.map (cv ad)))
  rw [cv_ref h2]
  exact va_alen C.1 C.2.1 (va_K1 C.2.2.2.2.2.1.1 ha) U.1.1 q0 0 e1 rfl hv hd (kk p l e R s m args below meth c D A Fin ad0 nm0 h0 C RT H locs ad ac nm lsM ⟨U.1, U.2.1, U.2.2.1, U.2.2.2.1, U.2.2.2.2.1, (oV_s (oV_t U.2.2.2.2.2.1) trivial), U.2.2.2.2.2.2⟩)
theorem wp_iastore {n : xN} {i : Int32} {x : Int32} {ci : Nat} (hn : kd n.1 = (2, ci)) (hi : vp_in i (hS h n - 1)) (hd : decode M.cc pc = .ok (.iastore, 1)) (kk : WP M (pc + 1) ls st (sI h n i.toNatClampNeg x) k Q) : WP M pc ls (xi x :: xi i :: xr n :: st) h k Q := by
  intro p l e R s m args below meth c D A Fin ad0 nm0 h0 C RT H locs ad ac nm lsM U
  have h2 := kd_ge hn (by omega) (by omega)
  have hm := oV_in (U.2.2.2.2.2.1 _ (List.mem_cons_of_mem _ (List.mem_cons_of_mem _ List.mem_cons_self))) h2
  obtain ⟨q0, e1, e2⟩ := wl_get (ad := ad) (ac := ac) hm h
  rw [ce_arr hn (Or.inl rfl)] at e1
  have ha := U.1.2.2.2.2 n hm (by rw [hn]; simp)
  rw [aTy_of hn] at ha
  show W p l e R s m args below meth c H locs k (1500 * k) Fin (F0 m pc lsM (cv ad (xi x) :: Value.int i :: cv ad (xr n) :: st.map (cv ad)))
  rw [cv_ref h2]
  refine va_iast C.1 C.2.1 (va_K1 C.2.2.2.2.2.1.1 ha) U.1.1 U.1.2.1 U.1.2.2.1 q0 0 e1 rfl hi hd (fun H1 locs1 hP hD hS1 => kk p l e R s m args below meth c D A Fin ad0 nm0 h0 C RT H1 locs1 ad ac nm lsM ⟨Ab_sI U.1 e2 ?_ hP hD hS1, Ext_sI _ _ h2 U.2.1, SX_sI _ _ h2 U.2.2.1, U.2.2.2.1, U.2.2.2.2.1, (oV_t (oV_t (oV_t U.2.2.2.2.2.1))), U.2.2.2.2.2.2⟩)
  rw [ce_arr hn (Or.inl rfl), upd_hI, hS_sI]
theorem wp_bastore {n : xN} {i : Int32} {x : Int32} (hx : x = 0 ∨ x = 1) {ci : Nat} (hn : kd n.1 = (3, ci)) (hi : vp_in i (hS h n - 1)) (hd : decode M.cc pc = .ok (.bastore, 1)) (kk : WP M (pc + 1) ls st (sI h n i.toNatClampNeg x) k Q) : WP M pc ls (xi x :: xi i :: xr n :: st) h k Q := by
  intro p l e R s m args below meth c D A Fin ad0 nm0 h0 C RT H locs ad ac nm lsM U
  have h2 := kd_ge hn (by omega) (by omega)
  have hm := oV_in (U.2.2.2.2.2.1 _ (List.mem_cons_of_mem _ (List.mem_cons_of_mem _ List.mem_cons_self))) h2
  obtain ⟨q0, e1, e2⟩ := wl_get (ad := ad) (ac := ac) hm h
  rw [ce_arr hn (Or.inr rfl)] at e1
  have ha := U.1.2.2.2.2 n hm (by rw [hn]; simp)
  rw [aTy_of hn] at ha
  show W p l e R s m args below meth c H locs k (1500 * k) Fin (F0 m pc lsM (cv ad (xi x) :: Value.int i :: cv ad (xr n) :: st.map (cv ad)))
  rw [cv_ref h2]
  refine va_zast C.1 C.2.1 (va_K1 C.2.2.2.2.2.1.1 ha) U.1.1 U.1.2.1 U.1.2.2.1 q0 0 e1 rfl hi hd (fun H1 locs1 hP hD hS1 => kk p l e R s m args below meth c D A Fin ad0 nm0 h0 C RT H1 locs1 ad ac nm lsM ⟨Ab_sI U.1 e2 ?_ hP hD hS1, Ext_sI _ _ h2 U.2.1, SX_sI _ _ h2 U.2.2.1, U.2.2.2.1, U.2.2.2.2.1, (oV_t (oV_t (oV_t U.2.2.2.2.2.1))), U.2.2.2.2.2.2⟩)
  rw [ce_arr hn (Or.inr rfl), zo_nar hx, upd_hI, hS_sI]
theorem wp_fastore {n : xN} {i : Int32} {x : UInt32} {ci : Nat} (hn : kd n.1 = (4, ci)) (hi : vp_in i (hS h n - 1)) (hd : decode M.cc pc = .ok (.fastore, 1)) (kk : WP M (pc + 1) ls st (sI h n i.toNatClampNeg x.toInt32) k Q) : WP M pc ls (xf x :: xi i :: xr n :: st) h k Q := by
  intro p l e R s m args below meth c D A Fin ad0 nm0 h0 C RT H locs ad ac nm lsM U
  have h2 := kd_ge hn (by omega) (by omega)
  have hm := oV_in (U.2.2.2.2.2.1 _ (List.mem_cons_of_mem _ (List.mem_cons_of_mem _ List.mem_cons_self))) h2
  obtain ⟨q0, e1, e2⟩ := wl_get (ad := ad) (ac := ac) hm h
  rw [ce_arrF hn] at e1
  have ha := U.1.2.2.2.2 n hm (by rw [hn]; simp)
  rw [aTy_of hn] at ha
  show W p l e R s m args below meth c H locs k (1500 * k) Fin (F0 m pc lsM (cv ad (xf x) :: Value.int i :: cv ad (xr n) :: st.map (cv ad)))
  rw [cv_ref h2]
  refine va_fast C.1 C.2.1 (va_K1 C.2.2.2.2.2.1.1 ha) U.1.1 U.1.2.1 U.1.2.2.1 q0 0 e1 rfl hi hd (fun H1 locs1 hP hD hS1 => kk p l e R s m args below meth c D A Fin ad0 nm0 h0 C RT H1 locs1 ad ac nm lsM ⟨Ab_sI U.1 e2 ?_ hP hD hS1, Ext_sI _ _ h2 U.2.1, SX_sI _ _ h2 U.2.2.1, U.2.2.2.1, U.2.2.2.2.1, (oV_t (oV_t (oV_t U.2.2.2.2.2.1))), U.2.2.2.2.2.2⟩)
  rw [ce_arrF hn, hS_sI]
  congr 6
  funext j
  rw [hI_sI]
  unfold vf_upd
  by_cases hj : j = i.toNatClampNeg
  · simp [hj]
  · simp [hj]
theorem op_up (ad : xN → Nat) (h : xH) (n : xN) (j : Nat) (r : xN) : va_up (fun i => op ad (hR h n i)) j (op ad r) = fun i => op ad (hR (sR h n j r) n i) := by
  funext i
  rw [hR_sR]
  unfold va_up
  by_cases hj : i = j
  · simp [hj]
  · simp [hj]
theorem wp_aastore {n r : xN} {i : Int32} {ci : Nat} {C0 : String} {T : u_T} {N : Nat} {ty : Nat → FieldType} (K : CO ci C0 T N ty) (hn : kd n.1 = (5, ci)) (hr : kd r.1 = (1, ci)) (hi : vp_in i (hS h n - 1)) (hd : decode M.cc pc = .ok (.aastore, 1)) (kk : WP M (pc + 1) ls st (sR h n i.toNatClampNeg r) k Q) : WP M pc ls (xr r :: xi i :: xr n :: st) h k Q := by
  intro p l e R s m args below meth c D A Fin ad0 nm0 h0 C RT H locs ad ac nm lsM U
  have h2 := kd_ge hn (by omega) (by omega)
  have h3 := kd_ge hr (by omega) (by omega)
  have hm := oV_in (U.2.2.2.2.2.1 _ (List.mem_cons_of_mem _ (List.mem_cons_of_mem _ List.mem_cons_self))) h2
  have hm3 := oV_in (U.2.2.2.2.2.1 _ List.mem_cons_self) h3
  obtain ⟨q0, e1, e2⟩ := wl_get (ad := ad) (ac := ac) hm h
  obtain ⟨q1, e3, e4⟩ := wl_get (ad := ad) (ac := ac) hm3 h
  rw [ce_arrR hn] at e1
  rw [ce_obj hr] at e3
  have ha := U.1.2.2.2.2 n hm (by rw [hn]; simp)
  rw [aTy_of hn] at ha
  have hC : (vwCl.getD ci ("", TX0, 0)) = (C0, T, N) := by rw [List.getD_eq_getElem?_getD, K.1]; rfl
  simp only [tyOf, hC] at ha
  show W p l e R s m args below meth c H locs k (1500 * k) Fin (F0 m pc lsM (cv ad (xr r) :: Value.int i :: cv ad (xr n) :: st.map (cv ad)))
  rw [cv_ref h2, cv_ref h3]
  refine va_astq (r := (C0, T, N)) C.1 C.2.1 (va_K1 C.2.2.2.2.2.1.1 ha) U.1.1 U.1.2.1 U.1.2.2.1 q0 0 q1 ci e1 rfl e3 K.1 hi hd (fun H1 locs1 hP hD hS1 => kk p l e R s m args below meth c D A Fin ad0 nm0 h0 C RT H1 locs1 ad ac nm lsM ⟨Ab_sR U.1 e2 (Or.inr hm3) ?_ hP hD hS1, U.2.1, U.2.2.1, U.2.2.2.1, U.2.2.2.2.1, (oV_t (oV_t (oV_t U.2.2.2.2.2.1))), U.2.2.2.2.2.2⟩)
  rw [ce_arrR hn, ← op_some h3, op_up, hS_sR]
theorem wp_scr {i : Int32} (hM : M.y.cls = "ToteHouseLaw") (hi : vp_in i (hS h (1, 0) - 1)) (hd : decode M.cc pc = .ok (.iaload, 1)) (kk : WP M (pc + 1) ls (xi (hI h (1, 0) i.toNatClampNeg) :: st) h k Q) : WP M pc ls (xi i :: xr (1, 0) :: st) h k Q := by
  intro p l e R s m args below meth c D A Fin ad0 nm0 h0 C RT H locs ad ac nm lsM U
  have X := U.2.2.1 hM
  exact va_sld C.1 C.2.1 X.1 X.2.1 X.2.2 U.1.2.2.1 hi hd (kk p l e R s m args below meth c D A Fin ad0 nm0 h0 C RT H locs ad ac nm lsM ⟨U.1, U.2.1, U.2.2.1, U.2.2.2.1, U.2.2.2.2.1, (oV_s (oV_t (oV_t U.2.2.2.2.2.1)) trivial), U.2.2.2.2.2.2⟩)
theorem wp_scrl (hM : M.y.cls = "ToteHouseLaw") {v : Int32} (hv : Int32.ofNat (hS h (1, 0) - 1) = v) (hd : decode M.cc pc = .ok (.arraylength, 1)) (kk : WP M (pc + 1) ls (xi v :: st) h k Q) : WP M pc ls (xr (1, 0) :: st) h k Q := by
  intro p l e R s m args below meth c D A Fin ad0 nm0 h0 C RT H locs ad ac nm lsM U
  have X := U.2.2.1 hM
  subst hv
  exact va_slen C.1 C.2.1 X.1 X.2.1 X.2.2 U.1.2.2.1 hd (kk p l e R s m args below meth c D A Fin ad0 nm0 h0 C RT H locs ad ac nm lsM ⟨U.1, U.2.1, U.2.2.1, U.2.2.2.1, U.2.2.2.2.1, (oV_s (oV_t U.2.2.2.2.2.1) trivial), U.2.2.2.2.2.2⟩)
def up (ad : xN → Nat) (n : xN) (q : Nat) : xN → Nat := fun n' => if n' = n then q else ad n'
theorem hS_nW (h : xH) (n : xN) (z : Nat) (n' : xN) : hS (nW h n z) n' = if n' = n then z + 1 else hS h n' := rfl
theorem hI_nW (h : xH) (n : xN) (z : Nat) (n' : xN) (j : Nat) : hI (nW h n z) n' j = if n' = n then 0 else hI h n' j := rfl
theorem hR_nW (h : xH) (n : xN) (z : Nat) (n' : xN) (j : Nat) : hR (nW h n z) n' j = if n' = n then (0, 0) else hR h n' j := rfl
theorem op_upd {ad : xN → Nat} {nm : List xN} {n r : xN} {q : Nat} (hn : n ∉ nm) (hr : oN nm r) : op (up ad n q) r = op ad r := by
  unfold op
  by_cases hz : r.1 = 0
  · rw [if_pos hz, if_pos hz]
  · rw [if_neg hz, if_neg hz]
    have hne : r ≠ n := fun e => hr.elim hz (fun z => hn (e ▸ z))
    simp [up, hne]
theorem cv_upd {ad : xN → Nat} {nm : List xN} {n : xN} {q : Nat} {v : xV} (hn : n ∉ nm) (h2 : 2 ≤ n.1) (hv : oV nm v) : cv (up ad n q) v = cv ad v := by
  rcases v with x | x | x | r
  · rfl
  · rfl
  · rfl
  · show va_rf (op (up ad n q) r) = va_rf (op ad r)
    rcases hv with h | h | h
    · rw [op_upd hn (Or.inl h)]
    · have hne : r ≠ n := fun e => by rw [e] at h; omega
      simp [op, up, hne, h]
    · rw [op_upd hn (Or.inr h)]
theorem Pu_nW {h : xH} {nm : List xN} {n : xN} (z : Nat) (P : Pu h nm) (h2 : 2 ≤ n.1) (hf : hS h n = 0) : n ∉ nm ∧ Pu (nW h n z) (nm ++ [n]) := by
  have hn : n ∉ nm := fun hm => ((P.2.1 n).mp hm).2 hf
  refine ⟨hn, ?_, fun n' => ?_, fun n' hn' j => ?_⟩
  · exact List.nodup_append.mpr ⟨P.1, by simp, fun a ha b hb e => by
      have := List.mem_singleton.mp hb
      subst this; subst e
      exact hn ha⟩
  · rw [List.mem_append, List.mem_singleton, hS_nW]
    by_cases e : n' = n
    · subst e
      simp [h2]
    · rw [if_neg e, P.2.1 n']
      simp [e]
  · rw [hR_nW]
    by_cases e : n' = n
    · rw [if_pos e]
      exact Or.inl rfl
    · rw [if_neg e]
      have hm : n' ∈ nm := by
        rcases List.mem_append.mp hn' with z | z
        · exact z
        · exact absurd (List.mem_singleton.mp z) e
      exact (P.2.2 n' hm j).imp id (fun z => List.mem_append_left _ z)
theorem wl_nW {ad : xN → Nat} {ac ac' : xN → ClassId} {h : xH} {nm : List xN} {n : xN} {z q : Nat} {e : va_E} (P : Pu h nm) (hn : n ∉ nm) (hac : ∀ n' ∈ nm, ac' n' = ac n') (he : e = ce (up ad n q) ac' (nW h n z) n) : wl ad ac h nm ++ [(q, e)] = wl (up ad n q) ac' (nW h n z) (nm ++ [n]) := by
  subst he
  unfold wl
  rw [List.map_append]
  congr 1
  · apply List.map_congr_left
    intro n' hm
    have hne : n' ≠ n := fun e => hn (e ▸ hm)
    have e1 : up ad n q n' = ad n' := by unfold up; rw [if_neg hne]
    rw [e1]
    congr 1
    refine (ce_congr ?_ ?_ (fun j => ?_) (hac n' hm)).symm
    · rw [hS_nW, if_neg hne]
    · funext j
      rw [hI_nW, if_neg hne]
    · rw [hR_nW, if_neg hne, op_upd hn (P.2.2 n' hm j)]
  · simp [up]
theorem oV_app {nm : List xN} {v : xV} (n : xN) (h : oV nm v) : oV (nm ++ [n]) v := by
  rcases v with x | x | x | r
  · trivial
  · trivial
  · trivial
  · rcases h with h | h | h
    · exact Or.inl h
    · exact Or.inr (Or.inl h)
    · exact Or.inr (Or.inr (List.mem_append_left _ h))
theorem Ext_nW {ad0 ad : xN → Nat} {nm0 nm : List xN} {h0 h : xH} {n : xN} {q z : Nat} (hn : n ∉ nm) (h2 : 2 ≤ n.1) (E : Ext ad0 nm0 h0 ad nm h) : Ext ad0 nm0 h0 (up ad n q) (nm ++ [n]) (nW h n z) := by
  have h1 : ((1, 0) : xN) ≠ n := fun e => by rw [← e] at h2; simp at h2
  refine ⟨fun n' hn' => ?_, fun n' hn' => List.mem_append_left _ (E.2.1 n' hn'), ?_, fun j => ?_⟩
  · have : n' ≠ n := by
      intro e
      subst e
      rcases hn' with z | z
      · exact hn (E.2.1 _ z)
      · omega
    show (if n' = n then q else ad n') = _
    rw [if_neg this]
    exact E.1 n' hn'
  · rw [hS_nW, if_neg h1]
    exact E.2.2.1
  · rw [hI_nW, if_neg h1]
    exact E.2.2.2 j
theorem SX_nW {M : xM} {A : Nat → Prop} {s : State} {ad : xN → Nat} {h : xH} {n : xN} {q z : Nat} (h2 : 2 ≤ n.1) (E : SX M A s ad h) : SX M A s (up ad n q) (nW h n z) := by
  intro hM
  have h1 : ((1, 0) : xN) ≠ n := fun e => by rw [← e] at h2; simp at h2
  have e1 : up ad n q (1, 0) = ad (1, 0) := by unfold up; rw [if_neg h1]
  have e2 : hI (nW h n z) (1, 0) = hI h (1, 0) := by funext j; rw [hI_nW, if_neg h1]
  rw [e1, hS_nW, if_neg h1, e2]
  exact E hM
theorem ls_upd {ad : xN → Nat} {nm : List xN} {n : xN} {q : Nat} {ls : List (Nat × xV)} (hn : n ∉ nm) (h2 : 2 ≤ n.1) (ho : ∀ x ∈ ls, oV nm x.2) : ls.map (fun x => (x.1, cv (up ad n q) x.2)) = ls.map (fun x => (x.1, cv ad x.2)) :=
  List.map_congr_left (fun x hx => by rw [cv_upd hn h2 (ho x hx)])
theorem st_upd {ad : xN → Nat} {nm : List xN} {n : xN} {q : Nat} {st : List xV} (hn : n ∉ nm) (h2 : 2 ≤ n.1) (ho : ∀ x ∈ st, oV nm x) : st.map (cv (up ad n q)) = st.map (cv ad) :=
  List.map_congr_left (fun x hx => cv_upd hn h2 (ho x hx))
theorem Cu_nW {M : xM} {D : va_G} {A : Nat → Prop} {s : State} {ad0 : xN → Nat} {nm0 : List xN} {h0 : xH} {H H1 : Heap} {locs : List Loc} {ad : xN → Nat} {ac ac' : xN → ClassId} {nm : List xN} {lsM : Array Slot} {ls : List (Nat × xV)} {st st' : List xV} {h : xH} {k k' : Nat} {n : xN} {q z : Nat} {e : va_E} (U : Cu M D A s ad0 nm0 h0 H locs ad ac nm lsM ls st' h k) (hst : ∀ v ∈ st, oV nm v) (h2 : 2 ≤ n.1) (hf : hS h n = 0) (hk : k' ≤ M.mc) (hac : ∀ n' ∈ nm, ac' n' = ac n')
    (he : e = ce (up ad n q) ac' (nW h n z) n) (hP : va_P D vwCl (wl ad ac h nm ++ [(q, e)]) H1) (hD : va_D A (wl ad ac h nm ++ [(q, e)])) (hS1 : va_S A s.heap H1 locs) (hAr : (kd n.1).1 ≠ 1 → ArrOfT s (ac' n) (aTy n.1) ∧ va_RA s (ac' n) (aTy n.1)) : Cu M D A s ad0 nm0 h0 H1 locs (up ad n q) ac' (nm ++ [n]) lsM ls (xr n :: st) (nW h n z) k' := by
  obtain ⟨hn, P'⟩ := Pu_nW z U.1.2.2.2.1 h2 hf
  rw [wl_nW U.1.2.2.2.1 hn hac he] at hP hD
  refine ⟨⟨hP, hD, hS1, P', fun n' hn' hk' => ?_⟩, Ext_nW hn h2 U.2.1, SX_nW h2 U.2.2.1, ?_, fun x hx => oV_app n (U.2.2.2.2.1 x hx), ?_, hk⟩
  · rcases List.mem_append.mp hn' with hm | hm
    · rw [hac n' hm]
      exact U.1.2.2.2.2 n' hm hk'
    · rw [List.mem_singleton.mp hm] at hk' ⊢
      exact hAr hk'
  · rw [ls_upd hn h2 U.2.2.2.2.1]
    exact U.2.2.2.1
  · exact oV_s (fun v hv => oV_app n (hst v hv)) (Or.inr (Or.inr (List.mem_append_right _ (List.mem_singleton.mpr rfl))))
theorem wp_new {ci : Nat} {C0 : String} {T : u_T} {N : Nat} {ty : Nat → FieldType} (K : CO ci C0 T N ty) {idx : Nat} (n : xN) (hn : kd n.1 = (1, ci)) (hf : hS h n = 0) (hdf : ∀ j, j < N → defaultValue (ty j) = if isR ci j = true then .null else .int 0) (hN : N ≤ 1500) (hk : k + 1 ≤ M.mc) (hc1 : Cond.classLink M.y.cls idx C0 ∈ gw) (hc2 : Cond.instantiable C0 N ∈ gw) (hc3 : Cond.initialized C0 ∈ gw) (hd : decode M.cc pc = .ok (.new idx, 3)) (kk : WP M (pc + 3) ls (xr n :: st) (nW h n 0) (k + 1) Q) : WP M pc ls st h k Q := by
  intro p l e R s m args below meth c D A Fin ad0 nm0 h0 C RT H locs ad ac nm lsM U
  have h2 := kd_ge hn (by omega) (by omega)
  have hn' := (Pu_nW 0 U.1.2.2.2.1 h2 hf).1
  have hcl := C.2.2.2.2.2.2.2.1.2.2
  refine va_new (fs := fl ad (nW h n 0) n ci) C.1 C.2.1 C.2.2.2.2.1 K.2.2.1 ty K.2.2.2.1 C.2.2.2.1 (C.2.2.2.2.1 _ hc1) (C.2.2.2.2.1 _ hc2) (C.2.2.2.2.1 _ hc3) C.2.2.2.2.2.1.1 U.1.1 U.1.2.1 U.1.2.2.1 C.2.2.2.2.2.2.1 K.1 (fun j hj => ?_) (by omega) (by omega) hd (fun q H1 hP hD hS1 => ?_)
  · rw [hdf j hj]
    unfold vp_V
    rw [List.getD_eq_getElem?_getD, fl_get (by rw [K.2.1]; exact hj)]
    simp [fv, hI_nW, hR_nW, op, va_rf]
  · refine W.widen (k := k + 1) (n := 1500 * (k + 1)) (Nat.le_refl _) (by omega) ?_
    have he : (Sum.inr (ci, fl ad (nW h n 0) n ci) : va_E) = ce (up ad n q) ac (nW h n 0) n := by
      rw [ce_obj hn]
      congr 2
      unfold fl
      apply List.map_congr_left
      intro j _
      simp [fv, hR_nW, op]
    have V := Cu_nW (ac' := ac) U U.2.2.2.2.2.1 h2 hf hk (fun _ _ => rfl) he hP hD hS1 (fun z => absurd (by rw [hn]) z)
    have K2 := kk p l e R s m args below meth c D A Fin ad0 nm0 h0 C RT H1 locs (up ad n q) ac (nm ++ [n]) lsM V
    rw [List.map_cons, cv_ref h2, st_upd hn' h2 U.2.2.2.2.2.1, show up ad n q n = q by simp [up]] at K2
    exact K2
theorem wp_newai (n : xN) (z : Nat) {x : Int32} (hz : x.toInt = z) {ci : Nat} (hn : kd n.1 = (2, ci)) (hf : hS h n = 0) (c1 : Nat) (hN : z ≤ 1500 * c1 ∧ 1 ≤ c1 ∧ z ≤ 65536) (hk : k + c1 ≤ M.mc) (hc1 : Cond.arrayClass .int ∈ gw) (hd : decode M.cc pc = .ok (.newarray .int, 2)) (kk : WP M (pc + 2) ls (xr n :: st) (nW h n z) (k + c1) Q) : WP M pc ls (xi x :: st) h k Q := by
  intro p l e R s m args below meth c D A Fin ad0 nm0 h0 C RT H locs ad ac nm lsM U
  have h2 := kd_ge hn (by omega) (by omega)
  have hn' := (Pu_nW z U.1.2.2.2.1 h2 hf).1
  have hx0 : ¬ x < 0 := by rw [Int32.lt_iff_toInt_lt]; simp; omega
  have hxN : x.toNatClampNeg = z := by
    have : x.toNatClampNeg = x.toInt.toNat := rfl
    omega
  have hcl := C.2.2.2.2.2.2.2.1.2.2
  refine va_newa (atype := .int) (ty := .int) (a0 := (z, .inl (fun _ => 0))) C.1 C.2.1 (C.2.2.2.2.1 (Cond.arrayClass .int) hc1) rfl C.2.2.2.2.2.1.1 U.1.1 U.1.2.1 U.1.2.2.1 C.2.2.2.2.2.2.1 (fun _ => rfl) hx0 hxN (by show z * _ ≤ _; simp [componentBytes]; omega) (by omega) (by omega) hd (fun q cA H1 hK hP hD hS1 => ?_)
  refine W.widen (k := k + c1) (n := 1500 * (k + c1)) (by omega) (by omega) ?_
  have hA1 := hK.2 0 (cA, .int) rfl
  have he : (Sum.inl (cA, z, .inl (fun _ => 0)) : va_E) = ce (up ad n q) (fun n' => if n' = n then cA else ac n') (nW h n z) n := by
    unfold ce
    rw [hn]
    have e7 : hI (nW h n z) n = fun _ => 0 := by funext j; rw [hI_nW, if_pos rfl]
    have e8 : hS (nW h n z) n - 1 = z := by rw [hS_nW, if_pos rfl]; rfl
    rw [e7, e8]
    (try simp)
    (try rfl)
  have V := Cu_nW (ac' := fun n' => if n' = n then cA else ac n') U (oV_t U.2.2.2.2.2.1) h2 hf hk (fun n' hm => if_neg (fun (e : n' = n) => hn' (e ▸ hm))) he hP hD hS1 (fun _ => by rw [aTy_of hn]; simpa [tyOf] using hA1)
  have K2 := kk p l e R s m args below meth c D A Fin ad0 nm0 h0 C RT H1 locs (up ad n q) (fun n' => if n' = n then cA else ac n') (nm ++ [n]) lsM V
  rw [List.map_cons, cv_ref h2, st_upd hn' h2 (oV_t U.2.2.2.2.2.1), show up ad n q n = q by simp [up]] at K2
  exact K2
theorem wp_newaz (n : xN) (z : Nat) {x : Int32} (hz : x.toInt = z) {ci : Nat} (hn : kd n.1 = (3, ci)) (hf : hS h n = 0) (c1 : Nat) (hN : z ≤ 1500 * c1 ∧ 1 ≤ c1 ∧ z ≤ 65536) (hk : k + c1 ≤ M.mc) (hc1 : Cond.arrayClass .boolean ∈ gw) (hd : decode M.cc pc = .ok (.newarray .boolean, 2)) (kk : WP M (pc + 2) ls (xr n :: st) (nW h n z) (k + c1) Q) : WP M pc ls (xi x :: st) h k Q := by
  intro p l e R s m args below meth c D A Fin ad0 nm0 h0 C RT H locs ad ac nm lsM U
  have h2 := kd_ge hn (by omega) (by omega)
  have hn' := (Pu_nW z U.1.2.2.2.1 h2 hf).1
  have hx0 : ¬ x < 0 := by rw [Int32.lt_iff_toInt_lt]; simp; omega
  have hxN : x.toNatClampNeg = z := by
    have : x.toNatClampNeg = x.toInt.toNat := rfl
    omega
  have hcl := C.2.2.2.2.2.2.2.1.2.2
  refine va_newa (atype := .boolean) (ty := .boolean) (a0 := (z, .inl (fun _ => 0))) C.1 C.2.1 (C.2.2.2.2.1 (Cond.arrayClass .boolean) hc1) rfl C.2.2.2.2.2.1.1 U.1.1 U.1.2.1 U.1.2.2.1 C.2.2.2.2.2.2.1 (fun _ => rfl) hx0 hxN (by show z * _ ≤ _; simp [componentBytes]; omega) (by omega) (by omega) hd (fun q cA H1 hK hP hD hS1 => ?_)
  refine W.widen (k := k + c1) (n := 1500 * (k + c1)) (by omega) (by omega) ?_
  have hA1 := hK.2 0 (cA, .boolean) rfl
  have he : (Sum.inl (cA, z, .inl (fun _ => 0)) : va_E) = ce (up ad n q) (fun n' => if n' = n then cA else ac n') (nW h n z) n := by
    unfold ce
    rw [hn]
    have e7 : hI (nW h n z) n = fun _ => 0 := by funext j; rw [hI_nW, if_pos rfl]
    have e8 : hS (nW h n z) n - 1 = z := by rw [hS_nW, if_pos rfl]; rfl
    rw [e7, e8]
    (try simp)
    (try rfl)
  have V := Cu_nW (ac' := fun n' => if n' = n then cA else ac n') U (oV_t U.2.2.2.2.2.1) h2 hf hk (fun n' hm => if_neg (fun (e : n' = n) => hn' (e ▸ hm))) he hP hD hS1 (fun _ => by rw [aTy_of hn]; simpa [tyOf] using hA1)
  have K2 := kk p l e R s m args below meth c D A Fin ad0 nm0 h0 C RT H1 locs (up ad n q) (fun n' => if n' = n then cA else ac n') (nm ++ [n]) lsM V
  rw [List.map_cons, cv_ref h2, st_upd hn' h2 (oV_t U.2.2.2.2.2.1), show up ad n q n = q by simp [up]] at K2
  exact K2
theorem wp_newaf (n : xN) (z : Nat) {x : Int32} (hz : x.toInt = z) {ci : Nat} (hn : kd n.1 = (4, ci)) (hf : hS h n = 0) (c1 : Nat) (hN : z ≤ 1500 * c1 ∧ 1 ≤ c1 ∧ z ≤ 65536) (hk : k + c1 ≤ M.mc) (hc1 : Cond.arrayClass .float ∈ gw) (hd : decode M.cc pc = .ok (.newarray .float, 2)) (kk : WP M (pc + 2) ls (xr n :: st) (nW h n z) (k + c1) Q) : WP M pc ls (xi x :: st) h k Q := by
  intro p l e R s m args below meth c D A Fin ad0 nm0 h0 C RT H locs ad ac nm lsM U
  have h2 := kd_ge hn (by omega) (by omega)
  have hn' := (Pu_nW z U.1.2.2.2.1 h2 hf).1
  have hx0 : ¬ x < 0 := by rw [Int32.lt_iff_toInt_lt]; simp; omega
  have hxN : x.toNatClampNeg = z := by
    have : x.toNatClampNeg = x.toInt.toNat := rfl
    omega
  have hcl := C.2.2.2.2.2.2.2.1.2.2
  refine va_newa (atype := .float) (ty := .float) (a0 := (z, .inr (.inr (.inl (fun _ => 0))))) C.1 C.2.1 (C.2.2.2.2.1 (Cond.arrayClass .float) hc1) rfl C.2.2.2.2.2.1.1 U.1.1 U.1.2.1 U.1.2.2.1 C.2.2.2.2.2.2.1 (fun _ => rfl) hx0 hxN (by show z * _ ≤ _; simp [componentBytes]; omega) (by omega) (by omega) hd (fun q cA H1 hK hP hD hS1 => ?_)
  refine W.widen (k := k + c1) (n := 1500 * (k + c1)) (by omega) (by omega) ?_
  have hA1 := hK.2 0 (cA, .float) rfl
  have he : (Sum.inl (cA, z, .inr (.inr (.inl (fun _ => 0)))) : va_E) = ce (up ad n q) (fun n' => if n' = n then cA else ac n') (nW h n z) n := by
    unfold ce
    rw [hn]
    have e7 : hI (nW h n z) n = fun _ => 0 := by funext j; rw [hI_nW, if_pos rfl]
    have e8 : hS (nW h n z) n - 1 = z := by rw [hS_nW, if_pos rfl]; rfl
    rw [e7, e8]
    (try simp)
    (try rfl)
  have V := Cu_nW (ac' := fun n' => if n' = n then cA else ac n') U (oV_t U.2.2.2.2.2.1) h2 hf hk (fun n' hm => if_neg (fun (e : n' = n) => hn' (e ▸ hm))) he hP hD hS1 (fun _ => by rw [aTy_of hn]; simpa [tyOf] using hA1)
  have K2 := kk p l e R s m args below meth c D A Fin ad0 nm0 h0 C RT H1 locs (up ad n q) (fun n' => if n' = n then cA else ac n') (nm ++ [n]) lsM V
  rw [List.map_cons, cv_ref h2, st_upd hn' h2 (oV_t U.2.2.2.2.2.1), show up ad n q n = q by simp [up]] at K2
  exact K2
theorem wp_newar {ci : Nat} {C0 : String} {T : u_T} {N : Nat} {ty : Nat → FieldType} (K : CO ci C0 T N ty) {idx : Nat} (n : xN) (z : Nat) {x : Int32} (hz : x.toInt = z) (hn : kd n.1 = (5, ci)) (hf : hS h n = 0) (hN : z ≤ 1500) (hk : k + 1 ≤ M.mc) (hc1 : Cond.classLink M.y.cls idx C0 ∈ gw) (hc2 : Cond.arrayOver (.object C0) ∈ nw) (hd : decode M.cc pc = .ok (.anewarray idx, 3)) (kk : WP M (pc + 3) ls (xr n :: st) (nW h n z) (k + 1) Q) : WP M pc ls (xi x :: st) h k Q := by
  intro p l e R s m args below meth c D A Fin ad0 nm0 h0 C RT H locs ad ac nm lsM U
  have h2 := kd_ge hn (by omega) (by omega)
  have hn' := (Pu_nW z U.1.2.2.2.1 h2 hf).1
  have hx0 : ¬ x < 0 := by rw [Int32.lt_iff_toInt_lt]; simp; omega
  have hxN : x.toNatClampNeg = z := by
    have : x.toNatClampNeg = x.toInt.toNat := rfl
    omega
  have hcl := C.2.2.2.2.2.2.2.1.2.2
  have hC : (vwCl.getD ci ("", TX0, 0)) = (C0, T, N) := by rw [List.getD_eq_getElem?_getD, K.1]; rfl
  refine va_newq (C := C0) C.1 C.2.1 C.2.2.2.1 (C.2.2.2.2.1 _ hc1) (va_AO.of (C.2.2.2.2.2.1.2 _ hc2)) C.2.2.2.2.2.1.1 U.1.1 U.1.2.1 U.1.2.2.1 C.2.2.2.2.2.2.1 hx0 hxN (by omega) (by omega) (by omega) hd (fun q cA H1 hK hP hD hS1 => ?_)
  refine W.widen (k := k + 1) (n := 1500 * (k + 1)) (by omega) (by omega) ?_
  have hA1 := hK.2 0 (cA, .object C0) rfl
  have he : (Sum.inl (cA, z, .inr (.inr (.inr (.inr (fun _ => none))))) : va_E) = ce (up ad n q) (fun n' => if n' = n then cA else ac n') (nW h n z) n := by
    unfold ce
    rw [hn]
    have e7 : (fun j => op (up ad n q) (hR (nW h n z) n j)) = fun _ => none := by funext j; rw [hR_nW, if_pos rfl]; rfl
    have e8 : hS (nW h n z) n - 1 = z := by rw [hS_nW, if_pos rfl]; rfl
    rw [e7, e8]
    simp
  have V := Cu_nW (ac' := fun n' => if n' = n then cA else ac n') U (oV_t U.2.2.2.2.2.1) h2 hf hk (fun n' hm => if_neg (fun (e : n' = n) => hn' (e ▸ hm))) he hP hD hS1 (fun _ => by rw [aTy_of hn]; simp only [tyOf, hC]; simpa using hA1)
  have K2 := kk p l e R s m args below meth c D A Fin ad0 nm0 h0 C RT H1 locs (up ad n q) (fun n' => if n' = n then cA else ac n') (nm ++ [n]) lsM V
  rw [List.map_cons, cv_ref h2, st_upd hn' h2 (oV_t U.2.2.2.2.2.1), show up ad n q n = q by simp [up]] at K2
  exact K2
theorem wp_ret (r : Option xV) (hr : rOK M.rt r) (hd : decode M.cc pc = .ok (rI r, 1)) (hq : Q r h) : WP M pc ls r.toList h k Q := by
  intro p l e R s m args below meth c D A Fin ad0 nm0 h0 C RT H locs ad ac nm lsM U
  exact RT H locs ad ac nm lsM h k pc r U.1 U.2.1 U.2.2.2.2.2.2 hq hr U.2.2.2.2.2.1 hd
theorem wp_iret {x : Int32} (hr : rOK M.rt (some (xi x))) (hd : decode M.cc pc = .ok (.ireturn, 1)) (hq : Q (some (xi x)) h) : WP M pc ls [xi x] h k Q := wp_ret (some (xi x)) hr hd hq
theorem wp_lret {x : Int64} (hr : rOK M.rt (some (xl x))) (hd : decode M.cc pc = .ok (.lreturn, 1)) (hq : Q (some (xl x)) h) : WP M pc ls [xl x] h k Q := wp_ret (some (xl x)) hr hd hq
theorem wp_fret {x : UInt32} (hr : rOK M.rt (some (xf x))) (hd : decode M.cc pc = .ok (.freturn, 1)) (hq : Q (some (xf x)) h) : WP M pc ls [xf x] h k Q := wp_ret (some (xf x)) hr hd hq
theorem wp_aret {n : xN} (hr : rOK M.rt (some (xr n))) (hd : decode M.cc pc = .ok (.areturn, 1)) (hq : Q (some (xr n)) h) : WP M pc ls [xr n] h k Q := wp_ret (some (xr n)) hr hd hq
theorem wp_vret (hr : rOK M.rt none) (hd : decode M.cc pc = .ok (.return_, 1)) (hq : Q none h) : WP M pc ls [] h k Q := wp_ret none hr hd hq
theorem WP.mono {Q' : Option xV → xH → Prop} (hWP : WP M pc ls st h k Q) (hq : ∀ r h, Q r h → Q' r h) : WP M pc ls st h k Q' := by
  intro p l e R s m args below meth c D A Fin ad0 nm0 h0 C RT' H locs ad ac nm lsM U
  exact hWP p l e R s m args below meth c D A Fin ad0 nm0 h0 C (fun H locs ad ac nm lsM h k pc r a1 a2 a3 a4 a5 a6 a7 => RT' H locs ad ac nm lsM h k pc r a1 a2 a3 (hq r h a4) a5 a6 a7) H locs ad ac nm lsM U
/-- the locals may be read off another list that holds no more -/
theorem WP.sub {ls' : List (Nat × xV)} (hWP : WP M pc ls' st h k Q) (hs : ∀ q ∈ ls', q ∈ ls) : WP M pc ls st h k Q := by
  intro p l e R s m args below meth c D A Fin ad0 nm0 h0 C RT H locs ad ac nm lsM U
  refine hWP p l e R s m args below meth c D A Fin ad0 nm0 h0 C RT H locs ad ac nm lsM ⟨U.1, U.2.1, U.2.2.1, ⟨U.2.2.2.1.1, U.2.2.2.1.2.1, fun q hq => ?_⟩, fun q hq => U.2.2.2.2.1 q (hs q hq), U.2.2.2.2.2.1, U.2.2.2.2.2.2⟩
  obtain ⟨x, hx, rfl⟩ := List.mem_map.mp hq
  exact U.2.2.2.1.2.2 _ (List.mem_map.mpr ⟨x, hs x hx, rfl⟩)
theorem nw_moved {s U : State} (hW : s.WarmedH U.vm) (h : ∀ w ∈ nw, va_Nw w s) : ∀ w ∈ nw, va_Nw w U := by
  intro w hw
  have h1 := h w hw
  have h2 := (List.mem_filter.mp hw).2
  cases w with
  | methodLinkNest a b c d => exact va_Nw.warmM hW h1
  | arrayOver t =>
    cases t with
    | object C => exact va_AO.moved hW.alike h1
    | _ => simp [nwq] at h2
  | _ => simp [nwq] at h2
theorem nw_same {s U : State} (hv : s.vm = U.vm) (h : ∀ w ∈ nw, va_Nw w s) : ∀ w ∈ nw, va_Nw w U := by
  intro w hw
  have h1 := h w hw
  have h2 := (List.mem_filter.mp hw).2
  cases w with
  | methodLinkNest a b c d => exact va_Nw.same rfl hv h1
  | arrayOver t =>
    cases t with
    | object C => exact va_AO.moved (by rw [hv]; exact Vm.Alike.refl _) h1
    | _ => simp [nwq] at h2
  | _ => simp [nwq] at h2
theorem KX.moved {D : va_G} {s U : State} (hW : s.WarmedH U.vm) (h : KX D s) : KX D U := ⟨va_K.moved hW.alike h.1, nw_moved hW h.2⟩
theorem KX.same {D : va_G} {s U : State} (hv : s.vm = U.vm) (h : KX D s) : KX D U := ⟨va_K.moved (by rw [hv]; exact Vm.Alike.refl _) h.1, nw_same hv h.2⟩
theorem Ar.moved {s U : State} {ac : xN → ClassId} {nm : List xN} (hvm : s.vm.Alike U.vm) (h : Ar s ac nm) : Ar U ac nm := fun n hn hk => ⟨arrOfT_moved hvm (h n hn hk).1, (h n hn hk).2.moved hvm⟩
/-- a call's start and end -/
def PC (D : va_G) (ad : xN → Nat) (ac : xN → ClassId) (nm : List xN) (h : xH) (av : List xV) (sz : Nat) : Array Value → State → Prop :=
  va_Pc (av.map (cv ad)) (fun V => V.heap.size = sz ∧ va_P D vwCl (wl ad ac h nm) V.heap ∧ KX D V ∧ Ar V ac nm)
abbrev xS : Type := xH × (xN → Nat) × (xN → ClassId) × List xN
def QB (D : va_G) (A : Nat → Prop) (ad : xN → Nat) (nm : List xN) (h : xH) (u : xS) (t : State) : Prop :=
  va_P D vwCl (wl u.2.1 u.2.2.1 u.1 u.2.2.2) t.heap ∧ va_D A (wl u.2.1 u.2.2.1 u.1 u.2.2.2) ∧ Pu u.1 u.2.2.2 ∧ Ar t u.2.2.1 u.2.2.2 ∧ Ext ad nm h u.2.1 u.2.2.2 u.1
def QC (D : va_G) (A : Nat → Prop) (ad : xN → Nat) (nm : List xN) (h : xH) (Q : Option xV → xH → Prop) : Array Value → State → Outcome → State → Prop := fun _ st oc t =>
  (∃ (r : Option xV) (u : xS), oc = .returned (r.map (cv u.2.1)) ∧ Q r u.1 ∧ (∀ v ∈ r.toList, oV u.2.2.2 v) ∧ QB D A ad nm h u t) ∧ va_F A st t
def rm (M : xM) : Room := { frames := M.fr, cells := M.mc, slots := 1500 * M.mc, locals := M.lo }
def wsM (M : xM) : List Cond := Cond.code M.y M.cc M.mL M.rt :: gw
/-- the entry's locals -/
def aL : Nat → List xV → List (Nat × xV)
  | _, [] => []
  | i, v :: l => (i, v) :: aL (if ct2 v then i + 2 else i + 1) l
theorem lv_args_cv (ad : xN → Nat) : ∀ (i : Nat) (l : List xV), lv_args i (l.map (cv ad)) = (aL i l).map (fun q => (q.1, cv ad q.2))
  | _, [] => rfl
  | i, v :: l => by
    have e := ct2_cv ad v
    have ih := lv_args_cv ad (if ct2 v then i + 2 else i + 1) l
    rw [aL, List.map_cons, List.map_cons, ← ih]
    rw [lv_args]
    congr 2
    rcases lv_cat (cv ad v) with hc | hc
    · rw [hc] at e ⊢
      have : ct2 v = false := by rw [← e]; rfl
      simp [this]
    · rw [hc] at e ⊢
      have : ct2 v = true := by rw [← e]; rfl
      simp [this]
def wd (av : List xV) : Nat := (av.map (fun v => if ct2 v then 2 else 1)).sum
theorem lg_len (ad : xN → Nat) : ∀ av : List xV, (lg_sl (av.map (cv ad))).length = wd av := by
  intro av
  induction av with
  | nil => rfl
  | cons v l ih =>
    have e := ct2_cv ad v
    have e2 : wd (v :: l) = (if ct2 v then 2 else 1) + wd l := by simp [wd]
    rw [e2, ← ih, List.map_cons]
    rcases lv_cat (cv ad v) with hc | hc
    · rw [hc] at e
      have h0 : ct2 v = false := by rw [← e]; rfl
      simp [lg_sl, hc, h0]
      omega
    · rw [hc] at e
      have h0 : ct2 v = true := by rw [← e]; rfl
      simp [lg_sl, hc, h0]
      omega
theorem Ext.refl (ad : xN → Nat) (nm : List xN) (h : xH) : Ext ad nm h ad nm h := ⟨fun _ _ => rfl, fun _ z => z, rfl, fun _ => rfl⟩
theorem aL_mem {nm : List xN} : ∀ (av : List xV) (i : Nat), (∀ v ∈ av, oV nm v) → ∀ q ∈ aL i av, oV nm q.2
  | [], _, _, q, hq => by simp [aL] at hq
  | v :: l, i, h, q, hq => by
    rw [aL] at hq
    rcases List.mem_cons.mp hq with e | e
    · rw [e]; exact h v List.mem_cons_self
    · exact aL_mem l _ (fun w hw => h w (List.mem_cons_of_mem _ hw)) q e
theorem ofWF {l : Launch} {y : MethodName} {ws ws' : List Cond} {rm : Room} {Pc : Array Value → State → Prop} {Qc : Array Value → State → Outcome → State → Prop} {mc ms : Nat} {free : Addr → Prop} {cc : ByteArray} {maxL : Nat} {ret : Option FieldType}
    (hy : plainFor y = true) (hw : ws = Cond.code y cc maxL ret :: ws')
    (body : ∀ p e s m args below meth c s₁, BodyLoose p l y (headSpec ws rm) cc maxL ret e s m args below meth c s₁ → c.maxLocals = maxL → Pc args s →
      W p l e (headSpec ws rm).room s m args below meth c s.heap [] 0 0 (MQ below Qc args s mc ms free) (entryFrame m args maxL)) : Met l y ws rm Pc Qc mc ms free := by
  refine MetFree.of_bodySF (code := cc) (maxLocals := maxL) (ret := ret) hy ?_ ?_
  · intro args s m h hn
    obtain ⟨meth, c, h1, h2, h3, h4, h5, h6, -, -⟩ := Cond.code_spec hn (atoms_spec (ws := ws) h _ (by rw [hw]; exact List.mem_cons_self))
    exact ⟨meth, c, h1, h2, h3, h4, h5, h6⟩
  · intro p e s m args below meth c s₁ B hml hP _
    have hh0 : s₁.heap = s.heap := by rw [B.state]; rfl
    obtain ⟨t, a1, o, b1, b2, b3⟩ := body p e s m args below meth c s₁ B hml hP s₁ hh0 (Stand.of_body B)
    exact ⟨t, o, a1, b1, b2, ⟨b3.1, b3.2⟩⟩
theorem met_of_wp {M2 : xM} (hpl : plainFor M2.y = true) (hlaw : M2.y.cls ≠ "ToteHouseLaw") (l : Launch) {D : va_G} {A0 : Nat → Prop} {ad : xN → Nat} {ac : xN → ClassId} {nm : List xN} {h : xH} (av : List xV) (sz : Nat) {Q1 : Option xV → xH → Prop} (hlen : wd av ≤ M2.mL) (P : Pu h nm) (hav : ∀ v ∈ av, oV nm v) (hD : va_D A0 (wl ad ac h nm)) (hWP : WP M2 0 (aL 0 av) [] h 0 Q1) :
    Met l M2.y (wsM M2) (rm M2) (PC D ad ac nm h av sz) (QC D (va_A (wl ad ac h nm) sz) ad nm h Q1) M2.mc (1500 * M2.mc) (va_A (wl ad ac h nm) sz) := by
  refine ofWF (cc := M2.cc) (maxL := M2.mL) (ret := M2.rt) hpl rfl ?_
  intro p e s m args below meth c s₁ B hml hv
  obtain ⟨rfl, hsz, hP, hK, hAr⟩ := hv
  have hts := atoms_spec (ws := wsM M2) B.pre
  have hr := B.returns
  have hlocks := B.notSynchronized
  subst hsz
  have hD1 := hD.self (sz := s.heap.size)
  have hl := lv_entry (av.map (cv ad)) (n := M2.mL) (by rw [lg_len]; exact hlen)
  rw [lg_entry_eq]
  generalize (lg_sl (av.map (cv ad)) ++ List.replicate (M2.mL - (lg_sl (av.map (cv ad))).length) Slot.unset).toArray = lsM at hl ⊢
  rw [lv_args_cv] at hl
  refine hWP p l e (rm M2) s m _ below meth c D (va_A (wl ad ac h nm) s.heap.size) _ ad nm h ⟨B.exec, B.bytes, hml, findClass_of_methodNamed B.named, fun w hw => hts w (List.mem_cons_of_mem _ hw), hK, fun q hq => Or.inr hq, ⟨Nat.le_refl _, Nat.le_refl _, Nat.le_refl _, Nat.le_refl _⟩, fun _ => (name_of_methodNamed B.named B.method).1⟩ ?_ s.heap [] ad ac nm lsM ⟨⟨hP, hD1, va_S.rf, P, hAr⟩, Ext.refl _ _ _, fun z => absurd z hlaw, hl, aL_mem av 0 hav, fun v hv => by simp at hv, Nat.zero_le _⟩
  intro H locs ad' ac' nm' lsM' h' k pc r a1 a2 a3 a4 a5 a6 a7
  refine W.widen (k := M2.mc) (n := 1500 * M2.mc) a3 (by omega) ?_
  have hq : ∀ t : State, t.heap = H → s.WarmedH t.vm → QC D (va_A (wl ad ac h nm) s.heap.size) ad nm h Q1 (av.map (cv ad)).toArray s (.returned (r.map (cv ad'))) t := fun t ht hW => ⟨⟨r, (h', ad', ac', nm'), rfl, a4, a6, ⟨by rw [ht]; exact a1.1, a1.2.1, a1.2.2.2.1, Ar.moved hW.alike a1.2.2.2.2, a2⟩⟩, a1.2.2.1.F ht⟩
  have hf := a1.2.2.1.2.2
  have hx := B.exec
  have hb := B.bytes
  rcases r with _ | (x | x | x | n)
  · have hrt : M2.rt = none := by
      revert a5
      cases M2.rt with
      | none => intro _; rfl
      | some ty => cases ty <;> exact fun z => z.elim
    exact W.vret hx hb (hr.trans hrt) hq hf a7
  · have hrt : M2.rt = some .int ∨ (M2.rt = some .boolean ∧ (x = 0 ∨ x = 1)) := by
      revert a5
      cases M2.rt with
      | none => exact fun z => z.elim
      | some ty => cases ty <;> first | exact fun z => z.elim | exact fun _ => Or.inl rfl | exact fun z => Or.inr ⟨rfl, z⟩
    rcases hrt with hrt | ⟨hrt, hz⟩
    · exact W.iret hx hb (hr.trans hrt) hq hf a7
    · exact W.zret hx hb (hr.trans hrt) (by rcases hz with rfl | rfl <;> rfl) hq hf a7
  · have hrt : M2.rt = some .long := by
      revert a5
      cases M2.rt with
      | none => exact fun z => z.elim
      | some ty => cases ty <;> first | exact fun z => z.elim | exact fun _ => rfl
    exact W.lret hx hb (hr.trans hrt) hq hf a7
  · have hrt : M2.rt = some .float := by
      revert a5
      cases M2.rt with
      | none => exact fun z => z.elim
      | some ty => cases ty <;> first | exact fun z => z.elim | exact fun _ => rfl
    exact W.fret hx hb (hr.trans hrt) hq hf a7
  · have hrt : ∃ C0, M2.rt = some (.object C0) := by
      revert a5
      cases M2.rt with
      | none => exact fun z => z.elim
      | some ty => cases ty <;> first | exact fun z => z.elim | exact fun _ => ⟨_, rfl⟩
    obtain ⟨C0, hrt⟩ := hrt
    exact W.aret hx hb (hr.trans hrt) (Or.inl ⟨C0, rfl⟩) (by show va_rf (op ad' n) = _ ∨ ∃ a, va_rf (op ad' n) = _; cases op ad' n with | none => exact Or.inl rfl | some a => exact Or.inr ⟨a, rfl⟩) hq hf a7
theorem Ext.trans {ad0 ad1 ad2 : xN → Nat} {nm0 nm1 nm2 : List xN} {h0 h1 h2 : xH} (E1 : Ext ad0 nm0 h0 ad1 nm1 h1) (E2 : Ext ad1 nm1 h1 ad2 nm2 h2) : Ext ad0 nm0 h0 ad2 nm2 h2 :=
  ⟨fun n hn => (E2.1 n (hn.imp (E1.2.1 n) id)).trans (E1.1 n hn), fun n hn => E2.2.1 n (E1.2.1 n hn), E2.2.2.1.trans E1.2.2.1, fun j => (E2.2.2.2 j).trans (E1.2.2.2 j)⟩
theorem cv_ext {ad ad' : xN → Nat} {nm nm' : List xN} {h h' : xH} (E : Ext ad nm h ad' nm' h') {v : xV} (hv : oV nm v) : cv ad' v = cv ad v ∧ oV nm' v := by
  rcases v with x | x | x | r
  · exact ⟨rfl, trivial⟩
  · exact ⟨rfl, trivial⟩
  · exact ⟨rfl, trivial⟩
  · show va_rf (op ad' r) = va_rf (op ad r) ∧ _
    rcases hv with hz | hz | hz
    · simp [op, hz, oV]
    · simp [op, hz, E.1 r (Or.inr hz), oV]
    · exact ⟨by simp [op, E.1 r (Or.inl hz)], Or.inr (Or.inr (E.2.1 r hz))⟩
theorem fr_A {A : Nat → Prop} {ws : va_W} {sz0 : Nat} {z : Nat} (hD : va_D A ws) (hA : ∀ q, sz0 ≤ q → A q) (hz : sz0 ≤ z) : ∀ q, va_A ws z q → A q := by
  intro q hq
  rcases hq with ⟨k, e, hk⟩ | hq
  · exact hD.2 k (q, e) hk
  · exact hA q (Nat.le_trans hz hq)
theorem call_fin {M M2 : xM} {p : Program} {l : Launch} {e : Env} {R : Room} {s : State} {m : MethodId} {args : Array Value} {below : List Frame} {meth : Method} {c : Code} {D : va_G} {A : Nat → Prop} {Fin : State → Prop} {ad0 : xN → Nat} {nm0 : List xN} {h0 : xH} {H : Heap} {locs : List Loc} {ad : xN → Nat} {ac : xN → ClassId} {nm : List xN} {lsM : Array Slot} {pc : Nat} {ls : List (Nat × xV)} {stk st : List xV} {h : xH} {k : Nat} {Q Q1 : Option xV → xH → Prop} {stM : List Value} {a : Array Value}
    (C : Cx M p R s m args meth c D A) (hRT : RT M p l e R s m args below meth c D A Fin ad0 nm0 h0 Q) (U : Cu M D A s ad0 nm0 h0 H locs ad ac nm lsM ls stk h k) (hst : ∀ v ∈ st, oV nm v) (hk : k + M2.mc ≤ M.mc)
    (run : va_Run p l e R s m args below meth c H locs k (1500 * k) M2.mc (1500 * M2.mc) (F0 m pc lsM stM) (st.map (cv ad)) (QC D (va_A (wl ad ac h nm) H.size) ad nm h Q1 a) (va_A (wl ad ac h nm) H.size))
    (kk : ∀ r h', Q1 r h' → WP M (pc + 3) ls (r.toList ++ st) h' (k + M2.mc) Q) : W p l e R s m args below meth c H locs k (1500 * k) Fin (F0 m pc lsM stM) := by
  intro T hT X
  obtain ⟨v, st₀, t, T', L, hh0, X', hL, e1, e2, ⟨⟨r, u, hv, hq, hov, hB⟩, hz, hkp⟩, go⟩ := run T hT X
  obtain ⟨h1, ad1, ac1, nm1⟩ := u
  have hv' : v = r.map (cv ad1) := by injection hv
  subst hv'
  rw [hh0] at hz hkp
  have hfr := fr_A U.1.2.1 C.2.2.2.2.2.2.1 U.1.2.2.1.1
  have hE : Ext ad nm h ad1 nm1 h1 := hB.2.2.2.2
  have hal : s.vm.Alike t.vm := by rw [← e2]; exact X'.warmed.alike
  have hSS : va_S A s.heap T'.heap (locs ++ L) := ⟨Nat.le_trans U.1.2.2.1.1 (by rw [e1]; exact hz), fun q g1 g2 => by rw [e1, hkp q (Nat.lt_of_lt_of_le g1 U.1.2.2.1.1) (fun z => g2 (hfr q z))]; exact U.1.2.2.1.2.1 q g1 g2, fun q hq => by
      rcases List.mem_append.mp hq with g | g
      · exact U.1.2.2.1.2.2 q g
      · exact hfr _ (hL q g)⟩
  have hls : ls.map (fun q => (q.1, cv ad1 q.2)) = ls.map (fun q => (q.1, cv ad q.2)) := List.map_congr_left (fun x hx => by rw [(cv_ext hE (U.2.2.2.2.1 x hx)).1])
  have hK := kk r h1 hq p l e R s m args below meth c D A Fin ad0 nm0 h0 C hRT T'.heap (locs ++ L) ad1 ac1 nm1 lsM ⟨⟨by rw [e1]; exact hB.1, hB.2.1.weaken (fun _ _ _ z => hfr _ z), hSS, hB.2.2.1, Ar.moved hal.symm hB.2.2.2.1⟩, U.2.1.trans hE, fun hM => by
      have X1 := U.2.2.1 hM
      rw [hE.1 (1, 0) (Or.inr rfl), hE.2.2.1, show hI h1 (1, 0) = hI h (1, 0) from funext hE.2.2.2]
      exact X1, by rw [hls]; exact U.2.2.2.1, fun q hq => (cv_ext hE (U.2.2.2.2.1 q hq)).2, fun v hv => by
      rcases List.mem_append.mp hv with g | g
      · exact hov v g
      · exact (cv_ext hE (hst v g)).2, hk⟩
  have e3 : (r.toList ++ st).map (cv ad1) = (r.map (cv ad1)).toList ++ st.map (cv ad) := by
    rw [List.map_append, List.map_congr_left (fun x hx => (cv_ext hE (hst x hx)).1)]
    cases r <;> rfl
  rw [e3, show 1500 * (k + M2.mc) = 1500 * k + 1500 * M2.mc by omega] at hK
  obtain ⟨t2, b1, b2⟩ := hK T' rfl X'
  exact ⟨t2, go t2 b1, b2⟩
/-- what is known of a method that is called -/
def MO (M2 : xM) (na : Nat) : Prop := Cond.code M2.y M2.cc M2.mL M2.rt ∈ gw ∧ Cond.initialized M2.y.cls ∈ gw ∧ plainFor M2.y = true ∧ M2.y.cls ≠ "ToteHouseLaw" ∧ (M2.y.cls ≠ "java/lang/invoke/MethodHandle" ∧ M2.y.cls ≠ "java/lang/invoke/VarHandle") ∧ (parseMethodDescriptor M2.y.desc).map (fun d => d.parameters.length) = some na
theorem MO.len {M2 : xM} {na : Nat} (h : MO M2 na) : ∀ sig, parseMethodDescriptor M2.y.desc = some sig → na = sig.parameters.length := by
  intro sig hs
  have := h.2.2.2.2.2
  rw [hs] at this
  exact (Option.some.inj this).symm
theorem gw_pay {args : Array Value} {s : State} {M2 : xM} (hts : ∀ w ∈ gw, w.before args s = true) (hc : Cond.code M2.y M2.cc M2.mL M2.rt ∈ gw) : ∀ w ∈ wsM M2, ∀ (a' : Array Value) (V : State), s.WarmedH V.vm → w.before a' V = true :=
  pay_in hts (fun w hw => by
    have hg : w ∈ gw := by
      rcases List.mem_cons.mp hw with e | e
      · rw [e]; exact hc
      · exact e
    exact ⟨hg, good_of_word (List.mem_filter.mp hg).2⟩)
theorem PC_blind (D : va_G) (ad : xN → Nat) (ac : xN → ClassId) (nm : List xN) (h : xH) (av : List xV) (sz : Nat) : FrameBlind (PC D ad ac nm h av sz) := fun a V g mk q => ⟨q.1, q.2.1, q.2.2.1, KX.same (s := V) rfl q.2.2.2.1, Ar.moved (Vm.Alike.refl V.vm) q.2.2.2.2⟩
theorem PC_at {D : va_G} {A : Nat → Prop} {s : State} {H : Heap} {locs : List Loc} {h : xH} {ad : xN → Nat} {ac : xN → ClassId} {nm : List xN} (av : List xV) (B : Ab D A s H locs h ad ac nm) (hK : KX D s) : ∀ V : State, V.heap = H → s.WarmedH V.vm → PC D ad ac nm h av H.size (av.map (cv ad)).toArray V := fun V hV hW => ⟨rfl, by rw [hV], by rw [hV]; exact B.1, hK.moved hW, Ar.moved hW.alike B.2.2.2.2⟩
theorem cat_le {ad : xN → Nat} {st : List xV} (h : wd st ≤ 8) : ((st.map (cv ad)).map fun v => v.category).sum ≤ 8 := by
  have : ((st.map (cv ad)).map fun v => v.category).sum = wd st := by
    unfold wd
    rw [List.map_map]
    congr 1
    apply List.map_congr_left
    intro v _
    have e := ct2_cv ad v
    show (cv ad v).category = _
    rcases lv_cat (cv ad v) with hc | hc <;> rw [hc] at e ⊢
    · rw [← e]; rfl
    · rw [← e]; rfl
  omega
theorem wp_callV {M2 : xM} {ci : Nat} {C0 : String} {T : u_T} {N : Nat} {ty : Nat → FieldType} (K : CO ci C0 T N ty) {idx na : Nat} (n : xN) (hn : kd n.1 = (1, ci)) (av : List xV) (hna : av.length = na) (hl : Cond.methodLink M.y.cls idx M2.y ∈ gw) (hl2 : Cond.instanceMethod M2.y ∈ gw) (hl3 : Cond.selects C0 M2.y M2.y ∈ gw) (MK : MO M2 na) (hwd : wd (xr n :: av) ≤ M2.mL) (hrm : M2.fr + 1 ≤ M.fr ∧ 8 + (M2.mL + 11) + M2.lo ≤ M.lo) (hs8 : wd st ≤ 8) (hk : k + M2.mc ≤ M.mc) (hd : decode M.cc pc = .ok (.invokevirtual idx, 3)) {Q1 : Option xV → xH → Prop} (c1 : WP M2 0 (aL 0 (xr n :: av)) [] h 0 Q1) (kk : ∀ r h', Q1 r h' → WP M (pc + 3) ls (r.toList ++ st) h' (k + M2.mc) Q) : WP M pc ls (av.reverse ++ xr n :: st) h k Q := by
  intro p l e R s m args below meth c D A Fin ad0 nm0 h0 C RT H locs ad ac nm lsM U
  have hst : ∀ v ∈ st, oV nm v := fun v hv => U.2.2.2.2.2.1 v (by simp [hv])
  have hav : ∀ v ∈ xr n :: av, oV nm v := fun v hv => U.2.2.2.2.2.1 v (by simp at hv ⊢; first | exact Or.inl hv | (rcases hv with hv | hv; exact Or.inr (Or.inl hv); exact Or.inl hv))
  have hcl := C.2.2.2.2.2.2.2.1
  have hM := met_of_wp MK.2.2.1 MK.2.2.2.1 l (D := D) (ad := ad) (ac := ac) (xr n :: av) H.size hwd U.1.2.2.2.1 hav U.1.2.1 c1
  have h2 := kd_ge hn (by omega) (by omega)
  have hm := oV_in (hav (xr n) List.mem_cons_self) h2
  obtain ⟨q0, e1, -⟩ := wl_get (ad := ad) (ac := ac) hm h
  rw [ce_obj hn] at e1
  have hpc := PC_at (xr n :: av) U.1 C.2.2.2.2.2.1
  rw [List.map_cons, cv_ref h2] at hpc
  refine call_fin (st := st) (a := (Value.ref (ad n) :: av.map (cv ad)).toArray) C RT U hst hk (va_runV (As := av.map (cv ad)) (rest := st.map (cv ad)) (C := C0) (b := ad n) (n := na) (bytes := M2.cc) (maxL := M2.mL) (ret := M2.rt) (index := idx) ⟨C.1, C.2.1, C.2.2.1, C.2.2.2.1, C.2.2.2.2.1⟩ hM ⟨⟨rfl, rfl, by show M2.fr + 1 ≤ _; omega, by show 8 + (M2.mL + 11) + M2.lo ≤ _; omega, gw_pay C.2.2.2.2.1 MK.1, List.mem_cons_self, C.2.2.2.2.1 _ MK.1, C.2.2.2.2.1 _ MK.2.1, MK.2.2.2.2.1, MK.len, C.2.2.2.2.1 _ hl⟩, C.2.2.2.2.1 _ hl2, C.2.2.2.2.1 _ hl3⟩ ⟨PC_blind _ _ _ _ _ _ _, va_recv C.2.2.2.2.2.1.1 U.1.1 K.1 e1, hpc⟩ rfl (by rw [List.length_map]; exact hna) U.2.2.2.1.1 ?_ (lv_room (cat_le hs8)) hd ⟨by omega, by omega⟩) kk
  show (av.reverse ++ xr n :: st).map (cv ad) = _
  rw [List.map_append, List.map_reverse, List.map_cons, cv_ref h2]
theorem wp_callS {M2 : xM} {idx na : Nat} (av : List xV) (hna : av.length = na) (hl : Cond.methodLink M.y.cls idx M2.y ∈ gw) (hl2 : Cond.static M2.y ∈ gw) (MK : MO M2 na) (hwd : wd (av) ≤ M2.mL) (hrm : M2.fr + 1 ≤ M.fr ∧ 8 + (M2.mL + 11) + M2.lo ≤ M.lo) (hs8 : wd st ≤ 8) (hk : k + M2.mc ≤ M.mc) (hd : decode M.cc pc = .ok (.invokestatic idx, 3)) {Q1 : Option xV → xH → Prop} (c1 : WP M2 0 (aL 0 (av)) [] h 0 Q1) (kk : ∀ r h', Q1 r h' → WP M (pc + 3) ls (r.toList ++ st) h' (k + M2.mc) Q) : WP M pc ls (av.reverse ++ st) h k Q := by
  intro p l e R s m args below meth c D A Fin ad0 nm0 h0 C RT H locs ad ac nm lsM U
  have hst : ∀ v ∈ st, oV nm v := fun v hv => U.2.2.2.2.2.1 v (by simp [hv])
  have hav : ∀ v ∈ av, oV nm v := fun v hv => U.2.2.2.2.2.1 v (by simp at hv ⊢; first | exact Or.inl hv | (rcases hv with hv | hv; exact Or.inr (Or.inl hv); exact Or.inl hv))
  have hcl := C.2.2.2.2.2.2.2.1
  have hM := met_of_wp MK.2.2.1 MK.2.2.2.1 l (D := D) (ad := ad) (ac := ac) (av) H.size hwd U.1.2.2.2.1 hav U.1.2.1 c1
  refine call_fin (st := st) (a := (av.map (cv ad)).toArray) C RT U hst hk (va_runS (As := av.map (cv ad)) (rest := st.map (cv ad)) (n := na) (bytes := M2.cc) (maxL := M2.mL) (ret := M2.rt) (index := idx) ⟨C.1, C.2.1, C.2.2.1, C.2.2.2.1, C.2.2.2.2.1⟩ hM ⟨⟨rfl, rfl, by show M2.fr + 1 ≤ _; omega, by show 8 + (M2.mL + 11) + M2.lo ≤ _; omega, gw_pay C.2.2.2.2.1 MK.1, List.mem_cons_self, C.2.2.2.2.1 _ MK.1, C.2.2.2.2.1 _ MK.2.1, MK.2.2.2.2.1, MK.len, C.2.2.2.2.1 _ hl⟩, C.2.2.2.2.1 _ hl2⟩ ⟨PC_blind _ _ _ _ _ _ _, PC_at av U.1 C.2.2.2.2.2.1⟩ rfl (by rw [List.length_map]; exact hna) U.2.2.2.1.1 ?_ (lv_room (cat_le hs8)) hd ⟨by omega, by omega⟩) kk
  show (av.reverse ++ st).map (cv ad) = _
  rw [List.map_append, List.map_reverse]
theorem wp_callI {M2 : xM} {idx na : Nat} (n : xN) (h2 : 2 ≤ n.1) (av : List xV) (hna : av.length = na) (hl : Cond.methodLink M.y.cls idx M2.y ∈ gw) (hl2 : Cond.instanceMethod M2.y ∈ gw) (hnm : M2.y.name = "<init>" ∧ M2.rt = none) (MK : MO M2 na) (hwd : wd (xr n :: av) ≤ M2.mL) (hrm : M2.fr + 1 ≤ M.fr ∧ 8 + (M2.mL + 11) + M2.lo ≤ M.lo) (hs8 : wd st ≤ 8) (hk : k + M2.mc ≤ M.mc) (hd : decode M.cc pc = .ok (.invokespecial idx, 3)) {Q1 : Option xV → xH → Prop} (c1 : WP M2 0 (aL 0 (xr n :: av)) [] h 0 Q1) (kk : ∀ r h', Q1 r h' → WP M (pc + 3) ls (r.toList ++ st) h' (k + M2.mc) Q) : WP M pc ls (av.reverse ++ xr n :: st) h k Q := by
  intro p l e R s m args below meth c D A Fin ad0 nm0 h0 C RT H locs ad ac nm lsM U
  have hst : ∀ v ∈ st, oV nm v := fun v hv => U.2.2.2.2.2.1 v (by simp [hv])
  have hav : ∀ v ∈ xr n :: av, oV nm v := fun v hv => U.2.2.2.2.2.1 v (by simp at hv ⊢; first | exact Or.inl hv | (rcases hv with hv | hv; exact Or.inr (Or.inl hv); exact Or.inl hv))
  have hcl := C.2.2.2.2.2.2.2.1
  have hM := met_of_wp MK.2.2.1 MK.2.2.2.1 l (D := D) (ad := ad) (ac := ac) (xr n :: av) H.size hwd U.1.2.2.2.1 hav U.1.2.1 c1
  have hpc := PC_at (xr n :: av) U.1 C.2.2.2.2.2.1
  rw [List.map_cons, cv_ref h2] at hpc
  refine call_fin (st := st) (a := (Value.ref (ad n) :: av.map (cv ad)).toArray) C RT U hst hk (va_runI (As := av.map (cv ad)) (rest := st.map (cv ad)) (b := ad n) (n := na) (bytes := M2.cc) (maxL := M2.mL) (index := idx) ⟨C.1, C.2.1, C.2.2.1, C.2.2.2.1, C.2.2.2.2.1⟩ hM ⟨by rw [← hnm.2]; exact ⟨rfl, rfl, by show M2.fr + 1 ≤ _; omega, by show 8 + (M2.mL + 11) + M2.lo ≤ _; omega, gw_pay C.2.2.2.2.1 MK.1, List.mem_cons_self, C.2.2.2.2.1 _ MK.1, C.2.2.2.2.1 _ MK.2.1, MK.2.2.2.2.1, MK.len, C.2.2.2.2.1 _ hl⟩, hnm.1, C.2.2.2.2.1 _ hl2⟩ ⟨PC_blind _ _ _ _ _ _ _, hpc⟩ rfl (by rw [List.length_map]; exact hna) U.2.2.2.1.1 ?_ (lv_room (cat_le hs8)) hd ⟨by omega, by omega⟩) kk
  show (av.reverse ++ xr n :: st).map (cv ad) = _
  rw [List.map_append, List.map_reverse, List.map_cons, cv_ref h2]
theorem wp_callIN {M2 : xM} {idx na : Nat} {host : String} (n : xN) (h2 : 2 ≤ n.1) (av : List xV) (hna : av.length = na) (hl : Cond.methodLinkNest M.y.cls idx M2.y host ∈ nw) (hl2 : Cond.instanceMethod M2.y ∈ gw) (hnm : M2.y.name = "<init>" ∧ M2.rt = none) (MK : MO M2 na) (hwd : wd (xr n :: av) ≤ M2.mL) (hrm : M2.fr + 1 ≤ M.fr ∧ 8 + (M2.mL + 11) + M2.lo ≤ M.lo) (hs8 : wd st ≤ 8) (hk : k + M2.mc ≤ M.mc) (hd : decode M.cc pc = .ok (.invokespecial idx, 3)) {Q1 : Option xV → xH → Prop} (c1 : WP M2 0 (aL 0 (xr n :: av)) [] h 0 Q1) (kk : ∀ r h', Q1 r h' → WP M (pc + 3) ls (r.toList ++ st) h' (k + M2.mc) Q) : WP M pc ls (av.reverse ++ xr n :: st) h k Q := by
  intro p l e R s m args below meth c D A Fin ad0 nm0 h0 C RT H locs ad ac nm lsM U
  have hst : ∀ v ∈ st, oV nm v := fun v hv => U.2.2.2.2.2.1 v (by simp [hv])
  have hav : ∀ v ∈ xr n :: av, oV nm v := fun v hv => U.2.2.2.2.2.1 v (by simp at hv ⊢; first | exact Or.inl hv | (rcases hv with hv | hv; exact Or.inr (Or.inl hv); exact Or.inl hv))
  have hcl := C.2.2.2.2.2.2.2.1
  have hM := met_of_wp MK.2.2.1 MK.2.2.2.1 l (D := D) (ad := ad) (ac := ac) (xr n :: av) H.size hwd U.1.2.2.2.1 hav U.1.2.1 c1
  have hpc := PC_at (xr n :: av) U.1 C.2.2.2.2.2.1
  rw [List.map_cons, cv_ref h2] at hpc
  refine call_fin (st := st) (a := (Value.ref (ad n) :: av.map (cv ad)).toArray) C RT U hst hk (va_runIN (As := av.map (cv ad)) (rest := st.map (cv ad)) (b := ad n) (n := na) (bytes := M2.cc) (maxL := M2.mL) (index := idx) (host := host) ⟨C.1, C.2.1, C.2.2.1, C.2.2.2.1, C.2.2.2.2.1⟩ hM ⟨by rw [← hnm.2]; exact ⟨⟨rfl, rfl, by show M2.fr + 1 ≤ _; omega, by show 8 + (M2.mL + 11) + M2.lo ≤ _; omega, gw_pay C.2.2.2.2.1 MK.1, List.mem_cons_self⟩, C.2.2.2.2.1 _ MK.1, C.2.2.2.2.1 _ MK.2.1, MK.2.2.2.2.1, MK.len, va_Nw.use rfl (C.2.2.2.2.2.1.2 _ hl)⟩, hnm.1, C.2.2.2.2.1 _ hl2⟩ ⟨PC_blind _ _ _ _ _ _ _, hpc⟩ rfl (by rw [List.length_map]; exact hna) U.2.2.2.1.1 ?_ (lv_room (cat_le hs8)) hd ⟨by omega, by omega⟩) kk
  show (av.reverse ++ xr n :: st).map (cv ad) = _
  rw [List.map_append, List.map_reverse, List.map_cons, cv_ref h2]
theorem wp_oinit {idx : Nat} {n : xN} (h2 : 2 ≤ n.1) (hl : Cond.methodLink M.y.cls idx Lib.objectInit ∈ gw) (hl2 : Cond.instanceMethod Lib.objectInit ∈ gw) (hl3 : Cond.code Lib.objectInit ⟨#[0xb1]⟩ 1 none ∈ gw) (hfr : 1 ≤ M.fr) (hs8 : wd st ≤ 8) (hlo : 20 ≤ M.lo) (hd : decode M.cc pc = .ok (.invokespecial idx, 3)) (kk : WP M (pc + 3) ls st h k Q) : WP M pc ls (xr n :: st) h k Q := by
  intro p l e R s m args below meth c D A Fin ad0 nm0 h0 C RT H locs ad ac nm lsM U
  have hcl := C.2.2.2.2.2.2.2.1
  have hr8 := lv_room (m := m) (pc := pc) (ls := lsM) (rest := cv ad (xr n) :: st.map (cv ad)) (cat_le (ad := ad) hs8)
  show W p l e R s m args below meth c H locs k (1500 * k) Fin (F0 m pc lsM (cv ad (xr n) :: st.map (cv ad)))
  rw [cv_ref h2] at hr8 ⊢
  exact W.objInit C.1 C.2.1 C.2.2.2.1 (C.2.2.2.2.1 _ hl) (C.2.2.2.2.1 _ hl2) (C.2.2.2.2.1 _ hl3) rfl (U.2.2.2.1.1.trans C.2.2.1.symm) rfl hd (by omega) (by omega) (kk p l e R s m args below meth c D A Fin ad0 nm0 h0 C RT H locs ad ac nm lsM ⟨U.1, U.2.1, U.2.2.1, U.2.2.2.1, U.2.2.2.2.1, (oV_t U.2.2.2.2.2.1), U.2.2.2.2.2.2⟩)
theorem wp_i2fN {idx : Nat} {x : Int32} (hv : vn_sni2f x = false) (hl : Cond.methodLink M.y.cls idx ⟨"java/lang/Float", "intBitsToFloat", "(I)F"⟩ ∈ gw) (hl2 : Cond.native ⟨"java/lang/Float", "intBitsToFloat", "(I)F"⟩ ∈ gw ∧ Cond.static ⟨"java/lang/Float", "intBitsToFloat", "(I)F"⟩ ∈ gw ∧ Cond.initialized "java/lang/Float" ∈ gw) (hfr : 1 ≤ M.fr) (hs8 : wd st ≤ 8) (hlo : 23 ≤ M.lo) (hd : decode M.cc pc = .ok (.invokestatic idx, 3)) (kk : WP M (pc + 3) ls (xf x.toUInt32 :: st) h k Q) : WP M pc ls (xi x :: st) h k Q := by
  intro p l e R s m args below meth c D A Fin ad0 nm0 h0 C RT H locs ad ac nm lsM U
  have hcl := C.2.2.2.2.2.2.2.1
  have hr8 := cat_le (ad := ad) hs8
  exact vn_i2f C.1 C.2.1 (C.2.2.1.trans U.2.2.2.1.1.symm) C.2.2.2.1 (C.2.2.2.2.1 _ hl) (C.2.2.2.2.1 _ hl2.1) (C.2.2.2.2.1 _ hl2.2.1) (C.2.2.2.2.1 _ hl2.2.2) hv (by omega) (by omega) hd (kk p l e R s m args below meth c D A Fin ad0 nm0 h0 C RT H locs ad ac nm lsM ⟨U.1, U.2.1, U.2.2.1, U.2.2.2.1, U.2.2.2.2.1, (oV_s (oV_t U.2.2.2.2.2.1) trivial), U.2.2.2.2.2.2⟩)
theorem wp_f2iN {idx : Nat} {x : UInt32} (hl : Cond.methodLink M.y.cls idx ⟨"java/lang/Float", "floatToRawIntBits", "(F)I"⟩ ∈ gw) (hl2 : Cond.native ⟨"java/lang/Float", "floatToRawIntBits", "(F)I"⟩ ∈ gw ∧ Cond.static ⟨"java/lang/Float", "floatToRawIntBits", "(F)I"⟩ ∈ gw ∧ Cond.initialized "java/lang/Float" ∈ gw) (hfr : 1 ≤ M.fr) (hs8 : wd st ≤ 8) (hlo : 23 ≤ M.lo) (hd : decode M.cc pc = .ok (.invokestatic idx, 3)) (kk : WP M (pc + 3) ls (xi x.toInt32 :: st) h k Q) : WP M pc ls (xf x :: st) h k Q := by
  intro p l e R s m args below meth c D A Fin ad0 nm0 h0 C RT H locs ad ac nm lsM U
  have hcl := C.2.2.2.2.2.2.2.1
  have hr8 := cat_le (ad := ad) hs8
  exact vn_f2i C.1 C.2.1 (C.2.2.1.trans U.2.2.2.1.1.symm) C.2.2.2.1 (C.2.2.2.2.1 _ hl) (C.2.2.2.2.1 _ hl2.1) (C.2.2.2.2.1 _ hl2.2.1) (C.2.2.2.2.1 _ hl2.2.2) (by omega) (by omega) hd (kk p l e R s m args below meth c D A Fin ad0 nm0 h0 C RT H locs ad ac nm lsM ⟨U.1, U.2.1, U.2.2.1, U.2.2.2.1, U.2.2.2.2.1, (oV_s (oV_t U.2.2.2.2.2.1) trivial), U.2.2.2.2.2.2⟩)
def sA (h : xH) (n : xN) (g : Nat → Int32) : xH := (h.1, (fun n' j' => if n' = n then g j' else h.2.1 n' j'), h.2.2)
theorem hI_sA (h : xH) (n : xN) (g : Nat → Int32) (n' : xN) (j' : Nat) : hI (sA h n g) n' j' = if n' = n then g j' else hI h n' j' := rfl
theorem hS_sA (h : xH) (n : xN) (g : Nat → Int32) : hS (sA h n g) = hS h := rfl
theorem hR_sA (h : xH) (n : xN) (g : Nat → Int32) : hR (sA h n g) = hR h := rfl
theorem wp_acopy {idx : Nat} {n0 n1 : xN} {c0 c1 : Nat} {sp dp z : Int32} (hn0 : kd n0.1 = (2, c0)) (hn1 : kd n1.1 = (2, c1)) (h1 : ¬ sp < 0) (h2 : ¬ dp < 0) (h3 : ¬ z < 0) (h4 : sp.toNatClampNeg + z.toNatClampNeg ≤ hS h n0 - 1) (h5 : dp.toNatClampNeg + z.toNatClampNeg ≤ hS h n1 - 1)
    (hl : Cond.methodLink M.y.cls idx arraycopyName ∈ gw) (hl2 : Cond.native arraycopyName ∈ gw ∧ Cond.static arraycopyName ∈ gw ∧ Cond.initialized "java/lang/System" ∈ gw) (hfr : 1 ≤ M.fr) (hs8 : wd st ≤ 8) (hlo : 8 + (nativeFrameWords "java/lang/System" "arraycopy" 5 + 11) ≤ M.lo) (hd : decode M.cc pc = .ok (.invokestatic idx, 3))
    (kk : WP M (pc + 3) ls st (sA h n1 (va_cpy (hI h n0) (hI h n1) sp.toNatClampNeg dp.toNatClampNeg z.toNatClampNeg)) k Q) : WP M pc ls (xi z :: xi dp :: xr n1 :: xi sp :: xr n0 :: st) h k Q := by
  intro p l e R s m args below meth c D A Fin ad0 nm0 h0 C RT H locs ad ac nm lsM U
  have hcl := C.2.2.2.2.2.2.2.1
  have hr8 := cat_le (ad := ad) hs8
  have k0 := kd_ge hn0 (by omega) (by omega)
  have k1 := kd_ge hn1 (by omega) (by omega)
  have hm0 := oV_in (U.2.2.2.2.2.1 (xr n0) (by simp)) k0
  have hm1 := oV_in (U.2.2.2.2.2.1 (xr n1) (by simp)) k1
  obtain ⟨q0, e0, -⟩ := wl_get (ad := ad) (ac := ac) hm0 h
  obtain ⟨q1, e1, e2⟩ := wl_get (ad := ad) (ac := ac) hm1 h
  rw [ce_arr hn0 (Or.inl rfl)] at e0
  rw [ce_arr hn1 (Or.inl rfl)] at e1
  have ha0 := U.1.2.2.2.2 n0 hm0 (by rw [hn0]; simp)
  have ha1 := U.1.2.2.2.2 n1 hm1 (by rw [hn1]; simp)
  rw [aTy_of hn0] at ha0
  rw [aTy_of hn1] at ha1
  have hK2 : va_K D vwCl ([(ac n0, .int)] ++ [(ac n1, .int)]) s := (va_K1 C.2.2.2.2.2.1.1 ha0).app (va_K1 C.2.2.2.2.2.1.1 ha1)
  show W p l e R s m args below meth c H locs k (1500 * k) Fin (F0 m pc lsM (.int z :: .int dp :: cv ad (xr n1) :: .int sp :: cv ad (xr n0) :: st.map (cv ad)))
  rw [cv_ref k0, cv_ref k1]
  refine va_copyi C.1 C.2.1 (C.2.2.1.trans U.2.2.2.1.1.symm) C.2.2.2.1 (C.2.2.2.2.1 _ hl) (C.2.2.2.2.1 _ hl2.1) (C.2.2.2.2.1 _ hl2.2.1) (C.2.2.2.2.1 _ hl2.2.2) hK2 U.1.1 U.1.2.1 U.1.2.2.1 q0 q1 0 1 e0 e1 rfl rfl rfl h1 h2 h3 h4 h5 (fun i _ => rfl) (by omega) (by omega) hd (fun H1 locs1 hP hD hS1 => ?_)
  have hne : ∀ n', n' ≠ n1 → hI (sA h n1 (va_cpy (hI h n0) (hI h n1) sp.toNatClampNeg dp.toNatClampNeg z.toNatClampNeg)) n' = hI h n' := fun n' e => by funext j; rw [hI_sA, if_neg e]
  have h10 : ((1, 0) : xN) ≠ n1 := fun e => by rw [← e] at k1; simp at k1
  rw [wl_set (h := h) U.1.2.2.2.1.1 e2 (h' := sA h n1 (va_cpy (hI h n0) (hI h n1) sp.toNatClampNeg dp.toNatClampNeg z.toNatClampNeg)) (fun n' e => ce_congr rfl (hne n' e) (fun _ => rfl) rfl) (by
    rw [ce_arr hn1 (Or.inl rfl), hS_sA]
    congr 4
    funext j
    rw [hI_sA, if_pos rfl])] at hP hD
  exact kk p l e R s m args below meth c D A Fin ad0 nm0 h0 C RT H1 locs1 ad ac nm lsM ⟨⟨hP, hD, hS1, U.1.2.2.2.1, U.1.2.2.2.2⟩, ⟨U.2.1.1, U.2.1.2.1, U.2.1.2.2.1, fun j => by rw [hne _ h10]; exact U.2.1.2.2.2 j⟩, fun hM => by rw [hS_sA, hne _ h10]; exact U.2.2.1 hM, U.2.2.2.1, U.2.2.2.2.1, (oV_t (oV_t (oV_t (oV_t (oV_t U.2.2.2.2.2.1))))), U.2.2.2.2.2.2⟩
theorem wp_lsw {x : Int32} {df : Int} {ps : Array (Int × Int)} {len : Nat} (hd : decode M.cc pc = .ok (.lookupswitch df ps, len)) (hp : (ps.toList.zip (ps.toList.drop 1)).all (fun (a, next) => a.1 < next.1) = true) (t : Int → Nat) (ht : ∀ y : Int, (pc : Int) + Op.lookupswitch.offset ps.toList df y = (t y : Int)) (kk : WP M (t x.toInt) ls st h k Q) : WP M pc ls (xi x :: st) h k Q := by
  intro p l e R s m args below meth c D A Fin ad0 nm0 h0 C RT H locs ad ac nm lsM U
  exact lv_lookup C.1 C.2.1 hd hp rfl (ht x.toInt) (kk p l e R s m args below meth c D A Fin ad0 nm0 h0 C RT H locs ad ac nm lsM ⟨U.1, U.2.1, U.2.2.1, U.2.2.2.1, U.2.2.2.2.1, (oV_t U.2.2.2.2.2.1), U.2.2.2.2.2.2⟩)
theorem wp_ldcwf {i : Nat} (v : UInt32) (hc : Cond.constantFloat M.y.cls i v ∈ gw) (hd : decode M.cc pc = .ok (.ldc_w i, 3)) (kk : WP M (pc + 3) ls (xf v :: st) h k Q) : WP M pc ls st h k Q := by
  intro p l e R s m args below meth c D A Fin ad0 nm0 h0 C RT H locs ad ac nm lsM U
  intro S hS X
  obtain ⟨t, a, b⟩ := kk p l e R s m args below meth c D A Fin ad0 nm0 h0 C RT H locs ad ac nm lsM ⟨U.1, U.2.1, U.2.2.1, U.2.2.2.1, U.2.2.2.2.1, (oV_s U.2.2.2.2.2.1 trivial), U.2.2.2.2.2.2⟩ S hS X
  refine ⟨t, ?_, b⟩
  obtain ⟨k1, cf, hk, hcf, hcp⟩ := Cond.constantFloat_spec C.2.2.2.1 (C.2.2.2.2.1 _ hc)
  obtain ⟨k', hk', he⟩ := X.warmed.alike.2.2 _ _ hk
  have hd' : decode c.code pc = .ok (.ldc_w i, 3) := by rw [C.2.1]; exact hd
  jvm_step X.here [C.1, hd', ldc_w.wp_float (s := S) (f := F0 m pc lsM (st.map (cv ad))) X.here.top hk' (by rw [he]; exact hcf) hcp]
  exact a
end Rules
