/-! THE CLAIM OUT OF ONE WALK OF THE LAW'S BODY. Your part is whole_start (and what it stands on); all else here is the same for every law, but numbers. -/
def R_law : String := "ToteHouseLaw"
def lw_P (b : Addr) (xs : List Int32) (args : Array Value) (s : State) : Prop := args = #[.ref b] ∧ s.IntsAt b xs ∧ xs.length ≤ 3584 ∧ (Jvm.Cond.and given_1 narrow_1).before args s = true
/-- what a walk over the start with the record d0 says of its end, said of the start itself -/
theorem lw_closed {s t : State} {o : Outcome} {d0 : Drawn} {L : List Loc} {k n : Nat} (hd0 : s.drawn.sameBut d0 lw_cs) (hv : ∃ v, o = .returned v) (hW : (s.setDrawn d0).WarmedH t.vm) (hs : (s.setDrawn d0).sameButNew ({ t with vm := s.vm } : State) L k n) : State.butDraws s t lw_cs (fun t1 => Framed s o t1 L k n) := by
  have h2 : t.drawn = d0 := congrArg State.drawn hs.1
  refine ⟨⟨hv, hW, State.sameButNew.setDrawn hs s.drawn⟩, ?_, by decide⟩
  rw [h2]
  exact hd0
def lw_Q (_ : Array Value) (s : State) (o : Outcome) (t : State) : Prop := o = .returned (some (.int 1)) ∧ State.butDraws s t lw_cs (fun t1 => Framed s o t1 [] 600000 7302250)
def lw_Z (below : List Frame) (a : Array Value) (s : State) : State → Prop := fun t => ∃ o, t.status = .running ∧ Ended t below o ∧ lw_Q a s o t
/-- the law's own end, with 1 on the stack, nothing written that was there before, its room as the claim has it; d0: the record of draws at this point (at the entry s.drawn: begin with 'refine W.base ?_' and 'have hd0 := Drawn.sameBut.refl s.drawn lw_cs') -/
theorem lw_ret {p : Program} {l : Launch} {e : Env} {s : State} {m : MethodId} {below : List Frame} {meth : Method} {c : Code} {b : Nat} {d0 : Drawn} (hd0 : s.drawn.sameBut d0 lw_cs) (hx : p.tables.exec = Jvm.exec) (hb : c.code = code) (hr : meth.sig.returnType = ret) (hlocks : meth.locks = false) {pc : Nat} {H : Heap} {ls : Array Slot} (hdg : decode code pc = .ok (.ireturn, 1)) : W p l e room_1 (s.setDrawn d0) m #[Value.ref b] below meth c H [] 600000 7302250 (lw_Z below #[Value.ref b] s) (F0 m pc ls [.int 1]) := by
  intro T hT X
  obtain ⟨fs, hret, hrun, hended, hW, hframe⟩ := X.leave (v := some (.int 1)) (hlocks := hlocks) (fun h => by rw [hr] at h; cases h)
  have hmeth' : T.vm.method? m = some meth := X.method'
  refine ⟨T.setFrames fs, ?_, .returned (some (.int 1)), hrun, hended, rfl, lw_closed hd0 ⟨_, rfl⟩ hW hframe⟩
  jvm_step X.here [X.here.top, hx, hb, hdg, hmeth', hr, ret, narrow_b1]
  (try refine ⟨rfl, ?_⟩); (try refine ⟨rfl, ?_⟩)
  first | (intro acts; rw [hret _ acts rfl rfl rfl]) | rw [hret _ _ rfl rfl rfl]
  exact Steps.refl _
/-- what holds at the law's entry: the machine, the code, the tables' words (any of lw_tbl by 'hts w (by decide +kernel)'), the script of L ints xs at the cell b, what the Statement gives of the start (any of its parts by flat_of_before) -/
def lw_At (p : Program) (s : State) (m : MethodId) (meth : Method) (c : Code) (b L : Nat) (xs : Nat → Int32) : Prop :=
  p.tables.exec = Jvm.exec ∧ c.code = code ∧ meth.sig.returnType = ret ∧ c.maxLocals = 4 ∧ s.vm.findClass R_law = some m.cls ∧ (∀ w ∈ lw_tbl, w.before #[Value.ref b] s = true) ∧ va_X b L xs s s.heap ∧ b < s.heap.size ∧ meth.locks = false ∧ (Jvm.Cond.and given_1 narrow_1).before #[Value.ref b] s = true
theorem cl_ins0 : Cond.instantiable RX0 2 ∈ gw := gt 37 (by decide +kernel) (by decide +kernel)
theorem cl_ins1 : Cond.instantiable RX1 2 ∈ gw := gt 112 (by decide +kernel) (by decide +kernel)
theorem cl_ins2 : Cond.instantiable RX2 4 ∈ gw := gt 53 (by decide +kernel) (by decide +kernel)
theorem cl_ins3 : Cond.instantiable RX4 10 ∈ gw := gt 278 (by decide +kernel) (by decide +kernel)
theorem cl_ins4 : Cond.instantiable RX5 9 ∈ gw := gt 220 (by decide +kernel) (by decide +kernel)
theorem cl_ins5 : Cond.instantiable RX6 3 ∈ gw := gt 150 (by decide +kernel) (by decide +kernel)
theorem cl_ins6 : Cond.instantiable RX7 9 ∈ gw := gt 77 (by decide +kernel) (by decide +kernel)
theorem cl_ins7 : Cond.instantiable RX8 4 ∈ gw := gt 119 (by decide +kernel) (by decide +kernel)
theorem cl_ins8 : Cond.instantiable RX9 7 ∈ gw := gt 529 (by decide +kernel) (by decide +kernel)
theorem cl_ins9 : Cond.instantiable RX10 16 ∈ gw := gt 19 (by decide +kernel) (by decide +kernel)
theorem cl_ins10 : Cond.instantiable RX11 68 ∈ gw := gt 947 (by decide +kernel) (by decide +kernel)
theorem nw_at {A0 : Array Value} {s : State} (hts : ∀ w ∈ lw_tbl, w.before A0 s = true) : ∀ w ∈ nw, va_Nw w s := by
  intro w hw
  have h1 := hts w (List.mem_append_right _ (List.mem_filter.mp hw).1)
  have h2 := (List.mem_filter.mp hw).2
  cases w with
  | methodLinkNest a b c d => exact va_Nw.of rfl h1
  | arrayOver t =>
    cases t with
    | object C => exact va_AO.of h1
    | _ => simp [nwq] at h2
  | _ => simp [nwq] at h2
set_option maxHeartbeats 4000000 in
set_option maxRecDepth 100000 in
theorem start_of (HP : ∀ (L : Nat) (xs : Nat → Int32), L ≤ 3584 → p_L_law (h_in L xs) (fun r _ => r = 1)) {p : Program} {e : Env} {s : State} {m : MethodId} {below : List Frame} {meth : Method} {c : Code} (l : Launch) {b L : Nat} {xs : Nat → Int32} (hL : L ≤ 3584) (C0 : lw_At p s m meth c b L xs) : W p l e room_1 s m #[Value.ref b] below meth c s.heap [] 0 0 (lw_Z below #[Value.ref b] s) (entryFrame m ([Value.ref b] : List Value).toArray 4) := by
  obtain ⟨hx, hb, hr, hml, hown, hts, hX, hbl, hlocks, hgv⟩ := id C0
  have htg : ∀ w ∈ gw, w.before #[Value.ref b] s = true := fun w hw => hts w (List.mem_filter.mp hw).1
  obtain ⟨c0, iS0, hKn0⟩ := u_known (C := RX0) (T := TX0) (N := 2) (n := 2) htg coX0.2.2.1 (htg (.instantiable RX0 2) cl_ins0)
  obtain ⟨c1, iS1, hKn1⟩ := u_known (C := RX1) (T := TX1) (N := 2) (n := 2) htg coX1.2.2.1 (htg (.instantiable RX1 2) cl_ins1)
  obtain ⟨c2, iS2, hKn2⟩ := u_known (C := RX2) (T := TX2) (N := 4) (n := 4) htg coX2.2.2.1 (htg (.instantiable RX2 4) cl_ins2)
  obtain ⟨c3, iS3, hKn3⟩ := u_known (C := RX4) (T := TX4) (N := 10) (n := 10) htg coX4.2.2.1 (htg (.instantiable RX4 10) cl_ins3)
  obtain ⟨c4, iS4, hKn4⟩ := u_known (C := RX5) (T := TX5) (N := 9) (n := 9) htg coX5.2.2.1 (htg (.instantiable RX5 9) cl_ins4)
  obtain ⟨c5, iS5, hKn5⟩ := u_known (C := RX6) (T := TX6) (N := 3) (n := 3) htg coX6.2.2.1 (htg (.instantiable RX6 3) cl_ins5)
  obtain ⟨c6, iS6, hKn6⟩ := u_known (C := RX7) (T := TX7) (N := 9) (n := 9) htg coX7.2.2.1 (htg (.instantiable RX7 9) cl_ins6)
  obtain ⟨c7, iS7, hKn7⟩ := u_known (C := RX8) (T := TX8) (N := 4) (n := 4) htg coX8.2.2.1 (htg (.instantiable RX8 4) cl_ins7)
  obtain ⟨c8, iS8, hKn8⟩ := u_known (C := RX9) (T := TX9) (N := 7) (n := 7) htg coX9.2.2.1 (htg (.instantiable RX9 7) cl_ins8)
  obtain ⟨c9, iS9, hKn9⟩ := u_known (C := RX10) (T := TX10) (N := 16) (n := 16) htg coX10.2.2.1 (htg (.instantiable RX10 16) cl_ins9)
  obtain ⟨c10, iS10, hKn10⟩ := u_known (C := RX11) (T := TX11) (N := 68) (n := 68) htg coX11.2.2.1 (htg (.instantiable RX11 68) cl_ins10)
  obtain ⟨dC, dI, hKc⟩ : ∃ (dC : Nat → ClassId) (dI : Nat → Nat → Nat), ∀ (k : Nat) (q : vw_C), vwCl[k]? = some q → u_Kn s q.1 q.2.1 q.2.2 (dC k) (dI k) := by
    refine ⟨fun k => if k = 0 then c0 else if k = 1 then c1 else if k = 2 then c2 else if k = 3 then c3 else if k = 4 then c4 else if k = 5 then c5 else if k = 6 then c6 else if k = 7 then c7 else if k = 8 then c8 else if k = 9 then c9 else c10, fun k => if k = 0 then iS0 else if k = 1 then iS1 else if k = 2 then iS2 else if k = 3 then iS3 else if k = 4 then iS4 else if k = 5 then iS5 else if k = 6 then iS6 else if k = 7 then iS7 else if k = 8 then iS8 else if k = 9 then iS9 else iS10, ?_⟩
    intro k q hq
    match k, hq with
    | 0, hq => cases hq; exact hKn0
    | 1, hq => cases hq; exact hKn1
    | 2, hq => cases hq; exact hKn2
    | 3, hq => cases hq; exact hKn3
    | 4, hq => cases hq; exact hKn4
    | 5, hq => cases hq; exact hKn5
    | 6, hq => cases hq; exact hKn6
    | 7, hq => cases hq; exact hKn7
    | 8, hq => cases hq; exact hKn8
    | 9, hq => cases hq; exact hKn9
    | 10, hq => cases hq; exact hKn10
    | k + 11, hq => simp at hq
  have hl := lv_entry ([.ref b]) (n := 4) (Nat.le_of_ble_eq_true rfl)
  rw [lg_entry_eq]
  generalize (lg_sl ([.ref b]) ++ List.replicate (4 - (lg_sl ([.ref b])).length) Slot.unset).toArray = ls at hl ⊢
  have hw := t_L_law (h_in L xs) (fun r _ => r = 1) (HP L xs hL)
  refine hw p l e room_1 s m #[Value.ref b] below meth c (dC, dI) (fun q : Nat => s.heap.size ≤ q) (lw_Z below #[Value.ref b] s) (fun _ => b) [] (h_in L xs) ⟨hx, hb, hml, hown, htg, ⟨⟨hKc, fun k q h => by simp at h⟩, nw_at hts⟩, fun _ h => h, ⟨Nat.le_of_ble_eq_true rfl, Nat.le_of_ble_eq_true rfl, Nat.le_of_ble_eq_true rfl, Nat.le_of_ble_eq_true rfl⟩, fun z => absurd rfl z⟩ ?_ s.heap [] (fun _ => b) (fun _ => 0) [] ls ⟨⟨fun k q h => by simp [wl] at h, ⟨fun i j p q h => by simp [wl] at h, fun k q h => by simp [wl] at h⟩, va_S.rf, ⟨List.nodup_nil, fun n => ⟨fun z => by simp at z, fun z => ?_⟩, fun n z => by simp at z⟩, fun n z => by simp at z⟩, Ext.refl _ _ _, fun _ => ⟨?_, hbl, Nat.not_le.mpr hbl⟩, hl, ?_, fun v hv => by simp at hv, Nat.zero_le _⟩
  · intro H locs ad ac nm lsM h k pc r a1 a2 a3 a4 a5 a6 a7
    rcases r with _ | (x | x | x | n)
    · exact a4.elim
    · have hx1 : x = 1 := a4
      subst hx1
      have hk : k ≤ 4000 := a3
      refine va_forget (fun q hq => a1.2.2.1.2.2 q hq) ?_
      refine W.widen (k := 600000) (n := 7302250) (by omega) (by omega) ?_
      exact W.base (lw_ret (Drawn.sameBut.refl s.drawn lw_cs) hx hb hr hlocks a7)
    · exact a4.elim
    · exact a4.elim
    · exact a4.elim
  · exfalso
    obtain ⟨z1, z2⟩ := z
    have : hS (h_in L xs) n = if n = (1, 0) then L + 1 else 0 := rfl
    rw [this] at z2
    by_cases e : n = (1, 0)
    · rw [e] at z1; simp at z1
    · rw [if_neg e] at z2; exact z2 rfl
  · show va_X b (hS (h_in L xs) (1, 0) - 1) (hI (h_in L xs) (1, 0)) s s.heap
    exact hX
  · intro q hq
    have : q = (0, xr ((1, 0) : xN)) := by simpa using hq
    rw [this]
    exact Or.inr (Or.inl rfl)
