def qi (Q : Int32 → xH → Prop) : Option xV → xH → Prop := fun r h => match r with
  | some (.inl x) => Q x h
  | _ => False
def ql (Q : Int64 → xH → Prop) : Option xV → xH → Prop := fun r h => match r with
  | some (.inr (.inl x)) => Q x h
  | _ => False
def qf (Q : UInt32 → xH → Prop) : Option xV → xH → Prop := fun r h => match r with
  | some (.inr (.inr (.inl x))) => Q x h
  | _ => False
def qr (Q : xN → xH → Prop) : Option xV → xH → Prop := fun r h => match r with
  | some (.inr (.inr (.inr x))) => Q x h
  | _ => False
def qv (Q : xH → Prop) : Option xV → xH → Prop := fun r h => match r with
  | none => Q h
  | _ => False
section Help
variable {M : xM} {pc : Nat} {ls : List (Nat × xV)} {st : List xV} {h : xH} {k : Nat} {Q : Option xV → xH → Prop}
theorem wp_nm {x : Int32} (w : ∀ y, y = x → WP M pc ls (xi y :: st) h k Q) : WP M pc ls (xi x :: st) h k Q := w x rfl
theorem wp_nml {x : Int64} (w : ∀ y, y = x → WP M pc ls (xl y :: st) h k Q) : WP M pc ls (xl x :: st) h k Q := w x rfl
theorem wp_nmf {x : UInt32} (w : ∀ y, y = x → WP M pc ls (xf y :: st) h k Q) : WP M pc ls (xf x :: st) h k Q := w x rfl
theorem wp_nmr {x : xN} (w : ∀ y, y = x → WP M pc ls (xr y :: st) h k Q) : WP M pc ls (xr x :: st) h k Q := w x rfl
theorem wp_nh (w : ∀ y, y = h → WP M pc ls st y k Q) : WP M pc ls st h k Q := w h rfl
theorem wp_nk (w : ∀ y, y = k → WP M pc ls st h y Q) : WP M pc ls st h k Q := w k rfl
theorem WP.at (pc' : Nat) (e : pc = pc') (w : WP M pc' ls st h k Q) : WP M pc ls st h k Q := e ▸ w
theorem WP.pick {ls' : List (Nat × xV)} (ks : List Nat) (e : ks.filterMap (fun k => ls[k]?) = ls') (w : WP M pc ls' st h k Q) : WP M pc ls st h k Q := by
  refine WP.sub w (fun q hq => ?_)
  subst e
  obtain ⟨i, -, hi⟩ := List.mem_filterMap.mp hq
  exact List.mem_of_getElem? hi
theorem wp_iincN {i : Nat} {n : Int} {x : Int32} (c : Int32) (hc : Int32.ofInt n = c) (hl : ls.lookup i = some (xi x)) (hn : i < M.mL) (hd : decode M.cc pc = .ok (.iinc i n, 3)) {ls' : Int32 → List (Nat × xV)} (hls : ∀ v, s1 ls i (xi v) = ls' v) (kk : ∀ v, v = x + c → WP M (pc + 3) (ls' v) st h k Q) : WP M pc ls st h k Q :=
  wp_iinc (x + c) hl (by rw [hc]) hn hd (hls _) (kk _ rfl)
theorem zo_nf {x : Int32} (h : x = 0 ∨ x = 1) : narrow .boolean (.int x) = .int x ∧ fits .boolean (.int x) = true := by rcases h with rfl | rfl <;> exact ⟨rfl, rfl⟩
def LkV (own : String) (idx : Nat) (y : MethodName) (C0 : String) : Prop := Cond.methodLink own idx y ∈ gw ∧ Cond.instanceMethod y ∈ gw ∧ Cond.selects C0 y y ∈ gw
def LkS (own : String) (idx : Nat) (y : MethodName) : Prop := Cond.methodLink own idx y ∈ gw ∧ Cond.static y ∈ gw
def LkI (own : String) (idx : Nat) (y : MethodName) : Prop := Cond.methodLink own idx y ∈ gw ∧ Cond.instanceMethod y ∈ gw
def LkN (own : String) (idx : Nat) (y : MethodName) (host : String) : Prop := Cond.methodLinkNest own idx y host ∈ nw ∧ Cond.instanceMethod y ∈ gw
theorem op3 : Cond.instanceMethod Lib.objectInit ∈ gw ∧ Cond.code Lib.objectInit ⟨#[0xb1]⟩ 1 none ∈ gw := ⟨gt 24 (by decide +kernel) (by decide +kernel), gt 25 (by decide +kernel) (by decide +kernel)⟩
theorem wp_cVi {M2 : xM} {ci : Nat} {C0 : String} {T : u_T} {N : Nat} {ty : Nat → FieldType} (K : CO ci C0 T N ty) {idx na : Nat} (n : xN) (hn : kd n.1 = (1, ci)) (av : List xV) (hna : av.length = na) (L : LkV M.y.cls idx M2.y C0) (MK : MO M2 na) (hwd : wd (xr n :: av) ≤ M2.mL) (hrm : M2.fr + 1 ≤ M.fr ∧ 8 + (M2.mL + 11) + M2.lo ≤ M.lo) (hs8 : wd st ≤ 8) (hk : k + M2.mc ≤ M.mc) (hd : decode M.cc pc = .ok (.invokevirtual idx, 3)) {Q1 : Int32 → xH → Prop} (c1 : WP M2 0 (aL 0 (xr n :: av)) [] h 0 (qi Q1)) (kk : ∀ x h', Q1 x h' → WP M (pc + 3) ls (xi x :: st) h' (k + M2.mc) Q) : WP M pc ls (av.reverse ++ xr n :: st) h k Q :=
  wp_callV K n hn av hna L.1 L.2.1 L.2.2 MK hwd hrm hs8 hk hd c1 (fun r h' hq => match r, hq with
  | some (.inl x), hq => kk x h' hq)
theorem wp_cSi {M2 : xM} {idx na : Nat} (av : List xV) (hna : av.length = na) (L : LkS M.y.cls idx M2.y) (MK : MO M2 na) (hwd : wd (av) ≤ M2.mL) (hrm : M2.fr + 1 ≤ M.fr ∧ 8 + (M2.mL + 11) + M2.lo ≤ M.lo) (hs8 : wd st ≤ 8) (hk : k + M2.mc ≤ M.mc) (hd : decode M.cc pc = .ok (.invokestatic idx, 3)) {Q1 : Int32 → xH → Prop} (c1 : WP M2 0 (aL 0 (av)) [] h 0 (qi Q1)) (kk : ∀ x h', Q1 x h' → WP M (pc + 3) ls (xi x :: st) h' (k + M2.mc) Q) : WP M pc ls (av.reverse ++ st) h k Q :=
  wp_callS av hna L.1 L.2 MK hwd hrm hs8 hk hd c1 (fun r h' hq => match r, hq with
  | some (.inl x), hq => kk x h' hq)
theorem wp_cVl {M2 : xM} {ci : Nat} {C0 : String} {T : u_T} {N : Nat} {ty : Nat → FieldType} (K : CO ci C0 T N ty) {idx na : Nat} (n : xN) (hn : kd n.1 = (1, ci)) (av : List xV) (hna : av.length = na) (L : LkV M.y.cls idx M2.y C0) (MK : MO M2 na) (hwd : wd (xr n :: av) ≤ M2.mL) (hrm : M2.fr + 1 ≤ M.fr ∧ 8 + (M2.mL + 11) + M2.lo ≤ M.lo) (hs8 : wd st ≤ 8) (hk : k + M2.mc ≤ M.mc) (hd : decode M.cc pc = .ok (.invokevirtual idx, 3)) {Q1 : Int64 → xH → Prop} (c1 : WP M2 0 (aL 0 (xr n :: av)) [] h 0 (ql Q1)) (kk : ∀ x h', Q1 x h' → WP M (pc + 3) ls (xl x :: st) h' (k + M2.mc) Q) : WP M pc ls (av.reverse ++ xr n :: st) h k Q :=
  wp_callV K n hn av hna L.1 L.2.1 L.2.2 MK hwd hrm hs8 hk hd c1 (fun r h' hq => match r, hq with
  | some (.inr (.inl x)), hq => kk x h' hq)
theorem wp_cSl {M2 : xM} {idx na : Nat} (av : List xV) (hna : av.length = na) (L : LkS M.y.cls idx M2.y) (MK : MO M2 na) (hwd : wd (av) ≤ M2.mL) (hrm : M2.fr + 1 ≤ M.fr ∧ 8 + (M2.mL + 11) + M2.lo ≤ M.lo) (hs8 : wd st ≤ 8) (hk : k + M2.mc ≤ M.mc) (hd : decode M.cc pc = .ok (.invokestatic idx, 3)) {Q1 : Int64 → xH → Prop} (c1 : WP M2 0 (aL 0 (av)) [] h 0 (ql Q1)) (kk : ∀ x h', Q1 x h' → WP M (pc + 3) ls (xl x :: st) h' (k + M2.mc) Q) : WP M pc ls (av.reverse ++ st) h k Q :=
  wp_callS av hna L.1 L.2 MK hwd hrm hs8 hk hd c1 (fun r h' hq => match r, hq with
  | some (.inr (.inl x)), hq => kk x h' hq)
theorem wp_cVf {M2 : xM} {ci : Nat} {C0 : String} {T : u_T} {N : Nat} {ty : Nat → FieldType} (K : CO ci C0 T N ty) {idx na : Nat} (n : xN) (hn : kd n.1 = (1, ci)) (av : List xV) (hna : av.length = na) (L : LkV M.y.cls idx M2.y C0) (MK : MO M2 na) (hwd : wd (xr n :: av) ≤ M2.mL) (hrm : M2.fr + 1 ≤ M.fr ∧ 8 + (M2.mL + 11) + M2.lo ≤ M.lo) (hs8 : wd st ≤ 8) (hk : k + M2.mc ≤ M.mc) (hd : decode M.cc pc = .ok (.invokevirtual idx, 3)) {Q1 : UInt32 → xH → Prop} (c1 : WP M2 0 (aL 0 (xr n :: av)) [] h 0 (qf Q1)) (kk : ∀ x h', Q1 x h' → WP M (pc + 3) ls (xf x :: st) h' (k + M2.mc) Q) : WP M pc ls (av.reverse ++ xr n :: st) h k Q :=
  wp_callV K n hn av hna L.1 L.2.1 L.2.2 MK hwd hrm hs8 hk hd c1 (fun r h' hq => match r, hq with
  | some (.inr (.inr (.inl x))), hq => kk x h' hq)
theorem wp_cSf {M2 : xM} {idx na : Nat} (av : List xV) (hna : av.length = na) (L : LkS M.y.cls idx M2.y) (MK : MO M2 na) (hwd : wd (av) ≤ M2.mL) (hrm : M2.fr + 1 ≤ M.fr ∧ 8 + (M2.mL + 11) + M2.lo ≤ M.lo) (hs8 : wd st ≤ 8) (hk : k + M2.mc ≤ M.mc) (hd : decode M.cc pc = .ok (.invokestatic idx, 3)) {Q1 : UInt32 → xH → Prop} (c1 : WP M2 0 (aL 0 (av)) [] h 0 (qf Q1)) (kk : ∀ x h', Q1 x h' → WP M (pc + 3) ls (xf x :: st) h' (k + M2.mc) Q) : WP M pc ls (av.reverse ++ st) h k Q :=
  wp_callS av hna L.1 L.2 MK hwd hrm hs8 hk hd c1 (fun r h' hq => match r, hq with
  | some (.inr (.inr (.inl x))), hq => kk x h' hq)
theorem wp_cVr {M2 : xM} {ci : Nat} {C0 : String} {T : u_T} {N : Nat} {ty : Nat → FieldType} (K : CO ci C0 T N ty) {idx na : Nat} (n : xN) (hn : kd n.1 = (1, ci)) (av : List xV) (hna : av.length = na) (L : LkV M.y.cls idx M2.y C0) (MK : MO M2 na) (hwd : wd (xr n :: av) ≤ M2.mL) (hrm : M2.fr + 1 ≤ M.fr ∧ 8 + (M2.mL + 11) + M2.lo ≤ M.lo) (hs8 : wd st ≤ 8) (hk : k + M2.mc ≤ M.mc) (hd : decode M.cc pc = .ok (.invokevirtual idx, 3)) {Q1 : xN → xH → Prop} (c1 : WP M2 0 (aL 0 (xr n :: av)) [] h 0 (qr Q1)) (kk : ∀ x h', Q1 x h' → WP M (pc + 3) ls (xr x :: st) h' (k + M2.mc) Q) : WP M pc ls (av.reverse ++ xr n :: st) h k Q :=
  wp_callV K n hn av hna L.1 L.2.1 L.2.2 MK hwd hrm hs8 hk hd c1 (fun r h' hq => match r, hq with
  | some (.inr (.inr (.inr x))), hq => kk x h' hq)
theorem wp_cSr {M2 : xM} {idx na : Nat} (av : List xV) (hna : av.length = na) (L : LkS M.y.cls idx M2.y) (MK : MO M2 na) (hwd : wd (av) ≤ M2.mL) (hrm : M2.fr + 1 ≤ M.fr ∧ 8 + (M2.mL + 11) + M2.lo ≤ M.lo) (hs8 : wd st ≤ 8) (hk : k + M2.mc ≤ M.mc) (hd : decode M.cc pc = .ok (.invokestatic idx, 3)) {Q1 : xN → xH → Prop} (c1 : WP M2 0 (aL 0 (av)) [] h 0 (qr Q1)) (kk : ∀ x h', Q1 x h' → WP M (pc + 3) ls (xr x :: st) h' (k + M2.mc) Q) : WP M pc ls (av.reverse ++ st) h k Q :=
  wp_callS av hna L.1 L.2 MK hwd hrm hs8 hk hd c1 (fun r h' hq => match r, hq with
  | some (.inr (.inr (.inr x))), hq => kk x h' hq)
theorem wp_cVv {M2 : xM} {ci : Nat} {C0 : String} {T : u_T} {N : Nat} {ty : Nat → FieldType} (K : CO ci C0 T N ty) {idx na : Nat} (n : xN) (hn : kd n.1 = (1, ci)) (av : List xV) (hna : av.length = na) (L : LkV M.y.cls idx M2.y C0) (MK : MO M2 na) (hwd : wd (xr n :: av) ≤ M2.mL) (hrm : M2.fr + 1 ≤ M.fr ∧ 8 + (M2.mL + 11) + M2.lo ≤ M.lo) (hs8 : wd st ≤ 8) (hk : k + M2.mc ≤ M.mc) (hd : decode M.cc pc = .ok (.invokevirtual idx, 3)) {Q1 : xH → Prop} (c1 : WP M2 0 (aL 0 (xr n :: av)) [] h 0 (qv Q1)) (kk : ∀ h', Q1 h' → WP M (pc + 3) ls st h' (k + M2.mc) Q) : WP M pc ls (av.reverse ++ xr n :: st) h k Q :=
  wp_callV K n hn av hna L.1 L.2.1 L.2.2 MK hwd hrm hs8 hk hd c1 (fun r h' hq => match r, hq with
  | none, hq => kk h' hq)
theorem wp_cSv {M2 : xM} {idx na : Nat} (av : List xV) (hna : av.length = na) (L : LkS M.y.cls idx M2.y) (MK : MO M2 na) (hwd : wd (av) ≤ M2.mL) (hrm : M2.fr + 1 ≤ M.fr ∧ 8 + (M2.mL + 11) + M2.lo ≤ M.lo) (hs8 : wd st ≤ 8) (hk : k + M2.mc ≤ M.mc) (hd : decode M.cc pc = .ok (.invokestatic idx, 3)) {Q1 : xH → Prop} (c1 : WP M2 0 (aL 0 (av)) [] h 0 (qv Q1)) (kk : ∀ h', Q1 h' → WP M (pc + 3) ls st h' (k + M2.mc) Q) : WP M pc ls (av.reverse ++ st) h k Q :=
  wp_callS av hna L.1 L.2 MK hwd hrm hs8 hk hd c1 (fun r h' hq => match r, hq with
  | none, hq => kk h' hq)
theorem wp_cI {M2 : xM} {idx na : Nat} (n : xN) (h2 : 2 ≤ n.1) (av : List xV) (hna : av.length = na) (L : LkI M.y.cls idx M2.y) (hnm : M2.y.name = "<init>" ∧ M2.rt = none) (MK : MO M2 na) (hwd : wd (xr n :: av) ≤ M2.mL) (hrm : M2.fr + 1 ≤ M.fr ∧ 8 + (M2.mL + 11) + M2.lo ≤ M.lo) (hs8 : wd st ≤ 8) (hk : k + M2.mc ≤ M.mc) (hd : decode M.cc pc = .ok (.invokespecial idx, 3)) {Q1 : xH → Prop} (c1 : WP M2 0 (aL 0 (xr n :: av)) [] h 0 (qv Q1)) (kk : ∀ h', Q1 h' → WP M (pc + 3) ls st h' (k + M2.mc) Q) : WP M pc ls (av.reverse ++ xr n :: st) h k Q :=
  wp_callI n h2 av hna L.1 L.2 hnm MK hwd hrm hs8 hk hd c1 (fun r h' hq => match r, hq with
  | none, hq => kk h' hq)
theorem wp_cN {M2 : xM} {idx na : Nat} {host : String} (n : xN) (h2 : 2 ≤ n.1) (av : List xV) (hna : av.length = na) (L : LkN M.y.cls idx M2.y host) (hnm : M2.y.name = "<init>" ∧ M2.rt = none) (MK : MO M2 na) (hwd : wd (xr n :: av) ≤ M2.mL) (hrm : M2.fr + 1 ≤ M.fr ∧ 8 + (M2.mL + 11) + M2.lo ≤ M.lo) (hs8 : wd st ≤ 8) (hk : k + M2.mc ≤ M.mc) (hd : decode M.cc pc = .ok (.invokespecial idx, 3)) {Q1 : xH → Prop} (c1 : WP M2 0 (aL 0 (xr n :: av)) [] h 0 (qv Q1)) (kk : ∀ h', Q1 h' → WP M (pc + 3) ls st h' (k + M2.mc) Q) : WP M pc ls (av.reverse ++ xr n :: st) h k Q :=
  wp_callIN n h2 av hna L.1 L.2 hnm MK hwd hrm hs8 hk hd c1 (fun r h' hq => match r, hq with
  | none, hq => kk h' hq)
end Help
