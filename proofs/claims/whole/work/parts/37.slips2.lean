section Slips2
variable {L : Nat} {xs : Nat → Int32} {nr nt : Nat} {h : xH}
/-- promise 35 -/
theorem o_change (H : Ok L xs h) (x y k l : Int32) {F : Int32 → xH → Prop} (hF : Nx L xs (p_M_change (12, 0) x y k l) F) : p_T_change (11, 0) x y k l h F := by
  obtain ⟨nr, nt, i⟩ := H
  unfold p_T_change
  refine ⟨rfl, w_refuseCell i (Or.inr rfl) (fun c => ⟨fun _ => hF _ _ i.vs (fun G hG => ?_), fun z => absurd z (by decide)⟩) (fun w hw e => ?_)⟩
  · unfold p_M_change
    exact w_mWindow (fun _ => ⟨fun z => absurd rfl z, fun _ => hG h ⟨nr, nt, i⟩⟩) (fun w hw e => absurd e (c w hw))
  · subst e
    by_cases k0 : lkC (hI h) w y 3 k = 0
    · rw [k0]
      refine ⟨fun z => absurd rfl z, fun _ => w_refuseCell i (Or.inr rfl) (fun c => absurd rfl (c w hw)) (fun w2 hw2 e2 => ?_)⟩
      rw [nI_inj (by omega) (by omega)] at e2
      subst e2
      by_cases l0 : lkC (hI h) w y 3 l = 0
      · rw [l0]
        obtain ⟨j, q, z, hj, hq, hz, rfl, rfl, kw, sl, z2, z3⟩ := cell_0 i hw (Or.inr rfl) k0
        obtain ⟨j', q', z', hj', hq', hz', ej, rfl, kw', sl', z2', z3'⟩ := cell_0 i hw (Or.inr rfl) l0
        rw [nI_inj (by omega) (by omega)] at ej
        subst ej
        obtain ⟨r1, r2, r3, r4, r5, r6, r7, r8⟩ := slipR (j := j) i hw (by omega)
        have n1 := coin_eq sl kw z3 hz hq
        have n2 := coin_eq sl' kw' z3' hz' hq'
        refine ⟨fun _ => ?_, fun z => absurd rfl z⟩
        show _ ∧ _
        rw [show hp h 0 = h from rfl, r1, r2, cl_n (by omega), cl_n (by omega), cl_n (by omega), cl_n (by omega), r3, r4, r5, r6, r7, r8, n1, n2]
        refine ⟨rfl, in_n (by omega) (by omega), rfl, rfl, in_n (by omega) (by omega), rfl, rfl, in_n (by omega) (by omega), fun v hv => ⟨fun c => ⟨in_n (by omega) (by omega), in_n (by omega) (by omega), in_n (by omega) (by omega), c, hF _ _ i.vs (fun G hG => ?_)⟩, fun c => w_found i.x (k := 6) (by omega) (fin_find0 (k := 6) i (by omega) (by omega) hF (fun G g => ?_))⟩⟩
        · unfold p_M_change
          refine w_mWindow (fun c => absurd rfl (c w hw)) (fun w' _ _ => ⟨fun _ => ⟨rfl, w_lacksItem i.m hw (dw_of i hw) (hz_of i (Sm.rf _ h) hw (Or.inr rfl)) ⟨fun _ => w_lacksItem i.m hw (dw_of i hw) (hz_of i (Sm.rf _ h) hw (Or.inr rfl)) ?_, fun z => absurd (by rw [k0]; decide) z⟩⟩, fun z => absurd z (by decide)⟩)
          rw [l0]
          unfold p_M_change_j38
          rw [mR57 i.m, mS57 i.m, ix12, ix8, ix8, cl_n (by omega), cl_n (by omega)]
          refine ⟨fun _ => ⟨rfl, rfl, in_n (by omega) (by omega), fun v2 hv2 => ?_⟩, fun z => absurd (by decide) z⟩
          rw [← hv] at hv2
          subst hv2
          exact ⟨fun _ => ⟨in_n (by omega) (by omega), c, hG h ⟨nr, nt, i⟩⟩, fun z => absurd z c⟩
        · unfold p_M_change
          refine w_mWindow (fun c => absurd rfl (c w hw)) (fun w' _ _ => ⟨fun _ => ⟨rfl, w_lacksItem (h := fd h 6) i.m hw (DW_eq (KC_m (fd_sm h _)) (dw_of i hw)) (hz_of i (fd_sm h _) hw (Or.inr rfl)) ?_⟩, fun z => absurd z (by decide)⟩)
          rw [lkC_eq (KC_m (fd_sm h _)), k0]
          refine ⟨fun _ => w_lacksItem (h := fd h 6) i.m hw (DW_eq (KC_m (fd_sm h _)) (dw_of i hw)) (hz_of i (fd_sm h _) hw (Or.inr rfl)) ?_, fun z => absurd (by decide) z⟩
          rw [lkC_eq (KC_m (fd_sm h _)), l0]
          unfold p_M_change_j38
          rw [mR57 (S := hS (fd h 6)) (R := hR (fd h 6)) i.m, mS57 (S := hS (fd h 6)) (R := hR (fd h 6)) i.m, ix12, ix8, ix8, cl_n (by omega), cl_n (by omega), KC_m (fd_sm h 6) _ _ (by omega)]
          refine ⟨fun _ => ⟨rfl, rfl, in_n (by omega) (by omega), fun v2 hv2 => ?_⟩, fun z => absurd (by decide) z⟩
          rw [← hv] at hv2
          subst hv2
          exact ⟨fun z => absurd c z, fun _ => g⟩
      · refine ⟨fun z => absurd ((cd_0 (lkC_lt _ _ _ _ _)).mp z) l0, fun _ => fin_find0 i l0 (lkC_lt _ _ _ _ _) hF (fun G g => ?_)⟩
        unfold p_M_change
        refine w_mWindow (fun c => absurd rfl (c w hw)) (fun w' _ _ => ⟨fun _ => ⟨rfl, w_lacksItem (h := fd h _) i.m hw (DW_eq (KC_m (fd_sm h _)) (dw_of i hw)) (hz_of i (fd_sm h _) hw (Or.inr rfl)) ?_⟩, fun z => absurd z (by decide)⟩)
        rw [lkC_eq (KC_m (fd_sm h _)), k0]
        refine ⟨fun _ => w_lacksItem (h := fd h _) i.m hw (DW_eq (KC_m (fd_sm h _)) (dw_of i hw)) (hz_of i (fd_sm h _) hw (Or.inr rfl)) ?_, fun z => absurd (by decide) z⟩
        rw [lkC_eq (KC_m (fd_sm h _))]
        unfold p_M_change_j38
        exact ⟨fun z => absurd ((nI_le0 (lkC_lt _ _ _ _ _)).mp z) l0, fun _ => ⟨rfl, g⟩⟩
    · refine ⟨fun _ => fin_find0 i k0 (lkC_lt _ _ _ _ _) hF (fun G g => ?_), fun z => absurd ((cd_0 (lkC_lt _ _ _ _ _)).mp z) k0⟩
      unfold p_M_change
      refine w_mWindow (fun c => absurd rfl (c w hw)) (fun w' _ _ => ⟨fun _ => ⟨rfl, w_lacksItem (h := fd h _) i.m hw (DW_eq (KC_m (fd_sm h _)) (dw_of i hw)) (hz_of i (fd_sm h _) hw (Or.inr rfl)) ?_⟩, fun z => absurd z (by decide)⟩)
      rw [lkC_eq (KC_m (fd_sm h _))]
      unfold p_M_change_j38
      exact ⟨fun z => absurd ((nI_le0 (lkC_lt _ _ _ _ _)).mp z) k0, fun _ => ⟨fun z => absurd ((nI_le0 (lkC_lt _ _ _ _ _)).mp z) k0, fun _ => ⟨rfl, g⟩⟩⟩
theorem w_findTicket (i : Inv L xs nr nt h) {r : Int32} {Q : xN → xH → Prop} (no : (∀ j, j < nt → r ≠ nI j) → Q (0, 0) h) (yes : ∀ j, j < nt → r = nI j → Q (10, j) h) : p_T_findTicket (11, 0) r h Q := by
  have hc := i.vc
  have hn := hc.2.1
  have e0 : (0 : Int32).toInt = 0 := rfl
  unfold p_T_findTicket
  refine ⟨fun c => no (fun j hj e => ?_), fun c => ⟨rfl, fun c2 => ?_, fun c2 => no (fun j hj e => ?_)⟩⟩
  · rw [e, ti_lt, ti_n (by omega)] at c; omega
  · rw [hc.2.2.2.2.1] at c2
    obtain ⟨j, hj, rfl⟩ := arg_lt c c2 (by omega)
    rw [xR_11_0_2 i.x, xS_29_0 i.x]
    refine ⟨rfl, in_n (by omega) (by omega), ?_⟩
    rw [cl_n (by omega), (i.st.1 j hj).1]
    exact yes j hj rfl
  · apply c2
    rw [hc.2.2.2.2.1, e, ti_lt, ti_n (by omega), ti_n (by omega)]; omega
theorem w_isTicket {nt : Nat} (hn : nt ≤ 200) (e : hI h (12, 0) 23 = nI nt) {r : Int32} {Q : Int32 → xH → Prop} (no : (∀ j, j < nt → r ≠ nI j) → Q 0 h) (yes : ∀ j, j < nt → r = nI j → Q 1 h) : p_M_isTicket (12, 0) r h Q := by
  have e0 : (0 : Int32).toInt = 0 := rfl
  unfold p_M_isTicket
  rw [e]
  refine ⟨rfl, w_in (fun c => ⟨Or.inl rfl, no (fun j hj e => ?_)⟩) (fun c => ⟨Or.inr rfl, ?_⟩)⟩
  · rw [e, ti_n (by omega), e0, sub1 (by omega)] at c; omega
  · rw [e0, sub1 (by omega)] at c
    refine yes r.toInt.toNat (by omega) ?_
    rw [ti_eq, ti_n (by omega)]; omega
/-- the pool of a ticket -/
theorem tk_pool (i : Inv L xs nr nt h) {t : Nat} (ht : t < nt) : ∃ p, p < 49 ∧ hI h (58, 0) t = nI p ∧ hI h (40, 0) p = 1 ∧ hR h (10, t) 0 = (5, p) ∧ hI h (5, p) 1 = nI (kf p) := by
  obtain ⟨p, a, b, c, u, a1, a2, a3, -⟩ := i.vt.1 t ht
  refine ⟨p, a1, a2, a3, ?_, ((i.vp p a1).1 a3).2.2.2.2.1⟩
  rw [(i.st.1 t ht).2, a2, cl_n (by omega)]
theorem w_mKindOf {p : Nat} (hp : p < 49) {Q : Int32 → xH → Prop} (q : Q (nI (kf p)) h) : p_M_kindOf (nI p) h Q := by
  unfold p_M_kindOf
  refine ⟨fun c => ?_, fun c => ?_⟩
  · have hne : p ≠ 48 := fun e => c (by rw [e]; rfl)
    have e1 : nI p - nI p / (4 : Int32) * 4 = nI (p % 4) := pk_rem (a := p) (d := 4) (by omega) (by omega) (by omega)
    rw [e1]
    rw [show kf p = p % 4 by unfold kf; rw [if_neg hne]] at q
    exact q
  · have he : p = 48 := by
      have := (nI_inj (a := p) (b := 48) (by omega) (by omega)).mp c
      exact this
    subst he
    exact q
def kv (I : xN → Nat → Int32) (s : Nat) : Int32 := if I (87, 0) s = 0 then -1 else if I (87, 0) s = 1 then nI (kf (I (58, 0) (I (88, 0) s).toNatClampNeg).toNatClampNeg) else if I (87, 0) s = 2 then 5 else 6
theorem w_kindOf (i : Inv L xs nr nt h) {s : Nat} (sl : SlOK (hI h) nt s) {Q : Int32 → xH → Prop} (q : Q (kv (hI h) s) h) : p_T_kindOf (11, 0) (9, s) h Q := by
  have hn := i.vc.2.1
  unfold p_T_kindOf
  unfold kv at q
  refine ⟨rfl, rfl, w_findTicket i (fun no => ?_) (fun j hj e => ?_)⟩
  · show _ ∧ _
    rw [sl.1]
    rcases sl.2 with c | ⟨c, c2, t, ht, c3⟩ | ⟨c, -⟩ | ⟨c, -⟩
    · rw [c] at q ⊢
      exact ⟨fun z => absurd z (by decide), fun z => absurd z (by decide), fun z => absurd z (by decide), fun _ => q⟩
    · exact absurd (c2.trans c3) (no t ht)
    · rw [c] at q ⊢
      exact ⟨fun z => absurd z (by decide), fun _ => q, fun z => absurd z (by decide), fun z => absurd rfl (z 2 (by simp))⟩
    · rw [c] at q ⊢
      exact ⟨fun z => absurd z (by decide), fun z => absurd z (by decide), fun _ => q, fun z => absurd rfl (z 3 (by simp))⟩
  · show _ ∧ _
    rw [sl.1]
    rcases sl.2 with c | ⟨c, c2, t, ht, c3⟩ | ⟨c, -⟩ | ⟨c, -⟩ <;> rw [c] at q ⊢
    · exact ⟨fun z => absurd z (by decide), fun z => absurd z (by decide), fun z => absurd z (by decide), fun _ => q⟩
    · obtain ⟨p, p1, p2, p3, p4, p5⟩ := tk_pool i ht
      have ej : j = t := (nI_inj (by omega) (by omega)).mp (e.symm.trans (c2.trans c3))
      rw [ej, p4, p5]
      rw [if_neg (by decide), if_pos rfl, c3, cl_n (by omega), p2, cl_n (by omega)] at q
      exact ⟨fun _ => ⟨fun _ => ⟨rfl, rfl, q⟩, fun z => absurd z (nz 9 t)⟩, fun z => absurd z (by decide), fun z => absurd z (by decide), fun z => absurd rfl (z 1 (by simp))⟩
    · exact ⟨fun z => absurd z (by decide), fun _ => q, fun z => absurd z (by decide), fun z => absurd rfl (z 2 (by simp))⟩
    · exact ⟨fun z => absurd z (by decide), fun z => absurd z (by decide), fun _ => q, fun z => absurd rfl (z 3 (by simp))⟩
/-- the model's kind, where the model is the same -/
theorem w_kindAt (i : Inv L xs nr nt h) {h1 : xH} (s1 : Sm KC h h1) {s : Nat} (hs : s < 72) (sl : SlOK (hI h) nt s) {Q : Int32 → xH → Prop} (q : Q (kv (hI h) s) h1) : p_M_kindAt (12, 0) (nI s) h1 Q := by
  have hn := i.vc.2.1
  have m : ShM (hS h1) (hR h1) := by rw [s1.2.1, s1.2.2]; exact i.m
  unfold p_M_kindAt
  unfold kv at q
  rw [mR53 m, mS53 m, mR54 m, mS54 m, mR24 m, mS24 m, cl_n (by omega), KC_m s1 _ _ (by omega), KC_m s1 _ _ (by omega), KC_m s1 _ _ (by omega)]
  rcases sl.2 with c | ⟨c, c2, t, ht, c3⟩ | ⟨c, -⟩ | ⟨c, -⟩ <;> rw [c] at q ⊢
  · exact ⟨rfl, rfl, in_n (by omega) (by omega), fun z => absurd rfl z, fun _ => q⟩
  · obtain ⟨p, p1, p2, p3, p4, p5⟩ := tk_pool i ht
    rw [c3, cl_n (by omega), p2]
    rw [if_neg (by decide), if_pos rfl, c3, cl_n (by omega), p2, cl_n (by omega)] at q
    exact ⟨rfl, rfl, in_n (by omega) (by omega), fun _ => ⟨in_n (by omega) (by omega), fun z => absurd rfl z, fun _ => ⟨rfl, in_n (by omega) (by omega), rfl, in_n (by omega) (by omega), w_mKindOf p1 q⟩⟩, fun z => absurd z (by decide)⟩
  · exact ⟨rfl, rfl, in_n (by omega) (by omega), fun _ => ⟨in_n (by omega) (by omega), fun _ => ⟨in_n (by omega) (by omega), fun z => absurd rfl z, fun _ => q⟩, fun z => absurd z (by decide)⟩, fun z => absurd z (by decide)⟩
  · exact ⟨rfl, rfl, in_n (by omega) (by omega), fun _ => ⟨in_n (by omega) (by omega), fun _ => ⟨in_n (by omega) (by omega), fun _ => q, fun z => absurd z (by decide)⟩, fun z => absurd z (by decide)⟩, fun z => absurd z (by decide)⟩
/-- promise 30 -/
theorem o_kind (H : Ok L xs h) (x y : Int32) {F : Int32 → xH → Prop} (hF : Nx L xs (p_M_kind (12, 0) x y) F) : p_T_kind (11, 0) x y h F := by
  obtain ⟨nr, nt, i⟩ := H
  unfold p_T_kind
  refine ⟨rfl, w_refuseSlip i (fun c => ⟨fun z => absurd z (by decide), fun _ => hF _ _ i.vs (fun G hG => ?_)⟩) (fun w hw e => ?_)⟩
  · unfold p_M_kind
    exact w_mWindow (fun _ => ⟨fun z => absurd rfl z, fun _ => hG h ⟨nr, nt, i⟩⟩) (fun w hw e => absurd e (c w hw))
  · subst e
    by_cases k0 : lkS (hI h) w y = 0
    · rw [k0]
      obtain ⟨n, j, n1, n2, ey, -, -, -, sl⟩ := lkS_0 i hw k0
      subst ey
      obtain ⟨r1, r2, r3, r4, r5, r6, r7, r8⟩ := slipR (j := j) i hw (by omega)
      refine ⟨fun _ => ?_, fun z => absurd rfl z⟩
      show _ ∧ _
      rw [show hp h 0 = h from rfl, r1, r2, cl_n (by omega), cl_n (by omega), r3, r4, r5, r6]
      refine ⟨rfl, in_n (by omega) (by omega), rfl, rfl, in_n (by omega) (by omega), w_kindOf i sl (hF _ _ i.vs (fun G hG => ?_))⟩
      unfold p_M_kind
      refine w_mWindow (fun c => absurd rfl (c w hw)) (fun w' _ _ => ⟨fun _ => ⟨rfl, w_lacks i.m hw (dw_of i hw) ⟨fun _ => ?_, fun z => absurd (by rw [k0]; decide) z⟩⟩, fun z => absurd z (by decide)⟩)
      rw [ix12]
      exact w_kindAt i (Sm.rf _ h) (by omega) sl (hG h ⟨nr, nt, i⟩)
    · refine ⟨fun z => absurd ((cd_0 (lkS_lt _ _ _)).mp z) k0, fun _ => fin_find i k0 (lkS_lt _ _ _) hF (fun G g => ?_)⟩
      unfold p_M_kind
      refine w_mWindow (fun c => absurd rfl (c w hw)) (fun w' _ _ => ⟨fun _ => ⟨rfl, w_lacks (h := fd h _) i.m hw (DW_eq (KC_m (fd_sm h _)) (dw_of i hw)) ?_⟩, fun z => absurd z (by decide)⟩)
      rw [lkS_eq (KC_m (fd_sm h _))]
      exact ⟨fun z => absurd ((nI_le0 (lkS_lt _ _ _)).mp z) k0, fun _ => g⟩
end Slips2
