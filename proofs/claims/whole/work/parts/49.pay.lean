section Pay
variable {L : Nat} {xs : Nat → Int32} {nr nt : Nat} {v h g : xH}
theorem eC_kc (h : xH) (t p l e : Nat) (u st c : Int32) : Sm KC h (eC h t p l e u st c) := ((((Sm.rf _ h).si _ (by simp [KC])).si _ (by simp [KC])).si _ (by simp [KC])).si _ (by simp [KC])
theorem eC_sc (s : SC v h) (t p l e : Nat) (u st c st' c' : Int32) {e' : Nat} : SC (eM (eC v t p l e u st c) t p e' st' c') (eC h t p l e u st c) := by
  unfold eM eC
  rw [s.i 17 p, s.i 5 p, s.i 19 p]
  exact (((((s.si _ _ _).si _ _ _).si _ _ _).si _ _ _).om (Or.inl (by simp)) _ _).om (Or.inl (by simp; omega)) _ _
theorem eC_m (h : xH) (t p l e : Nat) (u st c : Int32) (k q : Nat) (hk : 34 ≤ k ∨ k = 12) : hI (eC h t p l e u st c) (k, 0) q = hI h (k, 0) q := (SM.kc (eC_kc h t p l e u st c)).1 _ _ hk
theorem eM_sm (s : SM v g) (t p l e : Nat) (u st c st' c' : Int32) {e' : Nat} : SM (eM (eC v t p l e u st c) t p e' st' c') (eM g t p e' st' c') := by
  unfold eM
  rw [eC_m _ _ _ _ _ _ _ _ (46 + e') p (by omega), s.1 (46 + e', 0) p (Or.inl (by simp; omega))]
  refine SM.si (SM.si ?_ _ _ _) _ _ _
  unfold eC
  exact (((s.oc ⟨by simp, by simp⟩ _ _).oc ⟨by simp, by simp⟩ _ _).oc ⟨by simp, by simp⟩ _ _).oc ⟨by simp, by simp⟩ _ _
theorem eM_wc (s : SC v g) (t p e : Nat) (st c : Int32) : SC v (eM g t p e st c) := (s.wm (Or.inl (by simp)) _ _).wm (Or.inl (by simp; omega)) _ _
theorem w_dueTo0 (m : ShM (hS g) (hR g)) {t : Nat} (ht : t < 200) (e : hI g (66, 0) t = 0 ∨ hI g (66, 0) t = 1) {Q : Int32 → xH → Prop} (q : Q (du (hI g) t) g) : p_M_dueTo (12, 0) (nI t) g Q := by
  unfold p_M_dueTo
  unfold du at q
  rw [mR32 m, mS32 m, mR31 m, mS31 m, mR28 m, mS28 m, cl_n (by omega)]
  refine ⟨rfl, rfl, in_n (by omega) (by omega), fun c => ?_, fun c => ⟨rfl, in_n (by omega) (by omega), rfl, in_n (by omega) (by omega), ?_⟩⟩
  · rw [if_neg (by rw [c]; decide)] at q; exact q
  · rw [if_pos (e.resolve_left c)] at q; exact q
theorem w_payOne (i : Inv L xs nr nt v) (s : SM v g) {t p a b c u : Nat} (ht : t < nt) (k : TkF (hI v) t p a b c u) {Q : Int32 → xH → Prop} (q : Q (du (hI v) t) (eM g t p 9 3 (du (hI v) t))) : p_M_payOne (12, 0) (nI t) g Q := by
  have hn := i.vc.2.1
  have hp := k.p49
  have m := SM.m i s
  unfold p_M_payOne
  rw [mR29 m, mS29 m, cl_n (by omega)]
  refine ⟨rfl, rfl, in_n (by omega) (by omega), fun h4 q4 => ?_⟩
  have m4 : ShM (hS h4) (hR h4) := by rw [q4]; exact m
  have o4 : ∀ n j, n ≠ (63, 0) → hI h4 n j = hI g n j := fun n j hn => by rw [q4, hI_sI, if_neg (fun z => hn z.1)]
  have d4 : du (hI h4) t = du (hI v) t := by unfold du; rw [o4 _ _ (by simp), o4 _ _ (by simp), o4 _ _ (by simp), s.i 66, s.i 65, s.i 62]
  have c4 : hI h4 (66, 0) t = 0 ∨ hI h4 (66, 0) t = 1 := by rw [o4 _ _ (by simp), s.i 66]; exact k.cnt.elim (fun z => Or.inr z.1) (fun z => Or.inl z.1)
  rw [mR24 m4, mS24 m4, mR21 m4, mS21 m4, o4 (58, 0) t (by simp), s.i 58, k.pool, cl_n (by omega)]
  refine ⟨rfl, in_n (by omega) (by omega), rfl, in_n (by omega) (by omega), w_dueTo0 m4 (by omega) c4 ⟨?_, fun h13 q13 => ?_⟩⟩
  · rw [mS21 m4]; exact in_n (by omega) (by omega)
  · have m13 : ShM (hS h13) (hR h13) := by rw [q13]; exact m4
    have o13 : ∀ n j, n ≠ (55, 0) → hI h13 n j = hI h4 n j := fun n j hn => by rw [q13, hI_sI, if_neg (fun z => hn z.1)]
    have d13 : du (hI h13) t = du (hI v) t := by rw [← d4]; unfold du; rw [o13 _ _ (by simp), o13 _ _ (by simp), o13 _ _ (by simp)]
    refine w_dueTo0 m13 (by omega) (by rw [o13 _ _ (by simp)]; exact c4) ?_
    rw [d13]
    have e13 : h13 = eM g t p 9 3 (du (hI v) t) := by
      rw [q13, d4, o4 (55, 0) p (by simp), q4]; rfl
    rw [e13]; exact q
/-- promise 13 -/
theorem o_pay (H : Ok L xs h) (r : Int32) {F : Int32 → xH → Prop} (hF : Nx L xs (p_M_pay (12, 0) r) F) : p_T_pay (11, 0) r h F := by
  obtain ⟨nr, nt, i⟩ := H
  have hn := i.vc.2.1
  have x23 := i.vc.2.2.2.2.2
  unfold p_T_pay
  refine ⟨rfl, w_findTicket i (fun hno => ⟨fun z => absurd rfl z, fun _ => hF _ _ i.vs (fun G hG => ?_)⟩) (fun t ht e => ⟨fun _ => ⟨rfl, ?_⟩, fun z => absurd z (nz 9 t)⟩)⟩
  · unfold p_M_pay
    exact ⟨rfl, w_isTicket hn x23 (fun _ => ⟨fun z => absurd rfl z, fun _ => hG h ⟨nr, nt, i⟩⟩) (fun j hj e => absurd e (hno j hj))⟩
  · subst e
    obtain ⟨p, ta, tb, tc, u, k⟩ := tkf i ht
    have hp := k.p49
    refine w_isPayable i (SC.rf h) ht (fun c => ⟨fun _ => hF _ _ i.vs (fun G hG => ?_), fun z => absurd rfl z⟩) (fun c => ⟨fun z => absurd z (by decide), fun _ => ?_⟩)
    · unfold p_M_pay
      exact ⟨rfl, w_isTicket hn x23 (fun c => absurd rfl (c t ht)) (fun _ _ _ => ⟨fun _ => w_mayPay i (SM.rf h) ht (fun _ => ⟨fun _ => hG h ⟨nr, nt, i⟩, fun z => absurd rfl z⟩) (fun c2 => absurd c2 c), fun z => absurd z (by decide)⟩)⟩
    · unfold p_T_payOut
      refine ⟨rfl, w_due i (SC.rf h) ht (w_end (e := 9) i (SC.rf h) ht k (by omega) ?_)⟩
      have sC := eC_kc h t p (lin (kf p) ta tb tc) 9 (nI u) 3 (du (hI h) t)
      have sM := SM.kc sC
      refine hF _ _ (i.vs.fr sC (fun n j k => k.2.2)) (fun G hG => ?_)
      unfold p_M_pay
      refine ⟨rfl, w_isTicket hn (by rw [sM.i 12]; exact x23) (fun c => absurd rfl (c t ht)) (fun _ _ _ => ⟨fun _ => w_mayPay i sM ht (fun c2 => absurd c c2) (fun _ => ⟨fun z => absurd z (by decide), fun _ => w_payOne i sM ht k (hG _ ⟨nr, nt, ?_⟩)⟩), fun z => absurd z (by decide)⟩)⟩
      have c2 := c.2
      rw [k.pool, cl_n (by omega)] at c2
      exact i.fin ht k c.1 (Or.inr (Or.inr rfl)) (Or.inr (Or.inr rfl)) ⟨fun _ => c2, fun _ => rfl⟩
theorem w_raceOf (i : Inv L xs nr nt v) (s : SM v g) {p : Nat} (hp : p < 49) (c : hI v (40, 0) p = 1) {Q : Int32 → xH → Prop} (q : Q (nI (frp (hI v) p)) g) : p_M_raceOf (12, 0) (nI p) g Q := by
  unfold p_M_raceOf
  refine ⟨fun c2 => ?_, fun c2 => ⟨rfl, ?_⟩⟩
  · have hne : p ≠ 48 := fun e => c2 (by rw [e]; rfl)
    have e1 : nI p / (4 : Int32) = nI (p / 4) := pk_div (a := p) (d := 4) (by omega) (by omega) (by omega)
    rw [e1]
    rw [show frp (hI v) p = p / 4 by unfold frp; rw [if_neg hne]] at q
    exact q
  · have he : p = 48 := (nI_inj (a := p) (b := 48) (by omega) (by omega)).mp c2
    rw [s.i 12, ((((i.vp p hp).1 c).2.2.1) he).2.1]; exact q
theorem w_mstake (m : ShM (hS g) (hR g)) {t p : Nat} (ht : t < 200) (hp : p < 49) (e : hI g (58, 0) t = nI p) {Q : Int32 → xH → Prop} (q : Q (hI g (62, 0) t * hI g (42, 0) p) g) : p_M_stake (12, 0) (nI t) g Q := by
  unfold p_M_stake
  rw [mR28 m, mS28 m, mR24 m, mS24 m, mR8 m, mS8 m, cl_n (by omega), e, cl_n (by omega)]
  exact ⟨rfl, rfl, in_n (by omega) (by omega), rfl, in_n (by omega) (by omega), rfl, in_n (by omega) (by omega), q⟩
/-- promise 12 -/
theorem o_cancel (H : Ok L xs h) (r : Int32) {F : Int32 → xH → Prop} (hF : Nx L xs (p_M_cancel (12, 0) r) F) : p_T_cancel (11, 0) r h F := by
  obtain ⟨nr, nt, i⟩ := H
  have hn := i.vc.2.1
  have hnr := i.vc.1
  have x23 := i.vc.2.2.2.2.2
  unfold p_T_cancel
  refine ⟨rfl, w_findTicket i (fun hno => ⟨fun z => absurd rfl z, fun _ => hF _ _ i.vs (fun G hG => ?_)⟩) (fun t ht e => ⟨fun _ => ⟨rfl, ?_⟩, fun z => absurd z (nz 9 t)⟩)⟩
  · unfold p_M_cancel
    exact ⟨rfl, w_isTicket hn x23 (fun _ => ⟨fun z => absurd rfl z, fun _ => hG h ⟨nr, nt, i⟩⟩) (fun j hj e => absurd e (hno j hj))⟩
  · subst e
    obtain ⟨p, ta, tb, tc, u, k⟩ := tkf i ht
    have hp := k.p49
    have w := k.cls
    have tr := tkr i ht k
    have pr := plr i hp k.there
    have pk := plk i hp k.there
    have hfr := ((i.vp p hp).1 k.there).1
    have vr := i.vr.1 _ hfr
    rw [w.2.2.2.2.2, tr.2, pr.2.1, vr.2.1]
    have m := i.m
    refine ⟨fun c => hF _ _ i.vs (fun G hG => ?_), fun c => ⟨rfl, rfl, fun c2 => ?_, fun c2 => hF _ _ i.vs (fun G hG => ?_)⟩⟩
    · unfold p_M_cancel
      refine ⟨rfl, w_isTicket hn x23 (fun c => absurd rfl (c t ht)) (fun _ _ _ => ⟨fun _ => ?_, fun z => absurd z (by decide)⟩)⟩
      rw [mR29 m, mS29 m, cl_n (by omega)]
      exact ⟨rfl, in_n (by omega) (by omega), fun _ => hG h ⟨nr, nt, i⟩, fun z => absurd z c⟩
    · unfold p_Ti_stake
      rw [tr.2, w.2.1, pk.2.2.2.1, k.eu]
      refine ⟨rfl, rfl, w_end (e := 1) i (SC.rf h) ht k (by omega) ?_⟩
      have sC := eC_kc h t p (lin (kf p) ta tb tc) 1 (nI u) 1 (nI u * hI h (42, 0) p)
      have sM := SM.kc sC
      have y2 : hI (eC h t p (lin (kf p) ta tb tc) 1 (nI u) 1 (nI u * hI h (42, 0) p)) (10, t) 2 = nI u := by rw [← k.eu, ← w.2.1]; unfold eC; simp [hI_sI]
      have y5 : hI (eC h t p (lin (kf p) ta tb tc) 1 (nI u) 1 (nI u * hI h (42, 0) p)) (5, p) 5 = hI h (42, 0) p := by rw [← pk.2.2.2.1]; unfold eC; simp [hI_sI]
      refine ⟨rfl, ?_⟩
      rw [sC.2.2, tr.2, y2, y5]
      refine ⟨rfl, hF _ _ (i.vs.fr sC (fun n j k => k.2.2)) (fun G hG => ?_)⟩
      generalize hx : eC h t p (lin (kf p) ta tb tc) 1 (nI u) 1 (nI u * hI h (42, 0) p) = h1 at *
      have m1 : ShM (hS h1) (hR h1) := SM.m i sM
      unfold p_M_cancel
      refine ⟨rfl, w_isTicket hn (by rw [sM.i 12]; exact x23) (fun c => absurd rfl (c t ht)) (fun _ _ _ => ⟨fun _ => ?_, fun z => absurd z (by decide)⟩)⟩
      rw [mR29 m1, mS29 m1, mR24 m1, mS24 m1, cl_n (by omega), sM.i 63, sM.i 58, k.pool]
      refine ⟨rfl, in_n (by omega) (by omega), fun z => absurd c z, fun _ => ⟨rfl, in_n (by omega) (by omega), w_raceOf i sM hp k.there ?_⟩⟩
      rw [mR1 m1, mS1 m1, mR29 m1, mS29 m1, cl_n (by omega), sM.i 35]
      refine ⟨rfl, in_n (by omega) (by omega), fun _ => ⟨rfl, in_n (by omega) (by omega), fun h17 q17 => ?_⟩, fun z => absurd c2 z⟩
      have m17 : ShM (hS h17) (hR h17) := by rw [q17]; exact m1
      have o17 : ∀ n j, n ≠ (63, 0) → hI h17 n j = hI h1 n j := fun n j hn => by rw [q17, hI_sI, if_neg (fun z => hn z.1)]
      have e58 : hI h17 (58, 0) t = nI p := by rw [o17 _ _ (by simp), sM.i 58]; exact k.pool
      rw [mR24 m17, mS24 m17, mR13 m17, mS13 m17, e58, cl_n (by omega)]
      refine ⟨rfl, in_n (by omega) (by omega), rfl, in_n (by omega) (by omega), w_mstake m17 (by omega) hp e58 ⟨?_, fun h26 q26 => ?_⟩⟩
      · rw [mS13 m17]; exact in_n (by omega) (by omega)
      have m26 : ShM (hS h26) (hR h26) := by rw [q26]; exact m17
      have o26 : ∀ n j, n ≠ (47, 0) → hI h26 n j = hI h17 n j := fun n j hn => by rw [q26, hI_sI, if_neg (fun z => hn z.1)]
      refine w_mstake m26 (by omega) hp (by rw [o26 _ _ (by simp)]; exact e58) ?_
      rw [o26 _ _ (by simp), o26 _ _ (by simp), o17 _ _ (by simp), o17 _ _ (by simp), sM.i 62, sM.i 42, k.eu]
      refine hG _ ⟨nr, nt, ?_⟩
      have q := i.fin (st := 1) (cc := nI u * hI h (42, 0) p) ht k c (Or.inl rfl) (Or.inl rfl) ⟨fun z => absurd z (by decide), fun z => ?_⟩
      · rw [hx] at q
        have e26 : h26 = eM h1 t p 1 1 (nI u * hI h (42, 0) p) := by
          rw [q26, o17 _ _ (by simp), o17 _ _ (by simp), o17 _ _ (by simp), sM.i 62, sM.i 42, k.eu, q17]; rfl
        rw [e26]; exact q
      · rcases i.vq p hp k.there with y | y
        · rw [c2] at y; exact absurd y.2.1 (by decide)
        · rw [y.1] at z; exact absurd z (by decide)
    · unfold p_M_cancel
      refine ⟨rfl, w_isTicket hn x23 (fun c => absurd rfl (c t ht)) (fun _ _ _ => ⟨fun _ => ?_, fun z => absurd z (by decide)⟩)⟩
      rw [mR29 m, mS29 m, mR24 m, mS24 m, cl_n (by omega), k.pool]
      refine ⟨rfl, in_n (by omega) (by omega), fun _ => hG h ⟨nr, nt, i⟩, fun _ => ⟨rfl, in_n (by omega) (by omega), w_raceOf i (SM.rf h) hp k.there ?_⟩⟩
      rw [mR1 m, mS1 m, cl_n (by omega)]
      exact ⟨rfl, in_n (by omega) (by omega), fun z => absurd z c2, fun _ => hG h ⟨nr, nt, i⟩⟩
end Pay
