section Cash
variable {L : Nat} {xs : Nat → Int32} {nr nt : Nat} {v h g : xH}
theorem w_findTicket2 (i : Inv L xs nr nt v) (s : SC v h) {r : Int32} {Q : xN → xH → Prop} (no : (∀ j, j < nt → r ≠ nI j) → Q (0, 0) h) (yes : ∀ j, j < nt → r = nI j → Q (10, j) h) : p_T_findTicket (11, 0) r h Q := by
  have hc := i.vc
  have hn := hc.2.1
  have e0 : (0 : Int32).toInt = 0 := rfl
  unfold p_T_findTicket
  rw [s.i 11 0 11, s.2.1, s.2.2]
  refine ⟨fun c => no (fun j hj e => ?_), fun c => ⟨rfl, fun c2 => ?_, fun c2 => no (fun j hj e => ?_)⟩⟩
  · rw [e, ti_lt, ti_n (by omega)] at c; omega
  · rw [hc.2.2.2.2.1] at c2
    obtain ⟨j, hj, rfl⟩ := arg_lt c c2 (by omega)
    rw [xR_11_0_2 i.x, xS_29_0 i.x]
    refine ⟨rfl, in_n (by omega) (by omega), ?_⟩
    rw [cl_n (by omega), (i.st.1 j hj).1]
    exact yes j hj rfl
  · apply c2
    rw [hc.2.2.2.2.1, e, ti_lt, ti_n (by omega), ti_n (by omega)]; omega
/-- class and model pay a ticket -/
def payv (v : xH) (t : Nat) : xH := eM (eC v t (hI v (58, 0) t).toNatClampNeg (tl (hI v) t) 9 (hI v (62, 0) t) 3 (du (hI v) t)) t (hI v (58, 0) t).toNatClampNeg 9 3 (du (hI v) t)
theorem payv_eq {t p a b c u : Nat} (k : TkF (hI v) t p a b c u) : payv v t = eM (eC v t p (lin (kf p) a b c) 9 (nI u) 3 (du (hI v) t)) t p 9 3 (du (hI v) t) := by
  unfold payv
  rw [tl_eq k, k.pool, k.eu, cl_n (by have := k.p49; omega)]
theorem payv_sm (v : xH) (t : Nat) : Sm (KK [17, 5, 19, 10, 63, 55] []) v (payv v t) := by
  unfold payv eM eC
  exact ((((((Sm.rf _ v).si _ (Or.inl (by simp))).si _ (Or.inl (by simp))).si _ (Or.inl (by simp))).si _ (Or.inl (by simp))).si _ (Or.inl (by simp))).si _ (Or.inl (by simp))
theorem payv_inv (i : Inv L xs nr nt v) {t : Nat} (ht : t < nt) (c : pb (hI v) t) : Inv L xs nr nt (payv v t) := by
  obtain ⟨p, ta, tb, tc, u, k⟩ := tkf i ht
  have hp := k.p49
  have c2 := c.2
  rw [k.pool, cl_n (by omega)] at c2
  rw [payv_eq k]
  exact i.fin ht k c.1 (Or.inr (Or.inr rfl)) (Or.inr (Or.inr rfl)) ⟨fun _ => c2, fun _ => rfl⟩
def cvs (ts : Nat → Int32) (v : xH) : Nat → xH
  | 0 => v
  | k + 1 => if ts k = -1 then cvs ts v k else if pb (hI (cvs ts v k)) (ts k).toNatClampNeg then payv (cvs ts v k) (ts k).toNatClampNeg else cvs ts v k
def csm (ts : Nat → Int32) (v : xH) : Nat → Int32
  | 0 => 0
  | k + 1 => csm ts v k + (if ts k = -1 then 0 else if pb (hI (cvs ts v k)) (ts k).toNatClampNeg then du (hI (cvs ts v k)) (ts k).toNatClampNeg else 0)
theorem cvs_s (ts : Nat → Int32) (v : xH) (k : Nat) : cvs ts v (k + 1) = if ts k = -1 then cvs ts v k else if pb (hI (cvs ts v k)) (ts k).toNatClampNeg then payv (cvs ts v k) (ts k).toNatClampNeg else cvs ts v k := rfl
theorem n_neg {j : Nat} (hj : j < 2147483648) : ¬ nI j = -1 := fun e => by
  have := congrArg Int32.toInt e
  rw [ti_n hj] at this
  have e9 : (-1 : Int32).toInt = -1 := rfl
  omega
theorem cvs_inv (i : Inv L xs nr nt v) {ts : Nat → Int32} {n : Nat} (hts : ∀ k, k < n → ts k = -1 ∨ ∃ t, t < nt ∧ ts k = nI t) : ∀ k, k ≤ n → Inv L xs nr nt (cvs ts v k) ∧ Sm (KK [17, 5, 19, 10, 63, 55] []) v (cvs ts v k)
  | 0, _ => ⟨i, Sm.rf _ v⟩
  | k + 1, hk => by
    have hn := i.vc.2.1
    obtain ⟨a, b⟩ := cvs_inv i hts k (by omega)
    unfold cvs
    by_cases c : ts k = -1
    · rw [if_pos c]; exact ⟨a, b⟩
    · rw [if_neg c]
      obtain ⟨t, ht, e⟩ := (hts k (by omega)).resolve_left c
      rw [e, cl_n (by omega)]
      by_cases c2 : pb (hI (cvs ts v k)) t
      · rw [if_pos c2]; exact ⟨payv_inv a ht c2, b.tr (payv_sm _ t)⟩
      · rw [if_neg c2]; exact ⟨a, b⟩
/-- promise 41 -/
theorem o_cash (H : Ok L xs h) (x : Int32) {F : Int32 → xH → Prop} (hF : Nx L xs (p_M_cash (12, 0) x) F) : p_T_cash (11, 0) x h F := by
  obtain ⟨nr, nt, i⟩ := H
  have hn := i.vc.2.1
  unfold p_T_cash
  refine w_isSatchel (fun c => ⟨fun z => absurd rfl z, fun _ => hF _ _ i.vs (fun G hG => ?_)⟩) (fun s hs e => ⟨fun _ => ⟨rfl, ?_⟩, fun z => absurd z (by decide)⟩)
  · unfold p_M_cash
    exact w_mSatchel (fun _ => ⟨fun z => absurd rfl z, fun _ => hG h ⟨nr, nt, i⟩⟩) (fun w hw e => absurd e (c w hw))
  · subst e
    obtain ⟨r1, r2, r3, r4, r5⟩ := satR i hs
    rw [r1, r2, cl_n (by omega), r3]
    refine ⟨rfl, in_n (by omega) (by omega), rfl, ?_⟩
    rcases i.vx s hs with ⟨v1, v2⟩ | ⟨v1, n, f, n1, f1, v2, v3, v4, v5, v6⟩
    · rw [v2]
      refine ⟨fun z => absurd rfl z, fun _ => w_found i.x (k := 1) (by omega) (fin_find (k := 1) i (by omega) (by omega) hF (fun G g => ?_))⟩
      have sM := SM.kc (fd_sm h 1)
      have m := SM.m i sM
      unfold p_M_cash
      refine w_mSatchel (fun c => absurd rfl (c s hs)) (fun _ _ _ => ⟨fun _ => ?_, fun z => absurd z (by decide)⟩)
      rw [mR58 m, mS58 m, cl_n (by omega), sM.i 92]
      exact ⟨rfl, rfl, in_n (by omega) (by omega), fun z => absurd v1 z, fun _ => g⟩
    · rw [v2]
      refine ⟨fun _ => ⟨n + 1, ?_⟩, fun z => absurd z (n_neg (by omega))⟩
      generalize hts : (fun k => hI h (95, 0) (10 * s + k)) = ts
      have ets : ∀ k, hI h (95, 0) (10 * s + k) = ts k := fun k => by rw [← hts]
      have tts : ∀ k, k < n → ts k = -1 ∨ ∃ t, t < nt ∧ ts k = nI t := fun k hk => by rw [← ets]; exact (v6 k (by omega)).2
      have all := cvs_inv i tts
      have key : ∀ (m a : Nat) (h' : xH), a + m = n → SC (cvs ts h a) h' → Sm KC h h' → p_T_cash_L33 (11, 0) (nI s) (fun x h => F x h) F (m + 1) (csm ts h a) (nI a) h' := by
        intro m
        induction m with
        | zero =>
          intro a h' ha sc sC
          have ea : a = n := by omega
          subst ea
          have w := (all a (by omega)).2
          unfold p_T_cash_L33
          rw [sc.2.1, sc.2.2, w.2.1, w.2.2, r1, r2, cl_n (by omega), r3, sc.i 7 s 2, w.1 _ _ (by simp [KK]), v2]
          refine ⟨rfl, rfl, in_n (by omega) (by omega), rfl, fun _ => ?_, fun c => absurd (by rw [le_nn (by omega) (by omega)]; omega) c⟩
          refine hF _ _ (i.vs.fr sC (fun n j k => k.2.2)) (fun G hG => ?_)
          have sM := SM.kc sC
          have m := SM.m i sM
          unfold p_M_cash
          refine w_mSatchel (fun c => absurd rfl (c s hs)) (fun _ _ _ => ⟨fun _ => ?_, fun z => absurd z (by decide)⟩)
          rw [mR58 m, mS58 m, cl_n (by omega), sM.i 92]
          refine ⟨rfl, rfl, in_n (by omega) (by omega), fun _ => ⟨a + 1, ?_⟩, fun z => absurd (v1.symm.trans z) (by decide)⟩
          have key2 : ∀ (m b : Nat) (g' : xH), b + m = a → SM (cvs ts h b) g' → SC (cvs ts h a) g' → p_M_cash_L29 (12, 0) (nI s) (fun x h => G x h) G (m + 1) (csm ts h b) (nI b) g' := by
            intro m
            induction m with
            | zero =>
              intro b g' hb sm sc
              have eb : b = a := by omega
              subst eb
              have w := (all b (by omega)).2
              have mm := SM.m (all b (by omega)).1 sm
              unfold p_M_cash_L29
              rw [mR60 mm, mS60 mm, cl_n (by omega), sm.i 94, w.1 _ _ (by simp [KK]), v3]
              refine ⟨rfl, rfl, in_n (by omega) (by omega), fun _ => ?_, fun c => absurd (by rw [le_nn (by omega) (by omega)]; omega) c⟩
              refine hG g' ⟨nr, nt, ?_⟩
              rw [SC.eq sc sm]
              exact (all b (by omega)).1
            | succ m ih =>
              intro b g' hb sm sc
              have w := (all b (by omega)).2
              have iv := (all b (by omega)).1
              have mm := SM.m iv sm
              unfold p_M_cash_L29
              rw [mR60 mm, mS60 mm, mR61 mm, mS61 mm, ix10, cl_n (by omega), cl_n (by omega), sm.i 94, sm.i 95, w.1 _ _ (by simp [KK]), w.1 _ _ (by simp [KK]), v3, ets]
              refine ⟨rfl, rfl, in_n (by omega) (by omega), fun c => ?_, fun _ => ⟨rfl, in_n (by omega) (by omega), fun t0 et0 => ⟨fun c w hw x hx => ?_, fun c => ?_⟩⟩⟩
              · rw [le_nn (by omega) (by omega)] at c; omega
              · rw [hw, hx, nI_1]
                have q := ih (b + 1) g' (by omega) (by unfold cvs; rw [if_pos (et0.symm.trans c)]; exact sm) sc
                unfold csm at q
                rw [if_pos (et0.symm.trans c)] at q
                exact q
              · obtain ⟨t, ht, e⟩ := (tts b (by omega)).resolve_left (fun z => c (et0.trans z))
                have c' : ¬ ts b = -1 := fun z => c (et0.trans z)
                rw [et0, e]
                obtain ⟨p, ta, tb, tc, u, k⟩ := tkf iv ht
                refine w_mayPay iv sm ht (fun c2 => ⟨fun _ w hw x hx => ?_, fun z => absurd rfl z⟩) (fun c2 => ⟨fun z => absurd z (by decide), fun _ => w_payOne iv sm ht k (fun w hw x hx => ?_)⟩)
                · rw [hw, hx, nI_1]
                  have c3 : ¬ pb (hI (cvs ts h b)) (ts b).toNatClampNeg := by rw [e, cl_n (by omega)]; exact c2
                  have q := ih (b + 1) g' (by omega) (by unfold cvs; rw [if_neg c', if_neg c3]; exact sm) sc
                  unfold csm at q
                  rw [if_neg c', if_neg c3] at q
                  exact q
                · rw [hw, hx, nI_1]
                  have c3 : pb (hI (cvs ts h b)) (ts b).toNatClampNeg := by rw [e, cl_n (by omega)]; exact c2
                  have q := ih (b + 1) (eM g' t p 9 3 (du (hI (cvs ts h b)) t)) (by omega) (by
                    rw [cvs_s, if_neg c', if_pos c3, e, cl_n (by omega), payv_eq k]
                    exact eM_sm sm _ _ _ _ _ _ _ _ _) (eM_wc sc _ _ _ _ _)
                  unfold csm at q
                  rw [if_neg c', if_pos c3, e, cl_n (by omega)] at q
                  exact q
          exact key2 a 0 h' (by omega) sM sc
        | succ m ih =>
          intro a h' ha sc sC
          have w := (all a (by omega)).2
          have iv := (all a (by omega)).1
          have e23 : hI h' (23, s) a = ts a := by rw [sc.i 23 s, w.1 _ _ (by simp [KK]), (v6 a (by omega)).1, ets]
          unfold p_T_cash_L33
          rw [sc.2.1, sc.2.2, w.2.1, w.2.2, r1, r2, cl_n (by omega), cl_n (by omega), r3, r4, r5, sc.i 7 s 2, w.1 _ _ (by simp [KK]), v2, e23]
          refine ⟨rfl, rfl, in_n (by omega) (by omega), rfl, fun c => ?_, fun _ => ⟨in_n (by omega) (by omega), rfl, in_n (by omega) (by omega), w_findTicket2 iv sc (fun no => ⟨fun _ x hx => ?_, fun z => absurd rfl z⟩) (fun t ht e => ⟨fun z => absurd z (nz 9 t), fun _ => ⟨rfl, ?_⟩⟩)⟩⟩
          · rw [le_nn (by omega) (by omega)] at c; omega
          · have c : ts a = -1 := (tts a (by omega)).elim id (fun ⟨t, ht, e⟩ => absurd e (no t ht))
            rw [hx, nI_1]
            have q := ih (a + 1) h' (by omega) (by unfold cvs; rw [if_pos c]; exact sc) sC
            unfold csm at q
            rw [if_pos c, Int32.add_zero] at q
            exact q
          · have c' : ¬ ts a = -1 := by rw [e]; exact n_neg (by omega)
            obtain ⟨p, ta, tb, tc, u, k⟩ := tkf iv ht
            refine w_isPayable iv sc ht (fun c2 => ⟨fun _ x hx => ?_, fun z => absurd rfl z⟩) (fun c2 => ⟨fun z => absurd z (by decide), fun _ => ?_⟩)
            · rw [hx, nI_1]
              have c3 : ¬ pb (hI (cvs ts h a)) (ts a).toNatClampNeg := by rw [e, cl_n (by omega)]; exact c2
              have q := ih (a + 1) h' (by omega) (by unfold cvs; rw [if_neg c', if_neg c3]; exact sc) sC
              unfold csm at q
              rw [if_neg c', if_neg c3, Int32.add_zero] at q
              exact q
            · unfold p_T_payOut
              refine ⟨rfl, w_due iv sc ht (w_end (e := 9) iv sc ht k (by omega) (fun w hw x hx => ?_))⟩
              rw [hw, hx, nI_1]
              have c3 : pb (hI (cvs ts h a)) (ts a).toNatClampNeg := by rw [e, cl_n (by omega)]; exact c2
              have q := ih (a + 1) (eC h' t p (lin (kf p) ta tb tc) 9 (nI u) 3 (du (hI (cvs ts h a)) t)) (by omega) (by
                rw [cvs_s, if_neg c', if_pos c3, e, cl_n (by omega), payv_eq k]
                exact eC_sc sc _ _ _ _ _ _ _ _ _) (sC.tr (eC_kc _ _ _ _ _ _ _ _))
              unfold csm at q
              rw [if_neg c', if_pos c3, e, cl_n (by omega)] at q
              exact q
      exact key n 0 h (by omega) (SC.rf h) (Sm.rf _ h)
end Cash
