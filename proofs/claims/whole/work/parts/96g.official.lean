section Official
variable {qq : Prop} {L : Nat} {xs : Nat → Int32} {nr nt : Nat} {v v0 h g : xH}
/-- a finish that nobody reads yet may change -/
theorem InvQ.finr {h' : xH} (i : InvQ qq L xs nr nt h) {r : Nat} (s : Sm (KFi r) h h') (st : ¬ hI h (35, 0) r = 2) : InvQ qq L xs nr nt h' := by
  have o : ∀ k a j, ¬ ((k = 4 ∨ k = 15 ∨ k = 16) ∧ a = r) → hI h' (k, a) j = hI h (k, a) j := fun k a j hk => s.1 _ _ (fun z => hk (by
    rcases z with z | z | z
    · have e1 := congrArg Prod.fst z; have e2 := congrArg Prod.snd z; simp at e1 e2; exact ⟨by omega, e2⟩
    · have e1 := congrArg Prod.fst z; have e2 := congrArg Prod.snd z; simp at e1 e2; exact ⟨by omega, e2⟩
    · have e1 := congrArg Prod.fst z; have e2 := congrArg Prod.snd z; simp at e1 e2; exact ⟨by omega, e2⟩))
  refine i.updD [4, 15, 16] [] (s.mono (fun n j e => Or.inl (by rcases e with e | e | e <;> simp [e]))) (vf := Or.inr (fun x hx sx => ?_))
  rw [o 35 0 _ (by omega)] at sx
  have ne : x ≠ r := fun e => st (by rw [← e]; exact sx)
  obtain ⟨a, ru, b1, b2, b3, b4, b5⟩ := i.vf x hx sx
  have ep : posM (hI h') x = posM (hI h) x := funext (fun k => by unfold posM; rw [o 39 0 _ (by omega)])
  refine ⟨?_, ru, b1, ?_, b3, fun k => ?_, fun y k e => ?_⟩
  · rw [o 4 x _ (by omega), o 6 x _ (by omega)]; exact a
  · rw [o 4 x _ (by omega)]; exact b2
  · rw [o 36 0 _ (by omega), ep]; exact b4 k
  · rw [o 15 x _ (by omega), o 16 x _ (by omega), ep]; exact b5 y k e
/-- a race is official -/
theorem InvQ.offc (i : InvQ qq L xs nr nt h) {r n : Nat} (hr : r < nr) (en : hI h (36, 0) r = nI n) (hn : n ≤ 12) (e3 : hI h (4, r) 3 = hI h (6, r) 6) (F : FiH h r (lsP (posM (hI h) r) n).length (fun i => (lsP (posM (hI h) r) n).getD i 0) (fun i => posM (hI h) r ((lsP (posM (hI h) r) n).getD i 0))) : InvQ False L xs nr nt (sI (sI h (6, r) 7 2) (35, 0) r 2) := by
  generalize hf : sI (sI h (6, r) 7 2) (35, 0) r 2 = f
  have s : Sm (KK [] [((6, r), 7), ((35, 0), r)]) h f := by rw [← hf]; exact ((Sm.rf _ h).si _ (Or.inr (by simp))).si _ (Or.inr (by simp))
  have o : ∀ k a j, k ≠ 6 → k ≠ 35 → hI f (k, a) j = hI h (k, a) j := fun k a j h1 h2 => s.1 _ _ (fun z => by
    rcases z with z | z
    · simp at z
    · simp at z; omega)
  have o6 : ∀ a j, a ≠ r ∨ j ≠ 7 → hI f (6, a) j = hI h (6, a) j := fun a j hj => s.1 _ _ (fun z => by
    rcases z with z | z
    · simp at z
    · simp at z; omega)
  have o35 : ∀ j, j ≠ r → hI f (35, 0) j = hI h (35, 0) j := fun j hj => s.1 _ _ (fun z => by
    rcases z with z | z
    · simp at z
    · simp at z; omega)
  have p6 : hI f (6, r) 7 = 2 := by rw [← hf, hI_sI, if_neg (by simp), hI_sI, if_pos ⟨rfl, rfl⟩]
  have p35 : hI f (35, 0) r = 2 := by rw [← hf, hI_sI, if_pos ⟨rfl, rfl⟩]
  have g35 : ∀ j, hI h (35, 0) j = 2 → hI f (35, 0) j = 2 := fun j e => by
    by_cases c : j = r
    · rw [c]; exact p35
    · rw [o35 j c]; exact e
  have ep : ∀ x, posM (hI f) x = posM (hI h) x := fun x => funext (fun k => by unfold posM; rw [o 39 0 _ (by omega) (by omega)])
  have ef : frp (hI f) = frp (hI h) := funext (fun q => by unfold frp; rw [o 12 0 _ (by omega) (by omega)])
  have es : scp (hI f) = scp (hI h) := funext (fun q => by unfold scp; rw [o 12 0 _ (by omega) (by omega)])
  refine i.wk.updD [] [((6, r), 7), ((35, 0), r)] s (vr := Or.inr ⟨fun x hx => ?_, fun j hj => ?_⟩) (vf := Or.inr (fun x hx sx => ?_)) (vq := Or.inr ⟨fun q hq c => ?_, fun z => z.elim⟩)
  · obtain ⟨a1, a2, a3, a4⟩ := i.vr.1 x hx
    have e38 : ∀ j, hI f (38, 0) j = hI h (38, 0) j := fun j => o 38 0 j (by omega) (by omega)
    refine ⟨?_, ?_, ?_, fun k hk => ?_⟩
    · rw [o6 x 0 (by omega), o6 x 8 (by omega), o6 x 6 (by omega), o 36 0 _ (by omega) (by omega), o 37 0 _ (by omega) (by omega)]
      simp only [e38]
      exact a1
    · by_cases c : x = r
      · rw [c, p6, p35]
      · rw [o6 x 7 (Or.inl c), o35 x c]; exact a2
    · by_cases c : x = r
      · rw [c, p35]; exact Or.inr (Or.inr rfl)
      · rw [o35 x c]; exact a3
    · rw [o 20 x _ (by omega) (by omega), o 21 x _ (by omega) (by omega), o 39 0 _ (by omega) (by omega), e38]; exact a4 k hk
  · rw [o 38 0 _ (by omega) (by omega), o 39 0 _ (by omega) (by omega)]; exact i.vr.2 j hj
  · unfold VF1 FinOK
    rw [o 4 x _ (by omega) (by omega), o 4 x _ (by omega) (by omega), o6 x 6 (by omega), o 36 0 _ (by omega) (by omega), ep x]
    by_cases c : x = r
    · subst c
      obtain ⟨f1, f2, f3, f4, f5, f6, f7⟩ := F
      rw [en, cl_n (by omega)]
      refine ⟨e3, lsP (posM (hI h) x) n, f2, f1, lsP_pw _ _, fun k => lsP_mem _ _ k, fun y k e => ?_⟩
      have hy : y < (lsP (posM (hI h) x) n).length := by
        rcases Nat.lt_or_ge y (lsP (posM (hI h) x) n).length with z | z
        · exact z
        · rw [List.getElem?_eq_none z] at e; exact absurd e (by simp)
      have ek : (lsP (posM (hI h) x) n).getD y 0 = k := by rw [List.getD_eq_getElem?_getD, e]; rfl
      have z := f7 y hy
      simp only [ek] at z
      rw [o 15 x _ (by omega) (by omega), o 16 x _ (by omega) (by omega)]
      exact ⟨z.1, z.2.1⟩
    · rw [o35 x c] at sx
      obtain ⟨a, ru, b1, b2, b3, b4, b5⟩ := i.vf x hx sx
      refine ⟨a, ru, b1, b2, b3, b4, fun y k e => ?_⟩
      rw [o 15 x _ (by omega) (by omega), o 16 x _ (by omega) (by omega)]; exact b5 y k e
  · rw [o 40 0 _ (by omega) (by omega)] at c
    rw [ef, es, o 43 0 _ (by omega) (by omega)]
    exact (i.vqw q hq c).imp (fun z => ⟨z.1, g35 _ z.2.1, g35 _ z.2.2⟩) id
/-- both sides have done the same, but for the scratch -/
theorem InvQ.both (i : InvQ qq L xs nr nt v) (s : SCx v h) (z : Sm KM h g) (m : SMx v g) : InvQ qq L xs nr nt g := by
  refine i.scr ⟨fun n j k => ?_, m.2.1, m.2.2⟩
  by_cases c : 34 ≤ n.1 ∨ n.1 = 12
  · exact m.1 n j c k
  · rw [z.1 n j c]
    exact s.1 n j (by omega) (by omega) (fun y => k (ksk_x n j y))
theorem InvQ.full (i : InvQ False L xs nr nt v) (q : VQ (hI v)) : Inv L xs nr nt v := by
  obtain ⟨a1, a2, a3, a4, a5, a6, a7, a8, a9, a10, a11, a12, a13, a14, a15, a16, a17, a18, q1, q2⟩ := i
  exact ⟨a1, a2, a3, a4, a5, a6, a7, a8, a9, a10, a11, a12, a13, a14, a15, a16, a17, a18, q1, fun _ => q⟩
/-- promise 9 -/
theorem o_official (H : Ok L xs h) (r : Int32) {F : Int32 → xH → Prop} (hF : Nx L xs (p_M_official (12, 0) r) F) : p_T_official (11, 0) r h F := by
  obtain ⟨nr, nt, i⟩ := H
  have hnr := i.vc.1
  unfold p_T_official
  refine ⟨rfl, w_findRace i (fun hno => ⟨fun z => absurd rfl z, fun _ => hF _ _ i.vs (fun G hG => ?_)⟩) (fun j hj e => ⟨fun _ => ⟨rfl, fun st => ?_, fun st => hF _ _ i.vs (fun G hG => ?_)⟩, fun z => absurd z (by simp)⟩)⟩
  · unfold p_M_official
    exact ⟨rfl, w_isRace i.md (fun _ => ⟨fun z => absurd rfl z, fun _ => hG h ⟨nr, nt, i⟩⟩) (fun j hj e => absurd e (hno j hj))⟩
  · subst e
    obtain ⟨n, u, a1, a2, a3, a4, a5, a6, a7, a8⟩ := VR_run i.vr hj
    have vr := i.vr.1 j hj
    have sr := i.sr.1 j hj
    rw [vr.2.1] at st
    have rr := rn_of i hj
    refine w_readF i hj a4 a2 (fun h7 S7 e3 F7 => ?_)
    have nst : ¬ hI h (35, 0) j = 2 := by rw [st]; decide
    have i7 : Inv L xs nr nt h7 := i.finr S7 nst
    have o7 : ∀ k m x, k ≠ 4 → k ≠ 15 → k ≠ 16 → hI h7 (k, m) x = hI h (k, m) x := fun k m x h1 h2 h3 => S7.1 _ _ (fun z => by
      rcases z with z | z | z
      · exact h1 (congrArg Prod.fst z)
      · exact h2 (congrArg Prod.fst z)
      · exact h3 (congrArg Prod.fst z))
    have sC7 : Sm KC h h7 := S7.mono (fun n j z => by rcases z with z | z | z <;> (rw [z]; simp [KC]))
    have ep : posM (hI h7) j = posM (hI h) j := funext (fun k => by unfold posM; rw [o7 39 0 _ (by omega) (by omega) (by omega)])
    have er : rnOf h7 j = rnOf h j := by
      unfold rnOf
      rw [o7 36 0 _ (by omega) (by omega) (by omega)]
      exact cn_congr _ (fun k _ => by rw [o7 38 0 _ (by omega) (by omega) (by omega)])
    have e36 : hI h7 (36, 0) j = nI n := by rw [o7 36 0 _ (by omega) (by omega) (by omega)]; exact a5
    have e35 : hI h7 (35, 0) j = 1 := by rw [o7 35 0 _ (by omega) (by omega) (by omega)]; exact st
    have R3 : hR h7 (6, j) 3 = (4, j) := by rw [S7.2.2]; exact sr.2.2.2.1
    have e6 : hI h7 (6, j) 6 = nI (rnOf h j) := by rw [o7 6 j _ (by omega) (by omega) (by omega)]; exact rr.1
    rw [← ep] at F7
    have len : (lsP (posM (hI h7) j) n).length ≤ 12 := F7.2.1
    -- the model from a heap whose model part is that of h7
    have refuse : ¬ (rightP (posM (hI h7) j) n ∧ min 3 (rnOf h7 j) ≤ (lsP (posM (hI h7) j) n).length) → F (-6) h7 := fun bad => hF _ _ i7.vs (fun G hG => by
      unfold p_M_official
      refine ⟨rfl, w_isRace i7.md (fun c => absurd rfl (c j hj)) (fun j' hj' e => ⟨fun _ => ?_, fun z => absurd z (by decide)⟩)⟩
      rw [mR1 i7.m, mS1 i7.m, cl_n (by omega), e35]
      exact ⟨rfl, in_n (by omega) (by omega), fun z => absurd rfl z, fun _ => w_areRight i7 ⟨fun _ _ _ => rfl, rfl, rfl⟩ hj e36 a2 (fun _ => ⟨fun z => absurd rfl z, fun _ => hG h7 ⟨nr, nt, i7⟩⟩) (fun y1 y2 => absurd ⟨y1, y2⟩ bad)⟩)
    show _ ∧ _
    rw [R3]
    refine ⟨rfl, w_isRight F7 (fun k hk => ?_) (fun no => ⟨fun _ => refuse (fun y => no (right_LP.mpr y.1)), fun z => absurd rfl z⟩) (fun yes => ⟨fun z => absurd z (by decide), fun _ => ?_⟩)⟩
    · have : (lsP (posM (hI h7) j) n).getD k 0 ∈ lsP (posM (hI h7) j) n := by rw [gd_lt hk]; exact List.getElem_mem hk
      exact ((lsP_mem _ _ _).mp this).2.2
    rw [R3, e6]
    have r12 := rr.2
    refine ⟨rfl, ?_⟩
    have jm : ∀ (Q : Int32 → xH → Prop), Q (nI (min 3 (rnOf h j))) h7 → p_Jm_min 3 (nI (rnOf h j)) h7 Q := fun Q q => by
      unfold p_Jm_min
      rw [show (3 : Int32) = nI 3 from rfl, ltn (by omega) (by omega)]
      refine ⟨fun y => ?_, fun y => ?_⟩
      · rw [show min 3 (rnOf h j) = rnOf h j by omega] at q; exact q
      · rw [show min 3 (rnOf h j) = 3 by omega] at q; exact q
    refine jm _ ?_
    show _ ∧ _
    rw [F7.1, le_nn (by omega) (by omega)]
    refine ⟨fun enough h16 q16 => ?_, fun few => refuse (fun y => few (by rw [← er]; exact y.2))⟩
    rw [← er] at enough
    have right := right_LP.mp yes
    have e37 : hI h7 (4, j) 3 = hI h7 (6, j) 6 := by rw [e3, o7 6 j _ (by omega) (by omega) (by omega)]
    have i0 := i7.offc hj e36 a2 e37 F7
    generalize hv0 : sI (sI h7 (6, j) 7 2) (35, 0) j 2 = v0 at i0
    have s0 : SCx v0 h16 := by rw [← hv0, q16]; exact ⟨fun n x h1 h2 _ => by rw [hI_sI (n := (35, 0)), if_neg (fun z => by rw [z.1] at h1; simp at h1)], rfl, rfl⟩
    have o0 : ∀ k m x, k ≠ 6 → k ≠ 35 → hI v0 (k, m) x = hI h7 (k, m) x := fun k m x h1 h2 => by
      rw [← hv0, hI_sI, if_neg (fun z => h2 (congrArg Prod.fst z.1)), hI_sI, if_neg (fun z => h1 (congrArg Prod.fst z.1))]
    have p35 : hI v0 (35, 0) j = 2 := by rw [← hv0, hI_sI, if_pos ⟨rfl, rfl⟩]
    have o35 : ∀ x, x ≠ j → hI v0 (35, 0) x = hI h (35, 0) x := fun x hx => by
      rw [← hv0, hI_sI, if_neg (fun z => hx z.2), hI_sI, if_neg (by simp), o7 35 0 _ (by omega) (by omega) (by omega)]
    have oh : ∀ k m x, k ≠ 6 → k ≠ 35 → k ≠ 4 → k ≠ 15 → k ≠ 16 → hI v0 (k, m) x = hI h (k, m) x := fun k m x h1 h2 h3 h4 h5 => by rw [o0 k m x h1 h2, o7 k m x h3 h4 h5]
    have f0 : frp (hI v0) = frp (hI h) := funext (fun q => by unfold frp; rw [oh 12 0 _ (by omega) (by omega) (by omega) (by omega) (by omega)])
    have c0 : scp (hI v0) = scp (hI h) := funext (fun q => by unfold scp; rw [oh 12 0 _ (by omega) (by omega) (by omega) (by omega) (by omega)])
    have hj12 : j < 12 := by omega
    have fk : ∀ {I : xN → Nat → Int32} {k : Nat}, k < 4 → frp I (4 * j + k) = j ∧ scp I (4 * j + k) = j := fun {I k} hk => by
      unfold frp scp; rw [if_neg (by omega), if_neg (by omega)]; omega
    -- flags before
    have flag : ∀ q, q < 49 → hI h (40, 0) q = 1 → (frp (hI h) q = j ∨ scp (hI h) q = j) → hI h (43, 0) q = 0 := fun q hq th c => by
      rcases i.vq q hq th with y | y
      · exact absurd (c.elim (fun e => by rw [← e]; exact y.2.1) (fun e => by rw [← e]; exact y.2.2)) nst
      · exact y.1
    have rp : ∀ k, k < 4 → hI v0 (40, 0) (4 * j + k) = 1 → rip v0 (4 * j + k) := fun k hk th => by
      have th' : hI h (40, 0) (4 * j + k) = 1 := by rw [← oh 40 0 _ (by omega) (by omega) (by omega) (by omega) (by omega)]; exact th
      refine ⟨th, ?_, by rw [(fk hk).1]; exact p35, by rw [(fk hk).2]; exact p35⟩
      rw [oh 43 0 _ (by omega) (by omega) (by omega) (by omega) (by omega)]
      exact flag _ (by omega) th' (Or.inl (fk hk).1)
    obtain ⟨i4, K4, fl4, on4⟩ := chn_ok i0 hj12 4 (Nat.le_refl _)
    obtain ⟨i5, K5, fl5, on5, no5⟩ := svr_ok i4 (p := 48) (by omega)
    -- the whole invariant at the end
    have Q5 : VQ (hI (svr (chn v0 nr nt j 4) nr nt 48)) := by
      intro q hq th
      have KK5 := K4.tr K5
      rcases i5.vqw q hq th with y | y
      · exact Or.inl y
      · refine Or.inr ⟨y, fun z => ?_⟩
        have ef : frp (hI (svr (chn v0 nr nt j 4) nr nt 48)) q = frp (hI v0) q := by unfold frp; rw [KK5.1 _ _ (kv_12 (by omega))]
        have es : scp (hI (svr (chn v0 nr nt j 4) nr nt 48)) q = scp (hI v0) q := by unfold scp; rw [KK5.1 _ _ (kv_12 (by omega))]
        rw [ef, es, KK5.1 _ _ (kv_k (by omega)), KK5.1 _ _ (kv_k (by omega))] at z
        rw [KK5.1 _ _ (kv_k (by omega))] at th
        have y0 : rip v0 q → False := fun R => by
          by_cases c : q = 48
          · subst c
            have f4 := fl4 48 (by omega)
            exact absurd (y.symm.trans (on5 ((rip_cg K4 f4).mpr R))) (by decide)
          · have n5 := fl5 q c
            by_cases d : 4 * j ≤ q ∧ q < 4 * j + 4
            · have := on4 (q - 4 * j) (by omega)
              rw [show 4 * j + (q - 4 * j) = q by omega] at this
              exact absurd (y.symm.trans (n5.trans (this R))) (by decide)
            · have th' : hI h (40, 0) q = 1 := by rw [← oh 40 0 _ (by omega) (by omega) (by omega) (by omega) (by omega)]; exact th
              have nq : q / 4 ≠ j := by omega
              have fq : frp (hI v0) q = q / 4 := by unfold frp; rw [if_neg c]
              have sq : scp (hI v0) q = q / 4 := by unfold scp; rw [if_neg c]
              have z1 := z.1
              have z2 := z.2
              rw [fq, o35 _ nq] at z1
              rw [sq, o35 _ nq] at z2
              rcases i.vq q hq th' with w | w
              · have f4 := fl4 q (by omega)
                rw [oh 43 0 _ (by omega) (by omega) (by omega) (by omega) (by omega), w.1] at f4
                exact absurd (y.symm.trans (n5.trans f4)) (by decide)
              · refine w.2 ⟨?_, ?_⟩
                · rw [← f0, fq]; exact z1
                · rw [← c0, sq]; exact z2
        have f1 : hI v0 (43, 0) q = 0 ∨ hI v0 (43, 0) q = 1 := pls i0 hq th
        rcases f1 with f1 | f1
        · exact y0 ⟨th, f1, z.1, z.2⟩
        · -- it was settled before
          have hn : ¬ (4 * j ≤ q ∧ q < 4 * j + 4) := fun d => by
            have := rp (q - 4 * j) (by omega)
            rw [show 4 * j + (q - 4 * j) = q by omega] at this
            exact absurd (f1.symm.trans (this th).2.1) (by decide)
          have f4 := fl4 q (by omega)
          have f5 : hI (svr (chn v0 nr nt j 4) nr nt 48) (43, 0) q = hI (chn v0 nr nt j 4) (43, 0) q := by
            by_cases c : q = 48
            · subst c
              rw [no5 (fun R => absurd ((f4.trans f1).symm.trans R.2.1) (by decide))]
            · exact fl5 q c
          exact absurd (y.symm.trans (f5.trans (f4.trans f1))) (by decide)
    have I5 := i5.full Q5
    have z16 : Sm KC h h16 := by rw [q16]; exact sC7.si _ (by simp [KC])
    refine w_chnC i0 hj12 s0 (fun h31 s31 z31 => ?_)
    have x31 : ShX (hS h31) (hR h31) := by rw [s31.2.1, s31.2.2]; exact i4.x
    show _ ∧ _
    rw [xR_11_0_1 x31, xS_28_0 x31, show (48 : Int32).toNatClampNeg = 48 from rfl]
    refine ⟨rfl, (show vp_in (nI 48) (50 - 1) from in_n (by omega) (by omega)), w_ripeC i4 s31 (by omega) (fun h34 s34 z34 => ?_)⟩
    have zC : Sm KC h h34 := (z16.tr z31).tr z34
    refine hF _ _ (i.vs.fr zC (fun n j k => k.2.2)) (fun G hG => ?_)
    have m34 : SM h7 h34 := ⟨fun n x hn => by
      rw [zC.1 n x (fun z => by unfold KC at z; omega), sC7.1 n x (fun z => by unfold KC at z; omega)], zC.2.1.trans sC7.2.1.symm, zC.2.2.trans sC7.2.2.symm⟩
    have mm : ShM (hS h34) (hR h34) := SM.m i7 m34
    have fin : ∀ g', SMx (svr (chn v0 nr nt j 4) nr nt 48) g' → Sm KM h34 g' → G (nI (tot v0 nr nt j 4) + nI (nsv (chn v0 nr nt j 4) 48)) g' := fun g' s' z' => hG g' ⟨nr, nt, I5.both s34 z' s'⟩
    unfold p_M_official
    refine ⟨rfl, w_isRaceS i7 m34 (fun c => absurd rfl (c j hj)) (fun j' hj' e => ⟨fun _ => ?_, fun z => absurd z (by decide)⟩)⟩
    rw [mR1 mm, mS1 mm, cl_n (by omega), m34.i 35, e35]
    refine ⟨rfl, in_n (by omega) (by omega), fun z => absurd rfl z, fun _ => w_areRight i7 m34 hj e36 a2 (fun bad => absurd ⟨right, enough⟩ bad) (fun _ _ => ⟨fun _ => ?_, fun z => absurd z (by decide)⟩)⟩
    rw [mR1 mm, mS1 mm]
    refine ⟨rfl, in_n (by omega) (by omega), fun h13 q13 => ?_⟩
    have s13 : SMx v0 h13 := by
      rw [← hv0, q13]
      refine SMx.si (SMx.oc ?_ ⟨by simp, by simp⟩ _ _) _ _ _
      exact m34.x'
    have zM13 : Sm KM h34 h13 := by rw [q13]; exact (Sm.rf _ h34).si _ (by simp [KM])
    have m13 : ShM (hS h13) (hR h13) := by rw [q13]; exact mm
    have v36 : hI v0 (36, 0) j = nI n := by rw [o0 36 0 _ (by omega) (by omega)]; exact e36
    have takes : ∀ (x : Nat) (nx : Nat) (w g : xH) (k : Nat), x < nr → hI v0 (36, 0) x = nI nx → nx ≤ 12 → (k = 67 ∨ k = 68) → Sm KVv v0 w → SMx w g → ∀ Q : xH → Prop, (∀ g', Sm (fun m _ => m = (k, 0)) g g' → AtH g' (k, 0) (atP (posM (hI v0) x) nx) → Q g') → p_M_takePositions (12, 0) (nI x) (k, 0) g Q := fun x nx w g k hx ex hnx hk kw sg Q q => by
      refine w_takeP i0 hx ex hnx hk (fun g' z => ?_) q
      have o : ∀ a y, a = 36 ∨ a = 39 → hI g' (a, 0) y = hI v0 (a, 0) y := fun a y ha => by
        rw [z.1 _ _ (fun z => by have := congrArg Prod.fst z; simp at this; omega), sg.1 _ _ (Or.inl (show 34 ≤ a by omega)) (ksc_k (by omega)), kw.1 _ _ (kv_k (by omega))]
      refine ⟨fun y => o 39 y (by simp), by rw [o 36 _ (by simp)]; exact ex, ?_⟩
      rw [z.2.1, z.2.2, sg.2.1, sg.2.2, kw.2.1, kw.2.2]; exact i0.m
    rw [mR33 m13]
    refine takes j n v0 h13 67 hj v36 a2 (Or.inl rfl) (Sm.rf _ v0) s13 _ (fun g15 z15 A15 => fun v16 e16 => ?_)
    have s15 : SMx v0 g15 := s13.tr (z15.mono (fun n x z => Or.inl (by rw [z]; simp)))
    have zM15 : Sm KM h34 g15 := zM13.tr (z15.mono (fun n x z => by rw [z]; simp [KM]))
    have e16' : v16 = nI (4 * j) := by rw [e16, show (4 : Int32) = nI 4 from rfl, nI_x]
    subst e16'
    have n0 : nRn v0 j = n := by unfold nRn; rw [v36, cl_n (by omega)]
    refine w_chnM i0 hj12 rp s15 (by rw [n0]; exact A15) (fun g31 s31' z31' => ?_)
    have m31 : ShM (hS g31) (hR g31) := by rw [s31'.2.1, s31'.2.2]; exact i4.m
    have zM31 : Sm KM h34 g31 := zM15.tr z31'
    have e40 : hI g31 (40, 0) 48 = hI h (40, 0) 48 := by
      rw [s31'.1 _ _ (Or.inl (by simp)) (ksc_k (by omega)), K4.1 _ _ (kv_k (by omega)), oh 40 0 _ (by omega) (by omega) (by omega) (by omega) (by omega)]
    have e12 : ∀ x, x = 10 ∨ x = 11 → hI g31 (12, 0) x = hI h (12, 0) x := fun x hx => by
      rw [s31'.1 _ _ (Or.inr rfl) (fun z => by
        rcases z with z | z | z
        · simp at z
        · simp at z
        · simp at z; omega), K4.1 _ _ (kv_12 (by omega)), oh 12 0 _ (by omega) (by omega) (by omega) (by omega) (by omega)]
    have e35' : ∀ x, hI g31 (35, 0) x = hI v0 (35, 0) x := fun x => by
      rw [s31'.1 _ _ (Or.inl (by simp)) (ksc_k (by omega)), K4.1 _ _ (kv_k (by omega))]
    -- nothing of the double
    have none : ¬ rip (chn v0 nr nt j 4) 48 → G (nI (tot v0 nr nt j 4)) g31 := fun nR => by
      have := fin g31 (by rw [no5 nR]; exact s31') zM31
      unfold nsv at this
      rw [if_neg nR, show nI 0 = (0 : Int32) from rfl, Int32.add_zero] at this
      exact this
    have r48 : rip (chn v0 nr nt j 4) 48 ↔ rip v0 48 := rip_cg K4 (fl4 48 (by omega))
    show _ ∧ _
    rw [mR6 m31, mS6 m31, show (48 : Int32).toNatClampNeg = 48 from rfl, e40]
    refine ⟨rfl, (show vp_in (nI 48) (50 - 1) from in_n (by omega) (by omega)), fun nth => none (fun R => ?_), fun th => ?_⟩
    · have := (r48.mp R).1
      rw [oh 40 0 _ (by omega) (by omega) (by omega) (by omega) (by omega), nth] at this
      exact absurd this (by decide)
    have th1 : hI h (40, 0) 48 = 1 := (th01 i (p := 48) (by omega)).elim (fun z => z.1) (fun z => absurd z.1 th)
    have rc := prc i (p := 48) (by omega) th1
    have vp := ((i.vp 48 (by omega)).1 th1).2.2.1 rfl
    rw [e12 10 (by simp), e12 11 (by simp), vp.2.1, vp.2.2, nI_inj (by omega) (by omega), nI_inj (by omega) (by omega)]
    have th0 : hI v0 (40, 0) 48 = 1 := by rw [oh 40 0 _ (by omega) (by omega) (by omega) (by omega) (by omega)]; exact th1
    have j112 : (frp (hI h) 48 = j ∨ scp (hI h) 48 = j) → p_M_official_j112 (12, 0) (nI (tot v0 nr nt j 4)) g31 G := fun c => by
      have f48 := flag 48 (by omega) th1 c
      have f48' : hI v0 (43, 0) 48 = 0 := by rw [oh 43 0 _ (by omega) (by omega) (by omega) (by omega) (by omega)]; exact f48
      unfold p_M_official_j112
      rw [mR1 m31, mS1 m31, e12 10 (by simp), e12 11 (by simp), vp.2.1, vp.2.2, cl_n (by omega), e35', mR33 m31]
      refine ⟨rfl, rfl, in_n (by omega) (by omega), fun y1 => none (fun R => y1 (by have := (r48.mp R).2.2.1; rw [f0] at this; exact this)), fun y1 => ⟨in_n (by omega) (by omega), ?_⟩⟩
      rw [cl_n (by omega), e35']
      refine ⟨fun y2 => none (fun R => y2 (by have := (r48.mp R).2.2.2; rw [c0] at this; exact this)), fun y2 => ?_⟩
      have R : rip (chn v0 nr nt j 4) 48 := r48.mpr ⟨th0, f48', by rw [f0]; exact y1, by rw [c0]; exact y2⟩
      obtain ⟨n1, -, -, b12, -, -, b5, -⟩ := VR_run i.vr rc.1
      obtain ⟨n2, -, -, d12, -, -, d5, -⟩ := VR_run i.vr rc.2.1
      have b5' : hI v0 (36, 0) (frp (hI h) 48) = nI n1 := by rw [oh 36 0 _ (by omega) (by omega) (by omega) (by omega) (by omega)]; exact b5
      have d5' : hI v0 (36, 0) (scp (hI h) 48) = nI n2 := by rw [oh 36 0 _ (by omega) (by omega) (by omega) (by omega) (by omega)]; exact d5
      refine takes _ n1 _ g31 67 rc.1 b5' b12 (Or.inl rfl) K4 s31' _ (fun g42 z42 A42 => ?_)
      have s42 := s31'.tr (z42.mono (fun n x z => Or.inl (by rw [z]; simp)))
      have m42 : ShM (hS g42) (hR g42) := by rw [z42.2.1, z42.2.2]; exact m31
      show p_M_takePositions _ _ _ _ _
      rw [mR34 m42, z42.1 _ _ (by simp), e12 11 (by simp), vp.2.2]
      refine takes _ n2 _ g42 68 rc.2.1 d5' d12 (Or.inr rfl) K4 s42 _ (fun g43 z43 A43 => ?_)
      have s43 := s42.tr (z43.mono (fun n x z => Or.inl (by rw [z]; simp)))
      have f4 : frp (hI (chn v0 nr nt j 4)) 48 = frp (hI h) 48 := by rw [← f0]; unfold frp; rw [K4.1 _ _ (kv_12 (by omega))]
      have c4 : scp (hI (chn v0 nr nt j 4)) 48 = scp (hI h) 48 := by rw [← c0]; unfold scp; rw [K4.1 _ _ (kv_12 (by omega))]
      have p4 : ∀ x, posM (hI (chn v0 nr nt j 4)) x = posM (hI v0) x := fun x => funext (fun k => by unfold posM; rw [K4.1 _ _ (kv_k (by omega))])
      have N1 : nRn (chn v0 nr nt j 4) (frp (hI h) 48) = n1 := by unfold nRn; rw [K4.1 _ _ (kv_k (by omega)), b5', cl_n (by omega)]
      have N2 : nRn (chn v0 nr nt j 4) (scp (hI h) 48) = n2 := by unfold nRn; rw [K4.1 _ _ (kv_k (by omega)), d5', cl_n (by omega)]
      show p_M_settle _ (nI 48) _ _
      refine w_settleM i4 s43 (p := 48) (by omega) R.1 R.2.1 (at1 := atP (posM (hI (chn v0 nr nt j 4)) (frp (hI (chn v0 nr nt j 4)) 48)) (nRn (chn v0 nr nt j 4) (frp (hI (chn v0 nr nt j 4)) 48))) (at2 := atP (posM (hI (chn v0 nr nt j 4)) (scp (hI (chn v0 nr nt j 4)) 48)) (nRn (chn v0 nr nt j 4) (scp (hI (chn v0 nr nt j 4)) 48))) ?_ (fun _ => ?_) rfl (fun g44 s44 z44 m44 => fun y ey => ?_)
      · rw [f4, p4, N1]; exact A42.fr (fun x => z43.1 _ _ (by simp)) z43.2.1
      · rw [c4, p4, N2]; exact A43
      · have := fin g44 (by unfold svr; rw [if_pos R]; exact s44) (((zM31.tr (z42.mono (fun n x z => by rw [z]; simp [KM]))).tr (z43.mono (fun n x z => by rw [z]; simp [KM]))).tr m44)
        unfold nsv at this
        rw [if_pos R] at this
        rw [ey]
        exact this
    refine ⟨fun c => j112 (Or.inl c.symm), fun c => ⟨fun d => none (fun R => ?_), fun d => j112 (Or.inr d.symm)⟩⟩
    have R' := r48.mp R
    have z1 := R'.2.2.1
    have z2 := R'.2.2.2
    rw [f0, o35 _ (fun e => c e.symm)] at z1
    rw [c0, o35 _ (fun e => d e.symm)] at z2
    have f1 := R'.2.1
    rw [oh 43 0 _ (by omega) (by omega) (by omega) (by omega) (by omega)] at f1
    rcases i.vq 48 (by omega) th1 with w | w
    · exact absurd (f1.symm.trans w.1) (by decide)
    · exact w.2 ⟨z1, z2⟩
  · subst e
    have vr := i.vr.1 j hj
    rw [vr.2.1] at st
    unfold p_M_official
    refine ⟨rfl, w_isRace i.md (fun c => absurd rfl (c j hj)) (fun j' hj' e => ⟨fun _ => ?_, fun z => absurd z (by decide)⟩)⟩
    rw [mR1 i.m, mS1 i.m, cl_n (by omega)]
    exact ⟨rfl, in_n (by omega) (by omega), fun _ => hG h ⟨nr, nt, i⟩, fun z => absurd z st⟩
end Official
