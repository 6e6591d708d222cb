section Worst3
variable {L : Nat} {xs : Nat → Int32} {nr nt : Nat} {v h g : xH}
theorem w_isRaceS (i : Inv L xs nr nt v) (s : SM v g) {r : Int32} {Q : Int32 → xH → Prop} (no : (∀ j, j < nr → r ≠ nI j) → Q 0 g) (yes : ∀ j, j < nr → r = nI j → Q 1 g) : p_M_isRace (12, 0) r g Q := by
  have hn := i.vc.1
  have e0 : (0 : Int32).toInt = 0 := rfl
  have e1 : (nI nr - 1).toInt = (nr : Int) - 1 := by
    have := pk_sub_toInt (a := nr) (b := 1) (by omega) (by omega)
    exact this
  unfold p_M_isRace
  rw [s.i 12, i.vc.2.2.2.1]
  refine ⟨rfl, w_in (fun c => ⟨Or.inl rfl, no (fun j hj e => ?_)⟩) (fun c => ⟨Or.inr rfl, ?_⟩)⟩
  · rw [e, ti_n (by omega), e0, e1] at c
    omega
  · rw [e0, e1] at c
    refine yes r.toInt.toNat (by omega) ?_
    rw [ti_eq, ti_n (by omega)]
    omega
theorem w_M125 (i : Inv L xs nr nt h) {g0 : xH} (s0 : Sm KS2 h g0) {r n a mc rn c0 cm : Nat} {Fk : Nat → Nat} (gr : GrN g0 (hI h) nt r 4 Fk) (e4 : hI g0 (82, 0) 4 = nI (Fk 4)) (hr : r < nr) (st : ¬ hI h (35, 0) r = 2) (hn : n ≤ 12) (a1 : 1 ≤ a) (ha : a ≤ n) (hm : mc ≤ n) (hrn : rn ≤ 12) (hmc : mc = if rn = 2 then 0 else n) (hc : (mc = 0 ∧ c0 = 0 ∧ cm = 1) ∨ (mc ≠ 0 ∧ c0 = 1 ∧ cm = mc)) {K : Int32 → xH → Prop} {Q : Int32 → xH → Prop} : ∀ (m b : Nat) (g' : xH) (s : Int32 × Int32), 1 ≤ b → b + m = n + 1 → Sm KV g0 g' → hI g' (12, 0) 47 = s.2 → (∀ h2 t, t = xwB (okb (hI h) r) (ddR h nt r) c0 cm a m b s → Sm KV g0 h2 → hI h2 (12, 0) 47 = t.2 → K t.1 h2) → p_M_worst_L125 (12, 0) (nI r) (nI rn) (nI n) (nI a) K Q (m + 1) s.1 (nI b) g' := by
  have e2 : nI rn = (2 : Int32) ↔ rn = 2 := nI_inj (b := 2) (by omega) (by omega)
  intro m
  induction m with
  | zero =>
    intro b g' s b1 hb S e47 q
    unfold p_M_worst_L125
    rw [ltn (by omega) (by omega)]
    exact ⟨fun _ => q g' s rfl S e47, fun z => absurd (by omega) z⟩
  | succ m ih =>
    intro b g' s b1 hb S e47 q
    unfold p_M_worst_L125
    rw [ltn (by omega) (by omega), e2]
    have go : ∃ f, p_M_worst_L143 (12, 0) (nI r) (nI rn) (nI n) (nI a) (nI b) (fun (x74 : Int32) (h75 : xH) => ∀ v76 : Int32, v76 = nI b + (1 : Int32) → (p_M_worst_L125 (12, 0) (nI r) (nI rn) (nI n) (nI a) K Q (m + 1)) x74 v76 h75) Q f s.1 (nI c0) g' := by
      refine ⟨cm + 1, w_M143 i s0 gr e4 hr st hn a1 ha b1 (by omega) hm hrn hmc cm c0 g' s (by omega) S e47 (fun h2 t et S2 f2 => ?_)⟩
      intro w hw
      rw [hw, nI_1]
      exact ih (b + 1) h2 t (by omega) (by omega) S2 f2 (fun h3 u eu => q h3 u (by rw [eu, et]; rfl))
    refine ⟨fun z => absurd z (by omega), fun _ => ⟨fun z => ?_, fun z => ?_⟩⟩
    · rw [if_neg z] at hmc
      rcases hc with ⟨h1, h2, h3⟩ | ⟨h1, h2, h3⟩
      · omega
      · subst h2; exact go
    · rw [if_pos z] at hmc
      rcases hc with ⟨h1, h2, h3⟩ | ⟨h1, h2, h3⟩
      · subst h2; exact go
      · omega
theorem w_M116 (i : Inv L xs nr nt h) {g0 : xH} (s0 : Sm KS2 h g0) {r n mc rn c0 cm : Nat} {Fk : Nat → Nat} (gr : GrN g0 (hI h) nt r 4 Fk) (e4 : hI g0 (82, 0) 4 = nI (Fk 4)) (hr : r < nr) (st : ¬ hI h (35, 0) r = 2) (hn : n ≤ 12) (hm : mc ≤ n) (hrn : rn ≤ 12) (hmc : mc = if rn = 2 then 0 else n) (hc : (mc = 0 ∧ c0 = 0 ∧ cm = 1) ∨ (mc ≠ 0 ∧ c0 = 1 ∧ cm = mc)) {K : Int32 → xH → Prop} {Q : Int32 → xH → Prop} : ∀ (m a : Nat) (g' : xH) (s : Int32 × Int32), 1 ≤ a → a + m = n + 1 → Sm KV g0 g' → hI g' (12, 0) 47 = s.2 → (∀ h2 t, t = xwA (okb (hI h) r) (ddR h nt r) n c0 cm m a s → Sm KV g0 h2 → hI h2 (12, 0) 47 = t.2 → K t.1 h2) → p_M_worst_L116 (12, 0) (nI r) (nI rn) (nI n) K Q (m + 1) s.1 (nI a) g' := by
  intro m
  induction m with
  | zero =>
    intro a g' s a1 ha S e47 q
    unfold p_M_worst_L116
    rw [ltn (by omega) (by omega)]
    exact ⟨fun _ => q g' s rfl S e47, fun z => absurd (by omega) z⟩
  | succ m ih =>
    intro a g' s a1 ha S e47 q
    unfold p_M_worst_L116
    rw [ltn (by omega) (by omega)]
    refine ⟨fun z => absurd z (by omega), fun _ => ⟨n + 1, w_M125 i s0 gr e4 hr st hn a1 (by omega) hm hrn hmc hc n 1 g' s (by omega) (by omega) S e47 (fun h2 t et S2 f2 => ?_)⟩⟩
    intro w hw
    rw [hw, nI_1]
    exact ih (a + 1) h2 t (by omega) (by omega) S2 f2 (fun h3 u eu => q h3 u (by rw [eu, et]; rfl))
theorem kw_2 : ∀ n j, KW n j → KS2 n j := fun n j z => z.elim (fun z => Or.inl (ksk_x n j z)) (fun z => Or.inr (Or.inl z))
/-- promise 21 -/
theorem o_worst (H : Ok L xs h) (x : Int32) {F : Int32 → xH → Prop} (hF : Nx L xs (p_M_worst (12, 0) x) F) : p_T_worst (11, 0) x h F := by
  obtain ⟨nr, nt, i⟩ := H
  have hnr := i.vc.1
  have m := i.m
  unfold p_T_worst
  refine ⟨rfl, w_findRace i (fun hno => ⟨fun z => absurd rfl z, fun _ => hF _ _ i.vs (fun G hG => ?_)⟩) (fun r hr e => ⟨fun _ => ⟨rfl, ?_⟩, fun z => absurd z (nz 5 r)⟩)⟩
  · unfold p_M_worst
    exact ⟨rfl, w_isRace i.md (fun _ => ⟨fun z => absurd rfl z, fun _ => hG h ⟨nr, nt, i⟩⟩) (fun j hj e => absurd e (hno j hj))⟩
  subst e
  obtain ⟨n, u, a1, a2, a3, a4, a5, -⟩ := VR_run i.vr hr
  have stt := (i.vr.1 r hr).2.1
  have rr := rn_of i hr
  have en : (hI h (36, 0) r).toNatClampNeg = n := by rw [a5, cl_n (by omega)]
  have t2 : (2 : Int32) ≤ nI (rnOf h r) ↔ 2 ≤ rnOf h r := le_nn (a := 2) (by omega) (by omega)
  have t2' : nI (rnOf h r) ≤ (2 : Int32) ↔ rnOf h r ≤ 2 := le_nn (b := 2) (by omega) (by omega)
  -- the model up to where it looks
  have mh : ∀ (G : Int32 → xH → Prop) (g : xH), Sm KW h g → (hI h (35, 0) r = 2 → G (-6) g) → (¬ hI h (35, 0) r = 2 → ¬ 2 ≤ rnOf h r → G (-5) g) → (¬ hI h (35, 0) r = 2 → 2 ≤ rnOf h r → ∀ g36 Fk, Sm KS2 h g36 → hI g36 (11, 0) 13 = hI g (11, 0) 13 → hI g36 (12, 0) 47 = 0 → GrN g36 (hI h) nt r 4 Fk → hI g36 (82, 0) 4 = nI (Fk 4) → ∃ f91, p_M_worst_L116 (12, 0) (nI r) (nI (rnOf h r)) (nI n) (fun (x89 : Int32) (h90 : xH) => G x89 h90) G f91 (-1 : Int32) (1 : Int32) g36) → p_M_worst (12, 0) (nI r) g G := by
    intro G g S n6 n5 ok
    have SK := S.mono kw_2
    have E := scr2_eq SK
    have mg : ShM (hS g) (hR g) := by rw [S.2.1, S.2.2]; exact m
    have e36 : ∀ g', Sm KS2 h g' → hI g' (36, 0) r = nI n := fun g' s => by rw [s.1 _ _ (by simp [KS2, KSc])]; exact a5
    obtain ⟨v, iv, sv, kv⟩ := vmk i SK
    unfold p_M_worst
    refine ⟨rfl, w_isRaceS iv sv (fun z => absurd rfl (z r hr)) (fun _ _ _ => ⟨fun _ => ?_, fun z => absurd z (by decide)⟩)⟩
    rw [mR1 mg, mS1 mg, cl_n (by omega), E.2.2.2.2.2.2.2.1]
    refine ⟨rfl, in_n (by omega) (by omega), fun ns => w_running mg (by omega) (e36 g SK) a2 ?_, fun s => n6 s⟩
    have e38 : (fun k => decide (hI g (38, 0) (13 * r + (k + 1)) = 0)) = (fun k => decide (hI h (38, 0) (13 * r + (k + 1)) = 0)) := funext (fun k => by rw [SK.1 (38, 0) _ (by simp [KS2, KSc])])
    have ern : cn (fun k => decide (hI h (38, 0) (13 * r + (k + 1)) = 0)) n = rnOf h r := by unfold rnOf; rw [en]
    rw [e38, ern]
    show _ ∧ _
    rw [t2]
    refine ⟨fun two h11 q11 => ?_, fun z => n5 ns z⟩
    have S11 : Sm KS2 h h11 := by rw [q11]; exact SK.si _ (Or.inl (Or.inr (Or.inr ⟨rfl, Or.inl rfl⟩)))
    refine w_grN i S11 hr (by rw [q11, hI_sI, if_pos ⟨rfl, rfl⟩]) (fun h27 Fk S27 f35 gr => ?_)
    have SK27 : Sm KS2 h h27 := S11.tr (S27.mono (fun n j z => Or.inl (z.elim (kx_G n j) (fun z => Or.inl (by simp [z])))))
    have m27 : ShM (hS h27) (hR h27) := by rw [SK27.2.1, SK27.2.2]; exact m
    show _ ∧ _
    rw [mR48 m27, mS48 m27, f35]
    refine ⟨rfl, (show vp_in (nI 4) (6 - 1) from in_n (by omega) (by omega)), fun h30 q30 => ?_⟩
    have SK30 : Sm KS2 h h30 := by rw [q30]; exact SK27.si _ (Or.inl (Or.inl (by simp)))
    have m30 : ShM (hS h30) (hR h30) := by rw [SK30.2.1, SK30.2.2]; exact m
    rw [mR2 m30, mS2 m30, e36 h30 SK30]
    refine ⟨rfl, in_n (by omega) (by omega), fun w hw h36 q36 => ?_⟩
    subst hw
    have o36 : ∀ (k : Nat) (y : Nat), k ≠ 12 → k ≠ 82 → hI h36 (k, 0) y = hI h27 (k, 0) y := fun k y k1 k2 => by
      rw [q36, hI_sI, if_neg (fun z => k1 (congrArg Prod.fst z.1)), q30, hI_sI, if_neg (fun z => k2 (congrArg Prod.fst z.1))]
    have o82 : ∀ y, y ≠ 4 → hI h36 (82, 0) y = hI h27 (82, 0) y := fun y hy => by
      rw [q36, hI_sI, if_neg (by simp), q30, hI_sI, if_neg (fun z => hy z.2)]
    refine ok ns two h36 Fk (by rw [q36]; exact SK30.si _ (Or.inr (Or.inr ⟨rfl, rfl⟩))) ?_ (by rw [q36, hI_sI, if_pos ⟨rfl, rfl⟩]) ?_ (by rw [q36, hI_sI, if_neg (by simp), q30, hI_sI, if_pos ⟨rfl, rfl⟩])
    · rw [q36, hI_sI, if_neg (by simp), q30, hI_sI, if_neg (by simp), S27.1 _ _ (by simp [KGr, KG]), q11, hI_sI, if_neg (by simp)]
    · obtain ⟨c1, c2, c3, c4, c5⟩ := gr
      refine ⟨fun j hj => by rw [o82 j (by omega)]; exact c1 j hj, c2, c3, c4, fun j hj th => ?_⟩
      obtain ⟨gl, z⟩ := c5 j hj th
      exact ⟨gl, z.fr (fun k y h1 h2 _ => o36 k y (by omega) (by omega))⟩
  rw [stt, rr.1, t2, t2', a4]
  refine ⟨fun ns => ⟨fun two => ?_, fun z => hF _ _ i.vs (fun G hG => mh G h (Sm.rf _ h) (fun y => absurd y ns) (fun _ _ => hG h ⟨nr, nt, i⟩) (fun _ y => absurd y z))⟩, fun s => hF _ _ i.vs (fun G hG => mh G h (Sm.rf _ h) (fun _ => hG h ⟨nr, nt, i⟩) (fun y => absurd s y) (fun y => absurd s y))⟩
  obtain ⟨w, y, z, w1, w2, y1, y2, x1, x2, okx⟩ := row_ex i hr en two
  have main : ∀ mc c0 cm, mc ≤ n → (mc = if rnOf h r = 2 then 0 else n) → ((mc = 0 ∧ c0 = 0 ∧ cm = 1) ∨ (mc ≠ 0 ∧ c0 = 1 ∧ cm = mc)) → ∃ f, p_T_worst_L58 (11, 0) (nI r) (6, r) (nI mc) (fun (x46 : Int32) (h47 : xH) => F x46 h47) F f (-1 : Int32) (1 : Int32) h := by
    intro mc c0 cm hm hmc hc
    refine ⟨n + 1, w_W58 i hr ns en a4 hm hc n 1 h (-1, hI h (11, 0) 13) (by omega) (by omega) (Sm.rf _ h) rfl (fun h2 t et S2 e13 => ?_)⟩
    have SK2 := S2.mono kw_2
    have vs2 : VS (hS h2) (hI h2) L xs := ⟨by rw [S2.2.1]; exact i.vs.1, fun j => by rw [S2.1 _ _ (by simp [KW, KSk])]; exact i.vs.2 j⟩
    refine hF _ _ vs2 (fun G hG => mh G h2 S2 (fun y => absurd y ns) (fun _ y => absurd two y) (fun _ _ g36 Fk S36 f13 f47 gr e4 => ⟨n + 1, ?_⟩))
    refine w_M116 i S36 gr e4 hr ns a2 hm rr.2 hmc hc n 1 g36 (-1, 0) (by omega) (by omega) (Sm.rf _ g36) f47 (fun h3 u eu S3 e47 => ?_)
    have ag : AG t u := by
      rw [et, eu]
      exact xwA_ag n c0 cm n 1 ⟨rfl, Or.inl rfl⟩
    have ne : t.1 ≠ -1 := by
      rw [et]
      refine xwA_ne a2 (by omega) n 1 (by omega) (Or.inr ⟨w, y, z, w1, by omega, y1, y2, ?_, ?_, okx⟩)
      · by_cases e : rnOf h r = 2
        · rw [if_pos e] at hmc; have := x1 e; omega
        · have := x2 e; omega
      · by_cases e : rnOf h r = 2
        · rw [if_pos e] at hmc; have := x1 e; omega
        · rw [if_neg e] at hmc; have := x2 e; omega
    have e2 : t.2 = u.2 := ag.2.elim (fun z => absurd z ne) id
    have i3 : Inv L xs nr nt h3 := i.scr2 (S36.tr (S3.mono kv_2)) (by rw [S3.1 _ _ (by simp [KV, KF]), f13, e13, e47, e2])
    have := hG h3 ⟨nr, nt, i3⟩
    rw [ag.1] at this
    exact this
  refine ⟨fun z => main 0 0 1 (by omega) (by rw [if_pos (by omega)]) (Or.inl ⟨rfl, rfl, rfl⟩), fun z v hv => ?_⟩
  rw [hv]
  exact main n 1 n (by omega) (by rw [if_neg (by omega)]) (Or.inr ⟨by omega, rfl, rfl⟩)
end Worst3
