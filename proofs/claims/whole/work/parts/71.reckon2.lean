section Reckon2
variable {h h0 g : xH} {p : Nat} {U : Nat → Nat} {W : Nat → Bool}
def vd (k rn : Nat) : Prop := (k = 1 ∧ rn < 5) ∨ (k = 2 ∧ rn < 2) ∨ (k = 3 ∧ rn < 3)
/-- the lines that the class takes -/
def Vs (k rn cnt : Nat) (ru ps : Nat → Nat) (cnt2 : Nat) (ru2 ps2 : Nat → Nat) (l : Nat) : Prop :=
  if k = 1 then ∃ i, i < cnt ∧ ps i ≤ (if rn < 8 then 2 else 3) ∧ l = lin2 k (ru i) 0 0
  else if k = 4 then ∃ i j, i < cnt ∧ j < cnt2 ∧ nx cnt ps i (-1) (-1) ∧ nx cnt2 ps2 j (-1) (-1) ∧ l = lin2 k (ru i) (ru2 j) 0
  else ∃ i, i < cnt ∧ B1 cnt ru ps k i l
theorem w_isVoid {rn : Nat} (hr : rn ≤ 12) (e1 : hI h (5, p) 1 = nI (kf p)) {Q : Int32 → xH → Prop} (no : ¬ vd (kf p) rn → Q 0 h) (yes : vd (kf p) rn → Q 1 h) : p_Po_isVoid (5, p) (nI rn) h Q := by
  have hk := kf_le (p := p)
  have l5 : (5 : Int32) ≤ nI rn ↔ 5 ≤ rn := le_nn (a := 5) (by omega) (by omega)
  have l2 : (2 : Int32) ≤ nI rn ↔ 2 ≤ rn := le_nn (a := 2) (by omega) (by omega)
  have l3 : (3 : Int32) ≤ nI rn ↔ 3 ≤ rn := le_nn (a := 3) (by omega) (by omega)
  unfold p_Po_isVoid
  rw [e1, l5, l2, l3]
  unfold vd at no yes
  generalize kf p = k at *
  rcases k5 hk with rfl | rfl | rfl | rfl | rfl
  · exact ⟨rfl, fun z => absurd z (by decide), fun z => absurd z (by decide), fun z => absurd z (by decide), fun _ => no (by omega)⟩
  · exact ⟨rfl, fun _ => ⟨fun c => no (by omega), fun c => yes (by omega)⟩, fun z => absurd z (by decide), fun z => absurd z (by decide), fun z => absurd rfl (z 1 (by simp))⟩
  · exact ⟨rfl, fun z => absurd z (by decide), fun _ => ⟨fun c => no (by omega), fun c => yes (by omega)⟩, fun z => absurd z (by decide), fun z => absurd rfl (z 2 (by simp))⟩
  · exact ⟨rfl, fun z => absurd z (by decide), fun z => absurd z (by decide), fun _ => ⟨fun c => no (by omega), fun c => yes (by omega)⟩, fun z => absurd rfl (z 3 (by simp))⟩
  · exact ⟨rfl, fun z => absurd z (by decide), fun z => absurd z (by decide), fun z => absurd z (by decide), fun _ => no (by omega)⟩
theorem w_findTakers {f cnt f2 cnt2 rn : Nat} {ru ps ru2 ps2 : Nat → Nat} (P : PH h0 p U) (B : UB p U) (F : FiH h0 f cnt ru ps) (F2 : FiH h0 f2 cnt2 ru2 ps2) (hr : rn ≤ 12) (e3 : hI h0 (4, f) 3 = nI rn) {V : Nat → Prop} (st : STk h0 h p U V) {Q : xH → Prop} (q : ∀ h', STk h0 h' p U (fun l => V l ∨ Vs (kf p) rn cnt ru ps cnt2 ru2 ps2 l) → Q h') : p_Se_findTakers (8, 0) (5, p) (4, f) (4, f2) h Q := by
  have hk := kf_le (p := p)
  obtain ⟨n0, n1, n2, n3, n4⟩ := nk hk
  have P' := P.fr st.1
  unfold p_Se_findTakers
  rw [P'.1, n1, n4]
  refine ⟨rfl, fun k1 => ⟨rfl, w_takePlaced P B F hr e3 st (fun h' st' => q h' (st'.congr (fun l _ => ?_)))⟩, fun k4 => ⟨rfl, w_takeDoubles P B F F2 st (fun h' st' => q h' (st'.congr (fun l _ => ?_)))⟩, fun k1 k4 => ⟨rfl, w_takeRows P B F (by omega) st (fun h' st' => q h' (st'.congr (fun l _ => ?_)))⟩⟩
  · unfold Vs; rw [if_pos k1]
  · unfold Vs; rw [if_neg (by omega), if_pos k4]
  · unfold Vs; rw [if_neg k1, if_neg k4]
theorem w_reckon {f cnt f2 cnt2 rn : Nat} {ru ps ru2 ps2 : Nat → Nat} (P : PH h p U) (B : UB p U) (F : FiH h f cnt ru ps) (F2 : FiH h f2 cnt2 ru2 ps2) (hr : rn ≤ 12) (e3 : hI h (4, f) 3 = nI rn) {lu un de ci : Int32} (p9 : hI h (5, p) 9 = lu) (p5 : hI h (5, p) 5 = un) (p4 : hI h (5, p) 4 = de) (r8 : hR h (5, p) 8 = (19, p)) (s19 : hS h (19, p) = 12) (p19 : hI h (19, p) 4 = ci)
    (hW : ∀ l, l < lls p → 0 < U l → (W l = true ↔ (¬ vd (kf p) rn ∧ Vs (kf p) rn cnt ru ps cnt2 ru2 ps2 l))) {Q : xH → Prop} (q : ∀ h', Sm K9 h h' → RkR h' (kf p) (lls p) U W (vd (kf p) rn) lu un de ci → Q h') : p_Se_reckon (8, 0) (5, p) (4, f) (4, f2) h Q := by
  have hk := kf_le (p := p)
  obtain ⟨n0, n1, n2, n3, n4⟩ := nk hk
  unfold p_Se_reckon
  refine ⟨rfl, fun h2 q2 h4 q4 h6 q6 h8 q8 h10 q10 h12 q12 => ?_⟩
  have S12 : Sm K9 h h12 := by
    rw [q12, q10, q8, q6, q4, q2]
    exact ((((((Sm.rf _ h).si _ (Or.inl ⟨rfl, by omega⟩)).si _ (Or.inl ⟨rfl, by omega⟩)).si _ (Or.inl ⟨rfl, by omega⟩)).si _ (Or.inl ⟨rfl, by omega⟩)).si _ (Or.inl ⟨rfl, by omega⟩)).si _ (Or.inl ⟨rfl, by omega⟩)
  have z2 : hI h12 (8, 0) 2 = 0 := by rw [q12, q10, q8, q6, q4, q2]; simp [hI_sI]
  have z4 : hI h12 (8, 0) 4 = 0 := by rw [q12, q10, q8, q6, q4, q2]; simp [hI_sI]
  have z5 : hI h12 (8, 0) 5 = 0 := by rw [q12, q10, q8, q6, q4, q2]; simp [hI_sI]
  have z6 : hI h12 (8, 0) 6 = 0 := by rw [q12, q10, q8, q6, q4, q2]; simp [hI_sI]
  have z7 : hI h12 (8, 0) 7 = 0 := by rw [q12, q10, q8, q6, q4, q2]; simp [hI_sI]
  have z8 : hI h12 (8, 0) 8 = 0 := by rw [q12, q10, q8, q6, q4, q2]; simp [hI_sI]
  clear q12 q10 q8 q6 q4 q2
  have o12 : ∀ n j, n.1 ≠ 8 → n.1 ≠ 24 → n.1 ≠ 25 → hI h12 n j = hI h n j := fun n j a b c => S12.1 n j (fun z => by rcases z with z | z | z <;> simp [z] at a b c)
  have P12 : PH h12 p U := by
    obtain ⟨a1, a2, a3, a4, a5, a6, a7, a8⟩ := P
    unfold PH
    rw [S12.2.1, S12.2.2, o12 (5, p) 1 (by simp) (by simp) (by simp)]
    exact ⟨a1, a2, a3, fun l hl => by rw [o12 _ _ (by simp) (by simp) (by simp)]; exact a4 l hl, a5, a6, a7, a8⟩
  have F12 : ∀ {f cnt ru ps}, FiH h f cnt ru ps → FiH h12 f cnt ru ps := fun {f cnt ru ps} F => by
    obtain ⟨a1, a2, a3, a4, a5, a6, a7⟩ := F
    unfold FiH
    rw [S12.2.1, S12.2.2, o12 (4, f) 2 (by simp) (by simp) (by simp)]
    exact ⟨a1, a2, a3, a4, a5, a6, fun i hi => by rw [o12 _ _ (by simp) (by simp) (by simp), o12 _ _ (by simp) (by simp) (by simp)]; exact a7 i hi⟩
  have e3' : hI h12 (4, f) 3 = nI rn := by rw [o12 _ _ (by simp) (by simp) (by simp)]; exact e3
  rw [e3']
  have end' : ∀ h1 ln, Sm K8 h12 h1 → TK h1 (zN (lls p) U W) ln → En ln (zN (lls p) U W) (lls p) (fun l => W l = true ∧ 0 < U l) → ∀ vo : Int32, (vo = 0 ↔ ¬ vd (kf p) rn) → p_Se_reckon_j52 (8, 0) (5, p) vo h1 Q := by
    intro h1 ln s1 t en vo hvo
    have hn : zN (lls p) U W ≤ 200 := B.2 ln _ _ en (fun l _ z => z.2)
    have nz0 : nI (zN (lls p) U W) = (0 : Int32) ↔ zN (lls p) U W = 0 := nI_inj (b := 0) (by omega) (by omega)
    have P1 := P12.fr s1
    have x4 : hI h1 (8, 0) 4 = 0 := by rw [s1.1 _ _ (by simp [K8])]; exact z4
    have x5 : hI h1 (8, 0) 5 = 0 := by rw [s1.1 _ _ (by simp [K8])]; exact z5
    have x6 : hI h1 (8, 0) 6 = 0 := by rw [s1.1 _ _ (by simp [K8])]; exact z6
    have x7 : hI h1 (8, 0) 7 = 0 := by rw [s1.1 _ _ (by simp [K8])]; exact z7
    have x8 : hI h1 (8, 0) 8 = 0 := by rw [s1.1 _ _ (by simp [K8])]; exact z8
    have o1 : ∀ n j, n.1 ≠ 8 → n.1 ≠ 24 → n.1 ≠ 25 → hI h1 n j = hI h n j := fun n j a b c => by rw [s1.1 n j (fun z => by rcases z with z | z <;> simp [z] at a b), o12 n j a b c]
    have S1 : Sm K9 h h1 := S12.tr (s1.mono K8_9)
    have j78 : ∀ s0 : Int32, (s0 = 0 ∨ s0 = 1) → (s0 = 0 ↔ ¬ (vd (kf p) rn ∨ (zN (lls p) U W = 0 ∧ kf p ≠ 3))) → p_Se_reckon_j78 s0 (8, 0) (8, 0) (5, p) h1 Q := by
      intro s0 h01 hs
      unfold p_Se_reckon_j78
      refine ⟨rfl, h01, fun h22 q22 => ⟨rfl, ?_⟩⟩
      have S22 : Sm K9 h h22 := by rw [q22]; exact S1.si _ (Or.inl ⟨rfl, by omega⟩)
      have y3 : hI h22 (8, 0) 3 = s0 := by rw [q22, hI_sI, if_pos ⟨rfl, rfl⟩]
      have o22 : ∀ n j, ¬ (n = (8, 0) ∧ j = 3) → hI h22 n j = hI h1 n j := fun n j hn => by rw [q22, hI_sI, if_neg hn]
      have t22 : TK h22 (zN (lls p) U W) ln := ⟨by rw [o22 _ _ (by simp)]; exact t.1, fun i hi => by rw [o22 _ _ (by simp)]; exact t.2 i hi⟩
      have c4 : (4 : Int32).toNatClampNeg = 4 := rfl
      rw [y3, o22 (5, p) 9 (by simp), o22 (5, p) 5 (by simp), o22 (5, p) 4 (by simp), o1 (5, p) 9 (by simp) (by simp) (by simp), o1 (5, p) 5 (by simp) (by simp) (by simp), o1 (5, p) 4 (by simp) (by simp) (by simp), p9, p5, p4]
      refine ⟨fun c0 => ⟨rfl, fun v27 h27 h29 q29 => ?_⟩, fun c0 => ⟨rfl, ?_⟩⟩
      · have S29 : Sm K9 h h29 := by rw [q29]; exact S22.si _ (Or.inl ⟨rfl, by omega⟩)
        have y4 : hI h29 (8, 0) 4 = zT lu un de := by rw [q29, hI_sI, if_pos ⟨rfl, rfl⟩, h27]; rfl
        have o29 : ∀ n j, ¬ (n = (8, 0) ∧ j = 3) → ¬ (n = (8, 0) ∧ j = 4) → hI h29 n j = hI h1 n j := fun n j hn hn2 => by rw [q29, hI_sI, if_neg hn2, o22 n j hn]
        have y3' : hI h29 (8, 0) 3 = s0 := by rw [q29, hI_sI, if_neg (by simp)]; exact y3
        have t29 : TK h29 (zN (lls p) U W) ln := ⟨by rw [o29 _ _ (by simp) (by simp)]; exact t.1, fun i hi => by rw [o29 _ _ (by simp) (by simp)]; exact t.2 i hi⟩
        have P29 : PH h29 p U := by
          obtain ⟨a1, a2, a3, a4, a5, a6, a7, a8⟩ := P
          unfold PH
          rw [S29.2.1, S29.2.2, S29.1 (5, p) 1 (by simp [K9])]
          exact ⟨a1, a2, a3, fun l hl => by rw [S29.1 _ _ (by simp [K9])]; exact a4 l hl, a5, a6, a7, a8⟩
        rw [S29.2.1, S29.2.2, r8, s19, c4, y4, t29.1, nz0, o29 (19, p) 4 (by simp) (by simp), o1 (19, p) 4 (by simp) (by simp) (by simp), p19]
        refine ⟨rfl, in_n (j := 4) (by omega) (by omega), fun v33 h33 => ?_⟩
        have e33 : v33 = zE lu un de ci := by rw [h33, h27]; rfl
        rw [e33]
        refine ⟨fun nz => w_share B P29 t29 en nz (by rw [S29.1 _ _ (by simp [K9])]; exact p5) (by rw [o29 _ _ (by simp) (by simp)]; exact x7) (by rw [o29 _ _ (by simp) (by simp)]; exact x8) (fun h' s' f6 f7 f8 f25 => ?_), fun nz h37 q37 => ?_⟩
        · refine q h' (S29.tr (s'.mono (fun m j z => z.elim (fun z => Or.inr (Or.inr z)) (fun z => Or.inl ⟨z.1, by omega⟩)))) ⟨ln, en, ⟨by rw [s'.1 _ _ (by simp)]; exact t29.1, fun i hi => by rw [s'.1 _ _ (by simp)]; exact t29.2 i hi⟩, Or.inr (Or.inr ⟨hs.mp c0, nz, ?_, ?_, ?_, f6, f7, f8, f25⟩)⟩
          · rw [s'.1 _ _ (by simp), y3']; exact c0
          · rw [s'.1 _ _ (by simp)]; exact y4
          · rw [s'.1 _ _ (by simp), o29 _ _ (by simp) (by simp)]; exact x5
        · have o37 : ∀ n j, ¬ (n = (8, 0) ∧ j = 5) → hI h37 n j = hI h29 n j := fun n j hn => by rw [q37, hI_sI, if_neg hn]
          refine q h37 (by rw [q37]; exact S29.si _ (Or.inl ⟨rfl, by omega⟩)) ⟨ln, en, ⟨by rw [o37 _ _ (by simp)]; exact t29.1, fun i hi => by rw [o37 _ _ (by simp)]; exact t29.2 i hi⟩, Or.inr (Or.inl ⟨hs.mp c0, nz, ?_, ?_, ?_, ?_, ?_, ?_⟩)⟩
          · rw [o37 _ _ (by simp), y3']; exact c0
          · rw [o37 _ _ (by simp)]; exact y4
          · rw [q37, hI_sI, if_pos ⟨rfl, rfl⟩]
          · rw [o37 _ _ (by simp), o29 _ _ (by simp) (by simp)]; exact x6
          · rw [o37 _ _ (by simp), o29 _ _ (by simp) (by simp)]; exact x7
          · rw [o37 _ _ (by simp), o29 _ _ (by simp) (by simp)]; exact x8
      · rw [S22.2.1, S22.2.2, r8, s19, c4, o22 (19, p) 4 (by simp), o1 (19, p) 4 (by simp) (by simp) (by simp), p19]
        refine ⟨rfl, in_n (j := 4) (by omega) (by omega), fun h42 q42 => ?_⟩
        have o42 : ∀ n j, ¬ (n = (8, 0) ∧ j = 5) → hI h42 n j = hI h22 n j := fun n j hn => by rw [q42, hI_sI, if_neg hn]
        refine q h42 (by rw [q42]; exact S22.si _ (Or.inl ⟨rfl, by omega⟩)) ⟨ln, en, ⟨by rw [o42 _ _ (by simp)]; exact t22.1, fun i hi => by rw [o42 _ _ (by simp)]; exact t22.2 i hi⟩, Or.inl ⟨Classical.not_not.mp (fun y => c0 (hs.mpr y)), ?_, ?_, ?_, ?_, ?_, ?_⟩⟩
        · rw [o42 _ _ (by simp), y3]; exact h01.resolve_left c0
        · rw [o42 _ _ (by simp), o22 _ _ (by simp)]; exact x4
        · rw [q42, hI_sI, if_pos ⟨rfl, rfl⟩]
        · rw [o42 _ _ (by simp), o22 _ _ (by simp)]; exact x6
        · rw [o42 _ _ (by simp), o22 _ _ (by simp)]; exact x7
        · rw [o42 _ _ (by simp), o22 _ _ (by simp)]; exact x8
    unfold p_Se_reckon_j52
    rw [t.1, nz0, P1.1, n3]
    refine ⟨fun v => j78 1 (Or.inr rfl) ⟨fun y => absurd y (by decide), fun y => absurd (Or.inl (Classical.not_not.mp (fun x => v (hvo.mpr x)))) y⟩, fun v => ⟨rfl, fun c => j78 0 (Or.inl rfl) ⟨fun _ y => y.elim (hvo.mp v) (fun y => c y.1), fun _ => rfl⟩, fun c => ⟨rfl, fun c3 => j78 0 (Or.inl rfl) ⟨fun _ y => y.elim (hvo.mp v) (fun y => y.2 c3), fun _ => rfl⟩, fun c3 => j78 1 (Or.inr rfl) ⟨fun y => absurd y (by decide), fun y => absurd (Or.inr ⟨c, c3⟩) y⟩⟩⟩⟩
  have st0 : STk h12 h12 p U (fun _ => False) := ⟨Sm.rf _ h12, 0, fun _ => 0, ⟨z2, fun i hi => by omega⟩, En.zero (fun l _ z => z.1)⟩
  refine ⟨rfl, rfl, w_isVoid hr P12.1 (fun nv => ⟨fun z => absurd rfl z, fun _ => w_findTakers P12 B (F12 F) (F12 F2) hr e3' st0 (fun h1 st1 => ?_)⟩) (fun v => ⟨fun _ => ?_, fun z => absurd z (by decide)⟩)⟩
  · obtain ⟨s1, n, ln, t, en⟩ := st1
    have en2 : En ln n (lls p) (fun l => W l = true ∧ 0 < U l) := en.congr (fun l hl => ⟨fun z => ⟨(hW l hl z.2).mpr ⟨nv, z.1.elim False.elim id⟩, z.2⟩, fun z => ⟨Or.inr ((hW l hl z.2).mp z.1).2, z.2⟩⟩)
    have hn := en_zN en2
    subst hn
    exact end' h1 ln s1 t en2 0 ⟨fun _ => nv, fun _ => rfl⟩
  · have en2 : En (fun _ => 0) 0 (lls p) (fun l => W l = true ∧ 0 < U l) := En.zero (fun l hl z => ((hW l hl z.2).mp z.1).1 v)
    have hn := en_zN en2
    refine end' h12 (fun _ => 0) (Sm.rf _ h12) ⟨by rw [← hn]; exact z2, fun i hi => by omega⟩ (by rw [← hn]; exact en2) 1 ⟨fun y => absurd y (by decide), fun y => absurd v y⟩
end Reckon2
