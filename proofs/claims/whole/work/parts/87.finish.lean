section Finish
variable {L : Nat} {xs : Nat → Int32} {nr nt : Nat} {v h g : xH}
/-- the runners with a position, in their order -/
def lsP (pos : Nat → Nat) : Nat → List Nat
  | 0 => []
  | k + 1 => if 0 < pos (k + 1) then lsP pos k ++ [k + 1] else lsP pos k
theorem lsP_mem (pos : Nat → Nat) : ∀ k x, x ∈ lsP pos k ↔ (1 ≤ x ∧ x ≤ k ∧ 0 < pos x)
  | 0, x => by simp [lsP]; omega
  | k + 1, x => by
    unfold lsP
    have ih := lsP_mem pos k x
    split
    · rename_i c
      rw [List.mem_append, ih, List.mem_singleton]
      constructor
      · rintro (z | z)
        · exact ⟨z.1, by omega, z.2.2⟩
        · subst z; exact ⟨by omega, by omega, c⟩
      · intro z
        by_cases e : x = k + 1
        · exact Or.inr e
        · exact Or.inl ⟨z.1, by omega, z.2.2⟩
    · rename_i c
      rw [ih]
      constructor
      · exact fun z => ⟨z.1, by omega, z.2.2⟩
      · intro z
        refine ⟨z.1, ?_, z.2.2⟩
        by_cases e : x = k + 1
        · subst e; exact absurd z.2.2 c
        · omega
theorem lsP_pw (pos : Nat → Nat) : ∀ k, (lsP pos k).Pairwise (· < ·)
  | 0 => by simp [lsP]
  | k + 1 => by
    unfold lsP
    split
    · rw [List.pairwise_append]
      refine ⟨lsP_pw pos k, by simp, fun a ha b hb => ?_⟩
      rw [List.mem_singleton] at hb
      have := (lsP_mem pos k a).mp ha
      omega
    · exact lsP_pw pos k
theorem lsP_len (pos : Nat → Nat) : ∀ k, (lsP pos k).length = cn (fun j => decide (0 < pos (j + 1))) k
  | 0 => rfl
  | k + 1 => by
    unfold lsP cn
    have := lsP_len pos k
    by_cases c : 0 < pos (k + 1)
    · simp [c, this]
    · simp [c, this]
theorem gd_lt {l : List Nat} {i : Nat} (hi : i < l.length) : l.getD i 0 = l[i] := by simp [List.getD_eq_getElem?_getD, hi]
theorem gd_app {l m : List Nat} {i : Nat} (hi : i < l.length) : (l ++ m).getD i 0 = l.getD i 0 := by simp [List.getD_eq_getElem?_getD, List.getElem?_append_left hi]
theorem gd_end {l : List Nat} {x : Nat} : (l ++ [x]).getD l.length 0 = x := by simp [List.getD_eq_getElem?_getD]
theorem lsP_cn (pos : Nat → Nat) (P : Nat → Bool) : ∀ k, cn (fun i => P ((lsP pos k).getD i 0)) (lsP pos k).length = cn (fun j => decide (0 < pos (j + 1)) && P (j + 1)) k
  | 0 => rfl
  | k + 1 => by
    have ih := lsP_cn pos P k
    by_cases c : 0 < pos (k + 1)
    · have e : lsP pos (k + 1) = lsP pos k ++ [k + 1] := by rw [lsP, if_pos c]
      rw [e, List.length_append, List.length_singleton]
      rw [cn, cn, ← ih]
      have a1 : cn (fun i => P ((lsP pos k ++ [k + 1]).getD i 0)) (lsP pos k).length = cn (fun i => P ((lsP pos k).getD i 0)) (lsP pos k).length := cn_congr _ (fun i hi => by rw [gd_app hi])
      have a2 : (lsP pos k ++ [k + 1]).getD (lsP pos k).length 0 = k + 1 := gd_end
      rw [a1, a2]
      simp [c]
    · have e : lsP pos (k + 1) = lsP pos k := by rw [lsP, if_neg c]
      rw [e, ih, cn]
      simp [c]
theorem FiH.cg {f cnt : Nat} {ru ps ru' ps' : Nat → Nat} (F : FiH h f cnt ru ps) (e : ∀ i, i < cnt → ru' i = ru i ∧ ps' i = ps i) : FiH h f cnt ru' ps' := by
  obtain ⟨f1, f2, f3, f4, f5, f6, f7⟩ := F
  exact ⟨f1, f2, f3, f4, f5, f6, fun i hi => by rw [(e i hi).1, (e i hi).2]; exact f7 i hi⟩
/-- positions of a race, as its finish lists them -/
def atP (pos : Nat → Nat) (n x : Nat) : Nat := if 1 ≤ x ∧ x ≤ n then pos x else 0
theorem FA_ls {pos : Nat → Nat} {n : Nat} (hn : n ≤ 12) : FA (lsP pos n).length (fun i => (lsP pos n).getD i 0) (fun i => pos ((lsP pos n).getD i 0)) (atP pos n) := by
  have len : (lsP pos n).length ≤ n := by rw [lsP_len]; exact cn_le _ _
  have g : ∀ i, i < (lsP pos n).length → (lsP pos n).getD i 0 ∈ lsP pos n := fun i hi => by
    rw [gd_lt hi]; exact List.getElem_mem hi
  refine ⟨by omega, fun i hi => ?_, fun i j hi hj e => ?_, fun x hx z => ?_⟩
  · have := (lsP_mem pos n _).mp (g i hi)
    refine ⟨this.1, Nat.le_trans this.2.1 hn, if_pos ⟨this.1, this.2.1⟩, by have := this.2.2; show pos _ ≠ 0; omega⟩
  · have pw := lsP_pw pos n
    rw [List.pairwise_iff_getElem] at pw
    replace e : (lsP pos n)[i] = (lsP pos n)[j] := by rw [← gd_lt hi, ← gd_lt hj]; exact e
    rcases Nat.lt_trichotomy i j with c | c | c
    · have := pw i j hi hj c; omega
    · exact c
    · have := pw j i hj hi c; omega
  · unfold atP at z
    by_cases c : 1 ≤ x ∧ x ≤ n
    · rw [if_pos c] at z
      obtain ⟨i, hi, e⟩ := List.getElem_of_mem ((lsP_mem pos n x).mpr ⟨c.1, c.2, by omega⟩)
      exact ⟨i, hi, by show (lsP pos n).getD i 0 = x; rw [gd_lt hi]; exact e⟩
    · rw [if_neg c] at z; exact absurd rfl z
theorem w_readF (i : Inv L xs nr nt h) {r n : Nat} (hr : r < nr) (en : hI h (6, r) 0 = nI n) (hn : n ≤ 12) {Q : xH → Prop} (q : ∀ h', Sm (KFi r) h h' → hI h' (4, r) 3 = hI h (6, r) 6 → FiH h' r (lsP (posM (hI h) r) n).length (fun i => (lsP (posM (hI h) r) n).getD i 0) (fun i => posM (hI h) r ((lsP (posM (hI h) r) n).getD i 0)) → Q h') : p_R_readFinish (6, r) h Q := by
  have hnr := i.vc.1
  have sr := i.sr.1 r hr
  have vr := (i.vr.1 r hr).2.2.2
  generalize hpos : posM (hI h) r = pos at q
  have ep : ∀ k, k < 13 → hI h (21, r) k = nI (pos k) ∧ pos k ≤ 12 := fun k hk => by
    obtain ⟨a, b, c, x, d1, d2⟩ := vr k hk
    rw [← hpos]
    unfold posM
    rw [c, d2, cl_n (by omega)]
    exact ⟨rfl, d1⟩
  unfold p_R_readFinish p_F_begin
  rw [sr.2.2.2.1]
  refine ⟨rfl, rfl, rfl, fun h1 q1 h3 q3 => ⟨n + 1, ?_⟩⟩
  have S3 : Sm (KFi r) h h3 := by rw [q3, q1]; exact ((Sm.rf _ h).si _ (by simp [KFi])).si _ (by simp [KFi])
  have e3 : hI h3 (4, r) 3 = hI h (6, r) 6 := by rw [q3, q1, hI_sI, if_neg (by simp), hI_sI, if_pos ⟨rfl, rfl⟩]
  have F3 : FiH h3 r 0 (fun i => (lsP pos 0).getD i 0) (fun i => pos ((lsP pos 0).getD i 0)) := ⟨by rw [q3, hI_sI, if_pos ⟨rfl, rfl⟩]; rfl, by omega, by rw [S3.2.2]; exact sr.2.2.2.2.2.1, by rw [S3.2.2]; exact sr.2.2.2.2.2.2.1, by rw [S3.2.1]; exact sr.2.2.2.2.2.2.2.2.2.2.1, by rw [S3.2.1]; exact sr.2.2.2.2.2.2.2.2.2.2.2, fun i hi => by omega⟩
  have key : ∀ (m k : Nat) (h' : xH), k + m = n → Sm (KFi r) h h' → hI h' (4, r) 3 = hI h (6, r) 6 → FiH h' r (lsP pos k).length (fun i => (lsP pos k).getD i 0) (fun i => pos ((lsP pos k).getD i 0)) → p_R_readFinish_L13 (6, r) (fun h => Q h) Q (m + 1) (nI (k + 1)) h' := by
    intro m
    induction m with
    | zero =>
      intro k h' hk S e F
      have : k = n := by omega
      subst this
      unfold p_R_readFinish_L13
      rw [S.1 _ _ (by simp [KFi]), en, ltn (by omega) (by omega)]
      exact ⟨rfl, fun _ => q h' S e F, fun z => absurd (by omega) z⟩
    | succ m ih =>
      intro k h' hk S e F
      have pk := ep (k + 1) (by omega)
      have R2 : hR h' (6, r) 2 = (21, r) := by rw [S.2.2]; exact sr.2.2.1
      have R3 : hR h' (6, r) 3 = (4, r) := by rw [S.2.2]; exact sr.2.2.2.1
      have S2 : hS h' (21, r) = 14 := by rw [S.2.1]; exact sr.2.2.2.2.2.2.2.2.1
      have e21 : hI h' (21, r) (k + 1) = nI (pos (k + 1)) := by rw [S.1 _ _ (by simp [KFi])]; exact pk.1
      have z0 : nI (pos (k + 1)) ≤ (0 : Int32) ↔ pos (k + 1) = 0 := (le_nn (b := 0) (by omega) (by omega)).trans (by omega)
      have len : (lsP pos k).length ≤ k := by rw [lsP_len]; exact cn_le _ _
      unfold p_R_readFinish_L13
      rw [S.1 _ _ (by simp [KFi]), en, ltn (by omega) (by omega), R2, R3, S2, cl_n (by omega), e21, z0]
      refine ⟨rfl, fun z => absurd z (by omega), fun _ => ⟨rfl, in_n (by omega) (by omega), fun z w hw => ?_, fun z => ⟨in_n (by omega) (by omega), rfl, w_fadd F (by omega) (by omega) pk.2 (fun h13 S13 e13 F13 => ?_)⟩⟩⟩
      · rw [hw, nI_1]
        have ls : lsP pos (k + 1) = lsP pos k := by rw [lsP, if_neg (by omega)]
        refine ih (k + 1) h' (by omega) S e ?_
        rw [ls]; exact F
      · intro w hw
        rw [hw, nI_1]
        have ls : lsP pos (k + 1) = lsP pos k ++ [k + 1] := by rw [lsP, if_pos (by omega)]
        refine ih (k + 1) h13 (by omega) (S.tr S13) (e13.trans e) ?_
        rw [ls, List.length_append, List.length_singleton]
        refine F13.cg (fun i hi => ?_)
        have : (lsP pos k ++ [k + 1]).getD i 0 = if i = (lsP pos k).length then k + 1 else (lsP pos k).getD i 0 := by
          by_cases c : i = (lsP pos k).length
          · rw [if_pos c, c, gd_end]
          · rw [if_neg c, gd_app (by omega)]
        rw [this]
        refine ⟨rfl, ?_⟩
        by_cases c : i = (lsP pos k).length
        · simp only [if_pos c]
        · simp only [if_neg c]
  exact key n 0 h3 (by omega) S3 e3 F3
end Finish
