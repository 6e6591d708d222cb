section Worst
variable {L : Nat} {xs : Nat → Int32} {nr nt : Nat} {v h g : xH}
variable {ok : Nat → Nat → Nat → Bool} {dd : Nat → Nat → Nat → Int32}
def cod (a b c : Nat) : Int32 := ((10000 : Int32) * nI a + (100 : Int32) * nI b) + nI c
def ws (ok : Nat → Nat → Nat → Bool) (dd : Nat → Nat → Nat → Int32) (a b c : Nat) (s : Int32 × Int32) : Int32 × Int32 := if ok a b c = true then (if s.1 = -1 ∨ s.2 < dd a b c then (cod a b c, dd a b c) else s) else s
def xwC (ok : Nat → Nat → Nat → Bool) (dd : Nat → Nat → Nat → Int32) (a b : Nat) : Nat → Nat → Int32 × Int32 → Int32 × Int32
  | 0, _, s => s
  | m + 1, c, s => xwC ok dd a b m (c + 1) (ws ok dd a b c s)
def xwB (ok : Nat → Nat → Nat → Bool) (dd : Nat → Nat → Nat → Int32) (c0 cm a : Nat) : Nat → Nat → Int32 × Int32 → Int32 × Int32
  | 0, _, s => s
  | m + 1, b, s => xwB ok dd c0 cm a m (b + 1) (xwC ok dd a b cm c0 s)
def xwA (ok : Nat → Nat → Nat → Bool) (dd : Nat → Nat → Nat → Int32) (n c0 cm : Nat) : Nat → Nat → Int32 × Int32 → Int32 × Int32
  | 0, _, s => s
  | m + 1, a, s => xwA ok dd n c0 cm m (a + 1) (xwB ok dd c0 cm a n 1 s)
theorem cod_ne {a b c : Nat} (ha : a ≤ 12) (hb : b ≤ 12) (hc : c ≤ 12) : cod a b c ≠ -1 := fun z => by
  unfold cod at z
  rw [show (10000 : Int32) = nI 10000 from rfl, show (100 : Int32) = nI 100 from rfl, nI_x, nI_x, nI_add, nI_add] at z
  have := congrArg Int32.toInt z
  rw [ti_n (by omega), show (-1 : Int32).toInt = -1 by decide] at this
  omega
/-- two runs that agree -/
def AG (s t : Int32 × Int32) : Prop := s.1 = t.1 ∧ (s.1 = -1 ∨ s.2 = t.2)
theorem ws_ag {s t : Int32 × Int32} (z : AG s t) (a b c : Nat) : AG (ws ok dd a b c s) (ws ok dd a b c t) := by
  unfold ws
  by_cases o : ok a b c = true
  · rw [if_pos o, if_pos o]
    by_cases e : s.1 = -1
    · rw [if_pos (Or.inl e), if_pos (Or.inl (z.1.symm.trans e))]; exact ⟨rfl, Or.inr rfl⟩
    · have e2 : s.2 = t.2 := z.2.elim (fun y => absurd y e) id
      have : s = t := Prod.ext z.1 e2
      rw [this]; exact ⟨rfl, Or.inr rfl⟩
  · rw [if_neg o, if_neg o]; exact z
theorem xwC_ag (a b : Nat) : ∀ m c {s t : Int32 × Int32}, AG s t → AG (xwC ok dd a b m c s) (xwC ok dd a b m c t)
  | 0, _, _, _, z => z
  | m + 1, c, _, _, z => xwC_ag a b m (c + 1) (ws_ag z a b c)
theorem xwB_ag (c0 cm a : Nat) : ∀ m b {s t : Int32 × Int32}, AG s t → AG (xwB ok dd c0 cm a m b s) (xwB ok dd c0 cm a m b t)
  | 0, _, _, _, z => z
  | m + 1, b, _, _, z => xwB_ag c0 cm a m (b + 1) (xwC_ag a b cm c0 z)
theorem xwA_ag (n c0 cm : Nat) : ∀ m a {s t : Int32 × Int32}, AG s t → AG (xwA ok dd n c0 cm m a s) (xwA ok dd n c0 cm m a t)
  | 0, _, _, _, z => z
  | m + 1, a, _, _, z => xwA_ag n c0 cm m (a + 1) (xwB_ag c0 cm a n 1 z)
theorem ws_ne {s : Int32 × Int32} {a b c : Nat} (ha : a ≤ 12) (hb : b ≤ 12) (hc : c ≤ 12) (z : s.1 ≠ -1 ∨ ok a b c = true) : (ws ok dd a b c s).1 ≠ -1 := by
  unfold ws
  by_cases o : ok a b c = true
  · rw [if_pos o]
    by_cases e : s.1 = -1 ∨ s.2 < dd a b c
    · rw [if_pos e]; exact cod_ne ha hb hc
    · rw [if_neg e]; exact fun y => e (Or.inl y)
  · rw [if_neg o]; exact z.elim id (fun y => absurd y o)
theorem xwC_ne {a b : Nat} (ha : a ≤ 12) (hb : b ≤ 12) : ∀ m c {s : Int32 × Int32}, c + m ≤ 13 → (s.1 ≠ -1 ∨ ∃ x, c ≤ x ∧ x < c + m ∧ ok a b x = true) → (xwC ok dd a b m c s).1 ≠ -1
  | 0, c, s, _, z => z.elim id (fun ⟨x, h1, h2, _⟩ => by omega)
  | m + 1, c, s, h, z => xwC_ne ha hb m (c + 1) (by omega) (by
    rcases z with z | ⟨x, h1, h2, h3⟩
    · exact Or.inl (ws_ne ha hb (by omega) (Or.inl z))
    · by_cases e : x = c
      · subst e; exact Or.inl (ws_ne ha hb (by omega) (Or.inr h3))
      · exact Or.inr ⟨x, by omega, by omega, h3⟩)
theorem xwB_ne {c0 cm a : Nat} (hc : c0 + cm ≤ 13) (ha : a ≤ 12) : ∀ m b {s : Int32 × Int32}, b + m ≤ 13 → (s.1 ≠ -1 ∨ ∃ y x, b ≤ y ∧ y < b + m ∧ c0 ≤ x ∧ x < c0 + cm ∧ ok a y x = true) → (xwB ok dd c0 cm a m b s).1 ≠ -1
  | 0, b, s, _, z => z.elim id (fun ⟨y, x, h1, h2, _⟩ => by omega)
  | m + 1, b, s, h, z => xwB_ne hc ha m (b + 1) (by omega) (by
    rcases z with z | ⟨y, x, h1, h2, h3, h4, h5⟩
    · exact Or.inl (xwC_ne ha (by omega) cm c0 hc (Or.inl z))
    · by_cases e : y = b
      · subst e; exact Or.inl (xwC_ne ha (by omega) cm c0 hc (Or.inr ⟨x, h3, h4, h5⟩))
      · exact Or.inr ⟨y, x, by omega, by omega, h3, h4, h5⟩)
theorem xwA_ne {n c0 cm : Nat} (hn : n ≤ 12) (hc : c0 + cm ≤ 13) : ∀ m a {s : Int32 × Int32}, a + m ≤ 13 → (s.1 ≠ -1 ∨ ∃ w y x, a ≤ w ∧ w < a + m ∧ 1 ≤ y ∧ y ≤ n ∧ c0 ≤ x ∧ x < c0 + cm ∧ ok w y x = true) → (xwA ok dd n c0 cm m a s).1 ≠ -1
  | 0, a, s, _, z => z.elim id (fun ⟨w, y, x, h1, h2, _⟩ => by omega)
  | m + 1, a, s, h, z => xwA_ne hn hc m (a + 1) (by omega) (by
    rcases z with z | ⟨w, y, x, h1, h2, h3, h4, h5, h6, h7⟩
    · exact Or.inl (xwB_ne hc (by omega) n 1 (by omega) (Or.inl z))
    · by_cases e : w = a
      · subst e; exact Or.inl (xwB_ne hc (by omega) n 1 (by omega) (Or.inr ⟨y, x, h3, by omega, h5, h6, h7⟩))
      · exact Or.inr ⟨w, y, x, by omega, by omega, h3, h4, h5, h6, h7⟩)
theorem cn_last {f : Nat → Bool} : ∀ n, 0 < cn f n → ∃ j, j < n ∧ f j = true ∧ cn f n = cn f j + 1
  | 0, h => by simp [cn] at h
  | n + 1, h => by
    cases c : f n with
    | true => exact ⟨n, by omega, c, by rw [cn, c]; simp⟩
    | false =>
      have e : cn f (n + 1) = cn f n := by rw [cn, c]; simp
      rw [e] at h ⊢
      obtain ⟨j, h1, h2, h3⟩ := cn_last n h
      exact ⟨j, by omega, h2, h3⟩
/-- a row of runners that stand -/
def okp (I : xN → Nat → Int32) (r a b c : Nat) : Prop := a ≠ b ∧ a ≠ c ∧ b ≠ c ∧ ¬ gnn I r a ∧ ¬ gnn I r b ∧ ¬ gnn I r c
noncomputable def okb (I : xN → Nat → Int32) (r a b c : Nat) : Bool := @decide (okp I r a b c) (Classical.propDecidable _)
theorem okb_t {I : xN → Nat → Int32} {r a b c : Nat} : okb I r a b c = true ↔ okp I r a b c := @decide_eq_true_iff _ (Classical.propDecidable _)
/-- there is a row where two run -/
theorem row_ex (i : Inv L xs nr nt h) {r n : Nat} (hr : r < nr) (en : (hI h (36, 0) r).toNatClampNeg = n) (h2 : 2 ≤ rnOf h r) : ∃ w y x, 1 ≤ w ∧ w ≤ n ∧ 1 ≤ y ∧ y ≤ n ∧ (rnOf h r = 2 → x = 0) ∧ (rnOf h r ≠ 2 → 1 ≤ x ∧ x ≤ n) ∧ okb (hI h) r w y x = true := by
  unfold rnOf at h2 ⊢
  rw [en] at h2 ⊢
  obtain ⟨j1, a1, a2, a3⟩ := cn_last (f := fun k => decide (hI h (38, 0) (13 * r + (k + 1)) = 0)) n (by omega)
  obtain ⟨j2, b1, b2, b3⟩ := cn_last (f := fun k => decide (hI h (38, 0) (13 * r + (k + 1)) = 0)) j1 (by omega)
  have std : ∀ j, decide (hI h (38, 0) (13 * r + (j + 1)) = 0) = true → ¬ gnn (hI h) r (j + 1) := fun j z y => y.2 (by simpa using z)
  by_cases e : cn (fun k => decide (hI h (38, 0) (13 * r + (k + 1)) = 0)) n = 2
  · exact ⟨j1 + 1, j2 + 1, 0, by omega, by omega, by omega, by omega, fun _ => rfl, fun z => absurd e z, okb_t.mpr ⟨by omega, by omega, by omega, std j1 a2, std j2 b2, fun z => z.1 rfl⟩⟩
  · obtain ⟨j3, d1, d2, d3⟩ := cn_last (f := fun k => decide (hI h (38, 0) (13 * r + (k + 1)) = 0)) j2 (by omega)
    exact ⟨j1 + 1, j2 + 1, j3 + 1, by omega, by omega, by omega, by omega, fun z => absurd z e, fun _ => ⟨by omega, by omega⟩, okb_t.mpr ⟨by omega, by omega, by omega, std j1 a2, std j2 b2, std j3 d2⟩⟩
theorem vck (i : Inv L xs nr nt h) {h' : xH} (s : Sm KW h h') : ∃ v, Inv L xs nr nt v ∧ SC v h' ∧ Sm KS2 h v := by
  have V : Sm KS2 h (sI h' (12, 0) 47 (hI h' (11, 0) 13)) := (s.mono (fun n j z => z.elim (fun z => Or.inl (ksk_x n j z)) (fun z => Or.inr (Or.inl z)))).si _ (Or.inr (Or.inr ⟨rfl, rfl⟩))
  refine ⟨sI h' (12, 0) 47 (hI h' (11, 0) 13), i.scr2 V (by simp [hI_sI]), ⟨fun n j _ h2 => ?_, rfl, rfl⟩, V⟩
  rw [hI_sI, if_neg (fun z => h2 (congrArg Prod.fst z.1))]
theorem gnn_eq {r k : Nat} (s : Sm KS2 h v) : gnn (hI v) r k ↔ gnn (hI h) r k := by
  unfold gnn
  rw [s.1 (38, 0) _ (by simp [KS2, KSc])]
theorem w_areRowC (i : Inv L xs nr nt h) {h' : xH} (s : Sm KW h h') {r a b c : Nat} (hr : r < nr) (ha : a ≤ (hI h (36, 0) r).toNatClampNeg) (hb : b ≤ (hI h (36, 0) r).toNatClampNeg) (hc : c ≤ (hI h (36, 0) r).toNatClampNeg) {Q : Int32 → xH → Prop} (no : ¬ okp (hI h) r a b c → Q 0 h') (yes : okp (hI h) r a b c → Q 1 h') : p_R_areRow (6, r) (nI a) (nI b) (nI c) h' Q := by
  obtain ⟨v, iv, sv, kv⟩ := vck i s
  have r12 := rn12 i hr
  have e36 : hI v (36, 0) r = hI h (36, 0) r := kv.1 _ _ (by simp [KS2, KSc])
  have eq : ∀ x y : Nat, x ≤ 12 → y ≤ 12 → (nI x = nI y ↔ x = y) := fun x y h1 h2 => nI_inj (by omega) (by omega)
  unfold p_R_areRow
  rw [eq a b (by omega) (by omega), eq a c (by omega) (by omega), eq b c (by omega) (by omega)]
  exact ⟨fun z => no (fun y => y.1 z), fun z1 => ⟨fun z => no (fun y => y.2.1 z), fun z2 => ⟨fun z => no (fun y => y.2.2.1 z), fun z3 => ⟨rfl, w_isOutC iv sv hr (by rw [e36]; exact ha) (fun ga => ⟨fun z => absurd rfl z, fun _ => w_isOutC iv sv hr (by rw [e36]; exact hb) (fun gb => ⟨fun z => absurd rfl z, fun _ => w_isOutC iv sv hr (by rw [e36]; exact hc) (fun gc => ⟨fun z => absurd rfl z, fun _ => yes ⟨z1, z2, z3, fun y => ga ((gnn_eq kv).mpr y), fun y => gb ((gnn_eq kv).mpr y), fun y => gc ((gnn_eq kv).mpr y)⟩⟩) (fun gc => ⟨fun _ => no (fun y => y.2.2.2.2.2 ((gnn_eq kv).mp gc)), fun z => absurd z (by decide)⟩)⟩) (fun gb => ⟨fun _ => no (fun y => y.2.2.2.2.1 ((gnn_eq kv).mp gb)), fun z => absurd z (by decide)⟩)⟩) (fun ga => ⟨fun _ => no (fun y => y.2.2.2.1 ((gnn_eq kv).mp ga)), fun z => absurd z (by decide)⟩)⟩⟩⟩⟩
end Worst
