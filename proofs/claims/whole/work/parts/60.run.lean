/-! PURE: texts of deeds: read, run -/
def lp (cs : Nat → Nat) (p : Nat) : Nat := if cs p = 103 then p + 2 else p
def pl (cs : Nat → Nat) : Nat → Nat
  | 0 => 0
  | k + 1 => lp cs (pl cs k) + 3
def GD (cs : Nat → Nat) (m p : Nat) : Prop := lp cs p + 2 ≤ m ∧ (cs p = 103 → 48 ≤ cs (p + 1) ∧ cs (p + 1) ≤ 50) ∧ (cs (lp cs p) = 111 ∨ cs (lp cs p) = 99 ∨ (cs p = 103 ∧ cs (lp cs p) = 119)) ∧ 48 ≤ cs (lp cs p + 1) ∧ cs (lp cs p + 1) ≤ 57
def DT (cs : Nat → Nat) (t : Nat → Int32) (k p : Nat) : Prop := t (4 * k) = nI p ∧ t (4 * k + 1) = nI (cs (lp cs p)) ∧ t (4 * k + 2) = (if cs p = 103 then nI (cs (p + 1) - 48) else -4) ∧ t (4 * k + 3) = nI (cs (lp cs p + 1) - 48)
theorem lp_ge (cs : Nat → Nat) (p : Nat) : p ≤ lp cs p := by unfold lp; split <;> omega
theorem pl_ge (cs : Nat → Nat) : ∀ k, 3 * k ≤ pl cs k
  | 0 => Nat.zero_le _
  | k + 1 => by
    have := pl_ge cs k
    have := lp_ge cs (pl cs k)
    show 3 * (k + 1) ≤ lp cs (pl cs k) + 3
    omega
theorem l4m (k : Nat) : (4 : Int32) * nI k = nI (4 * k) := by rw [l4, q_mul]
theorem nI_a2 (a : Nat) : nI a + (2 : Int32) = nI (a + 2) := nI_add a 2
section PadZ2
variable {w : ModV} {cs : Nat → Nat} {m : Nat}
theorem z_readDeed {p k : Nat} {t : Nat → Int32} {Q : Int32 → ModV → Prop} (R : zPd w cs m) (hp : p ≤ m) (hk : k ≤ 20) (hF : ∀ f t' n', af cs (m - p) 0 p = some f → Q 0 (setR w (nI f) t' n')) (hS : ∀ t', GD cs m p → af cs (m - p) 0 p = af cs (m - (lp cs p + 2)) 4 (lp cs p + 2) → DT cs t' k p → (∀ i, i < 4 * k → t' i = t i) → Q 1 (setR w (nI (lp cs p + 2)) t' (nI (k + 1)))) : wp_X9_readDeed (setR w (nI p) t (nI k)) Q := by
  have hm := R.2.1
  rintro _ rfl
  show vp_in ((4 : Int32) * nI k) 124 ∧ ∀ g3 : Nat → Int32, g3 = upd t ((4 : Int32) * nI k).toNatClampNeg (nI p) → vp_in ((4 : Int32) * nI k + 2) 124 ∧ ∀ g5 : Nat → Int32, g5 = upd g3 ((4 : Int32) * nI k + 2).toNatClampNeg (-4) → wp_X9_takes (setR w (nI p) g5 (nI k)) (nI 103) _
  rw [show (setR w (nI p) t (nI k)).2.2.2.2.2.2.2.2.2.2.2.2.2.1 = nI k from rfl, l4m, nI_a2, q_in (by omega), q_in (by omega), nI_clamp (by omega), nI_clamp (by omega)]
  refine ⟨by omega, ?_⟩
  rintro _ rfl
  refine ⟨by omega, ?_⟩
  rintro _ rfl
  refine z_takes (w := w) 103 R hp (by decide) (fun hb => ?_) (fun hb => ?_)
  · obtain ⟨b1, b2, b3⟩ := sz_1 hb
    have h103 : cs p = 103 := by omega
    have elp : lp cs p = p + 2 := if_pos h103
    have ea := af_go (cs := cs) (m := m) (e := 0) 1 b1 (by unfold nx; simp [h103]) (by decide)
    refine ⟨fun z => absurd z one0, fun _ => z_takesOne (w := w) 48 50 R (by omega) (by decide) (by decide) (fun hc => ?_) (fun hc => ?_)⟩
    · obtain ⟨c1, c2, c3⟩ := sz_1 hc
      have ea2 := af_go (cs := cs) (m := m) (e := 1) 2 c1 (by unfold nx; simp [c2, c3]) (by decide)
      have hh : ∀ c, c < 127 → ¬ nI c = (-4 : Int32) := by decide
      refine ⟨fun _ => ⟨by omega, ?_⟩, fun z => absurd z (hh _ (by omega))⟩
      rintro _ rfl
      rw [sub48 c2]
      refine z_B67 (w := w) (gb := true) R (by omega) hk (fun z => absurd z (by decide)) (fun f t' n' h => hF f t' n' (ea.trans (ea2.trans h))) (fun t' a1 a2 a3 a4 a5 a6 => ?_)
      rw [elp] at hS
      refine hS t' ⟨by omega, fun _ => ⟨c2, c3⟩, ?_, ?_, ?_⟩ (ea.trans (ea2.trans a5)) ⟨?_, ?_, ?_, ?_⟩ (fun i hi => ?_)
      · rw [elp]
        rcases a2 with h | h | h
        · exact Or.inl h
        · exact Or.inr (Or.inl h)
        · exact Or.inr (Or.inr ⟨h103, h.2⟩)
      · rw [elp]; exact a3
      · rw [elp]; exact a4
      · rw [a6, updO (by omega), updO (by omega)]
        show upd (upd (upd t (4 * k) (nI p)) (4 * k + 2) (-4)) (4 * k + 2) _ (4 * k) = nI p
        rw [updO (by omega), updO (by omega), updS]
      · rw [elp, a6, updO (by omega), updS]
      · rw [if_pos h103, a6, updO (by omega), updO (by omega)]
        exact updS
      · rw [elp, a6, updS]
      · rw [a6, updO (by omega), updO (by omega)]
        show upd (upd (upd t (4 * k) (nI p)) (4 * k + 2) (-4)) (4 * k + 2) _ i = t i
        rw [updO (by omega), updO (by omega), updO (by omega)]
    · refine ⟨fun z => absurd rfl z, fun _ => hF (p + 1) _ _ (ea.trans ?_)⟩
      by_cases h1 : p + 1 < m
      · refine af_stop h1 ?_
        unfold nx
        simp [sz_0 hc h1]
      · exact af_end (by omega) (by decide)
  · refine ⟨fun _ => ?_, fun z => absurd rfl z⟩
    refine z_B67 (w := w) (gb := false) R hp hk (fun _ hpm => ?_) (fun f t' n' h => hF f t' n' h) (fun t' a1 a2 a3 a4 a5 a6 => ?_)
    · have := sz_0 hb hpm
      omega
    · have h103 : ¬ cs p = 103 := by have := sz_0 hb (by omega); omega
      have elp : lp cs p = p := if_neg h103
      rw [elp] at hS
      refine hS t' ⟨by omega, fun z => absurd z h103, ?_, ?_, ?_⟩ a5 ⟨?_, ?_, ?_, ?_⟩ (fun i hi => ?_)
      · rw [elp]
        rcases a2 with h | h | h
        · exact Or.inl h
        · exact Or.inr (Or.inl h)
        · exact absurd h.1 (by decide)
      · rw [elp]; exact a3
      · rw [elp]; exact a4
      · rw [a6, updO (by omega), updO (by omega), updO (by omega), updS]
      · rw [elp, a6, updO (by omega), updS]
      · rw [if_neg h103, a6, updO (by omega), updO (by omega), updS]
      · rw [elp, a6, updS]
      · rw [a6, updO (by omega), updO (by omega), updO (by omega), updO (by omega)]
def AllD (cs : Nat → Nat) (m : Nat) (t : Nat → Int32) (K : Nat) : Prop := ∀ j, j < K → GD cs m (pl cs j) ∧ DT cs t j (pl cs j)
theorem z_pad0 {s n : Int32} {t : Nat → Int32} {Q : Int32 → ModV → Prop} (h : Q 0 (setR w s t n)) (k : Nat) : wp_X9_readPad_L15 Q (k + 1) 0 (setR w s t n) :=
  ⟨fun _ => ⟨rfl, h⟩, fun z => absurd rfl z⟩
theorem z_L15 {Q : Int32 → ModV → Prop} (R : zPd w cs m) (hF : ∀ f t' n', af cs (m - 0) 0 0 = some f → Q 0 (setR w (nI f) t' n')) (hS : ∀ s t' K, af cs (m - 0) 0 0 = none → K ≤ 21 → AllD cs m t' K → m < pl cs K → pl cs K ≤ 61 → Q 1 (setR w s t' (nI K))) : ∀ j k t, m ≤ lp cs (pl cs k) + 2 + j → AllD cs m t (k + 1) → af cs (m - 0) 0 0 = af cs (m - (lp cs (pl cs k) + 2)) 4 (lp cs (pl cs k) + 2) → wp_X9_readPad_L15 Q (j + 2) 1 (setR w (nI (lp cs (pl cs k) + 2)) t (nI (k + 1))) := by
  have hm := R.2.1
  intro j
  induction j with
  | zero =>
    intro k t hj hA hE
    have hG := (hA k (by omega)).1.1
    have e : lp cs (pl cs k) + 2 = m := by omega
    have h3 := pl_ge cs k
    have h4 := lp_ge cs (pl cs k)
    refine ⟨fun z => absurd z one0, fun _ => ?_⟩
    show ((w.2.2.2.2.2.2.2.1 ≤ nI (lp cs (pl cs k) + 2)) → _) ∧ (¬ (w.2.2.2.2.2.2.2.1 ≤ nI (lp cs (pl cs k) + 2)) → _)
    rw [R.1, e]
    refine ⟨fun _ => ⟨rfl, hS _ t (k + 1) ?_ (by omega) hA ?_ ?_⟩, fun z => absurd (ge_self _) z⟩
    · rw [hE, e, Nat.sub_self]; rfl
    · show m < lp cs (pl cs k) + 3; omega
    · show lp cs (pl cs k) + 3 ≤ 61; omega
  | succ j ih =>
    intro k t hj hA hE
    have hG := (hA k (by omega)).1.1
    have h3 := pl_ge cs k
    have h4 := lp_ge cs (pl cs k)
    refine ⟨fun z => absurd z one0, fun _ => ?_⟩
    show ((w.2.2.2.2.2.2.2.1 ≤ nI (lp cs (pl cs k) + 2)) → _) ∧ (¬ (w.2.2.2.2.2.2.2.1 ≤ nI (lp cs (pl cs k) + 2)) → _)
    rw [R.1, q_le (by omega) (by omega)]
    refine ⟨fun z => ⟨rfl, hS _ t (k + 1) ?_ (by omega) hA ?_ ?_⟩, fun z => z_takes (w := w) 59 R (by omega) (by decide) (fun hb => ?_) (fun hb => ?_)⟩
    · rw [hE, show m - (lp cs (pl cs k) + 2) = 0 by omega]; rfl
    · show m < lp cs (pl cs k) + 3; omega
    · show lp cs (pl cs k) + 3 ≤ 61; omega
    · obtain ⟨b1, b2, b3⟩ := sz_1 hb
      have e59 : cs (lp cs (pl cs k) + 2) = 59 := by omega
      have ea := af_go (cs := cs) (m := m) (e := 4) 0 b1 (by unfold nx; simp [e59]) (by decide)
      have epl : lp cs (pl cs k) + 2 + 1 = pl cs (k + 1) := rfl
      rw [epl] at ea ⊢
      refine ⟨fun z => absurd z one0, fun _ => z_readDeed (w := w) R (by omega) (by omega) (fun f t' n' h => ?_) (fun t' a1 a2 a3 a4 => ?_)⟩
      · exact ⟨fun _ => z_pad0 (w := w) (hF f t' n' (hE.trans (ea.trans h))) _, fun z => absurd rfl z⟩
      · refine ⟨fun z => absurd z one0, fun _ => ih (k + 1) t' ?_ (fun i hi => ?_) (hE.trans (ea.trans a2))⟩
        · have := lp_ge cs (pl cs (k + 1))
          omega
        · by_cases hik : i = k + 1
          · subst hik; exact ⟨a1, a3⟩
          · obtain ⟨g1, d1, d2, d3, d4⟩ := hA i (by omega)
            refine ⟨g1, ?_, ?_, ?_, ?_⟩
            · rw [a4 _ (by omega)]; exact d1
            · rw [a4 _ (by omega)]; exact d2
            · rw [a4 _ (by omega)]; exact d3
            · rw [a4 _ (by omega)]; exact d4
    · refine ⟨fun _ => z_pad0 (w := w) (hF _ _ _ (hE.trans (af_stop (by omega) ?_))) _, fun z => absurd rfl z⟩
      have := sz_0 hb (by omega)
      have h59 : ¬ cs (lp cs (pl cs k) + 2) = 59 := by omega
      unfold nx; simp [h59]
theorem z_readPad {Q : Int32 → ModV → Prop} (R : zPd w cs m) (hF : ∀ f t' n', af cs m 0 0 = some f → Q 0 (setR w (nI f) t' n')) (hS : ∀ s t' K, af cs m 0 0 = none → K ≤ 21 → AllD cs m t' K → m < pl cs K → pl cs K ≤ 61 → Q 1 (setR w s t' (nI K))) : wp_X9_readPad w Q := by
  refine z_readDeed (w := w) (p := 0) (k := 0) R (Nat.zero_le _) (by decide) (fun f t' n' h => ⟨1, z_pad0 (w := w) (hF f t' n' h) 0⟩) (fun t' a1 a2 a3 a4 => ?_)
  refine ⟨60 + 2, z_L15 R hF hS 60 0 t' (by have := R.2.1; omega) (fun i hi => ?_) a2⟩
  have hi0 : i = 0 := by omega
  subst hi0
  exact ⟨a1, a3⟩
end PadZ2
theorem pad_two {p : PadV} {q : Nat → Int32} {n : Int32} (h : rPd p q n) : ∃ (m : Nat) (cs : Nat → Nat), rPad p cs m ∧ n = nI m ∧ ∀ i, i < m → q i = nI (cs i) ∧ cs i < 127 := by
  obtain ⟨m, cs, h1, h2, h3, h4⟩ := h
  exact ⟨m, cs, ⟨h1, h3, fun i hi => ⟨(h4 i hi).1, (h4 i hi).2.2⟩⟩, h2, fun i hi => (h4 i hi).2⟩
theorem p_fault {v : CDV} {w : ModV} {Q : Int32 → Prop} (hR : RR v w) (hQ : ∀ r, (∀ K : Int32 → ModV → Prop, (∀ w', RR v w' → K r w') → wp_X9_fault w K) → Q r) : wp_X8_fault v Q := by
  obtain ⟨σ, R, Z, hhp, hkp, hpd, hsp⟩ := id hR
  obtain ⟨m, cs, RP, e1, e2⟩ := pad_two hpd
  have W : zPd w cs m := ⟨e1, RP.2.1, e2⟩
  refine s_fault RP (hQ _ (fun K hK => z_readPad W (fun f t' n' h => ?_) (fun s t' n h _ _ _ _ => ?_)))
  · rw [h] at hK
    exact ⟨fun _ => hK _ ⟨σ, R, Z, hhp, hkp, hpd, hsp⟩, fun z => absurd rfl z⟩
  · rw [h] at hK
    exact ⟨fun z => absurd z one0, fun _ => hK _ ⟨σ, R, Z, hhp, hkp, hpd, hsp⟩⟩
