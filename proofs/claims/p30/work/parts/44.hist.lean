/-! PURE: the history of both -/
def stAt (f : FourV) (j : Nat) : StV := match j with
  | 0 => f.1
  | 1 => f.2.1
  | 2 => f.2.2.1
  | _ => f.2.2.2
def setSt (f : FourV) (j : Nat) (u : StV) : FourV := match j with
  | 0 => (u, f.2.1, f.2.2.1, f.2.2.2)
  | 1 => (f.1, u, f.2.2.1, f.2.2.2)
  | 2 => (f.1, f.2.1, u, f.2.2.2)
  | _ => (f.1, f.2.1, f.2.2.1, u)
theorem stAt_set (f : FourV) (u : StV) : ∀ j, j < 4 → ∀ i, i < 4 → stAt (setSt f j u) i = if i = j then u else stAt f i := by
  intro j hj i hi
  match j, hj, i, hi with
  | 0, _, 0, _ => rfl
  | 0, _, 1, _ => rfl
  | 0, _, 2, _ => rfl
  | 0, _, 3, _ => rfl
  | 1, _, 0, _ => rfl
  | 1, _, 1, _ => rfl
  | 1, _, 2, _ => rfl
  | 1, _, 3, _ => rfl
  | 2, _, 0, _ => rfl
  | 2, _, 1, _ => rfl
  | 2, _, 2, _ => rfl
  | 2, _, 3, _ => rfl
  | 3, _, 0, _ => rfl
  | 3, _, 1, _ => rfl
  | 3, _, 2, _ => rfl
  | 3, _, 3, _ => rfl
def rHist (h : HistV) (hs : Nat → SS2) (k : Nat) : Prop := k ≤ 4 ∧ h.2.2 = nI k ∧ ∃ o, o < 4 ∧ h.2.1 = nI o ∧ ∀ i, i < k → rSt (stAt h.1 ((o + i) % 4)) (hs i)
def pushH (hs : Nat → SS2) (k : Nat) (σ : SS2) : Nat → SS2 := fun i => if k = 4 then (if i = 3 then σ else hs (i + 1)) else (if i = k then σ else hs i)
def pushK (k : Nat) : Nat := if k = 4 then 4 else k + 1
theorem q_mod4 (a : Nat) (ha : a < 2 ^ 31) : nI a - nI a / (4 : Int32) * (4 : Int32) = nI (a % 4) := pk_rem ha (by decide) (by decide)
theorem x4_pos : ∀ a : Nat, a < 8 → 0 ≤ (nI a ^^^ (4 : Int32)) := by decide +kernel
theorem c4_of {m : Nat} (hm : m < 4) : nI m = (0 : Int32) ∨ nI m = (1 : Int32) ∨ nI m = (2 : Int32) ∨ nI m = (3 : Int32) := by
  rw [l0, l1, l2, l3, q_eq (by omega) (by decide), q_eq (by omega) (by decide), q_eq (by omega) (by decide), q_eq (by omega) (by decide)]
  omega
theorem s_slot {h : HistV} {o k : Nat} {Q : Int32 → Prop} (ho : o < 4) (hk : k ≤ 4) (hold : h.2.1 = nI o) (hQ : Q (nI ((o + k) % 4))) : wp_X2_slotBehind h (nI k) Q := by
  unfold wp_X2_slotBehind
  rw [hold, nI_add]
  refine ⟨by decide, ?_⟩
  rintro _ rfl
  rw [q_mod4 _ (by omega)]
  have tail : ∀ z3 : Int32, z3 = nI ((o + k) % 4) → ((z3 = (0 : Int32) ∨ z3 = (1 : Int32) ∨ z3 = (2 : Int32) ∨ z3 = (3 : Int32)) ∧ (z3 = (0 : Int32) → Q (0 : Int32)) ∧ (z3 = (1 : Int32) → Q (1 : Int32)) ∧ (z3 = (2 : Int32) → Q (2 : Int32)) ∧ (z3 = (3 : Int32) → Q (3 : Int32))) := by
    rintro _ rfl
    exact ⟨c4_of (Nat.mod_lt _ (by decide)), fun z => z ▸ hQ, fun z => z ▸ hQ, fun z => z ▸ hQ, fun z => z ▸ hQ⟩
  exact ⟨fun _ => tail, fun z => absurd (x4_pos (o + k) (by omega)) z⟩
theorem s_record {h : HistV} {s : StV} {σ : SS2} {hs : Nat → SS2} {k : Nat} {Q : HistV → Prop} (R : rSt s σ) (H : rHist h hs k) (hQ : ∀ u, rHist u (pushH hs k σ) (pushK k) → Q u) : wp_X2_record h s Q := by
  obtain ⟨hk, hsz, o, ho, hold, hst⟩ := H
  have after : ∀ j u, j = (o + k) % 4 → rSt u σ → (((4 : Int32) ≤ h.2.2) → ∀ z7 : Int32, z7 = (h.2.1 + (1 : Int32)) - (h.2.1 + (1 : Int32)) / (4 : Int32) * (4 : Int32) → Q (setSt h.1 j u, z7, h.2.2)) ∧ ((¬ (4 : Int32) ≤ h.2.2) → ∀ z8 : Int32, z8 = h.2.2 + (1 : Int32) → Q (setSt h.1 j u, h.2.1, z8)) := by
    intro j u hj hu
    rw [hsz, hold, nI_s, q_mod4 _ (by omega), l4, q_le (by omega) (by omega)]
    refine ⟨fun z => ?_, fun z => ?_⟩
    · rintro _ rfl
      have hk4 : k = 4 := by omega
      subst hk4
      refine hQ _ ⟨by decide, rfl, (o + 1) % 4, by omega, rfl, fun i hi => ?_⟩
      have hi4 : i < 4 := hi
      show rSt (stAt (setSt h.1 j u) (((o + 1) % 4 + i) % 4)) (if (4 : Nat) = 4 then (if i = 3 then σ else hs (i + 1)) else _)
      rw [if_pos rfl, stAt_set h.1 u j (by omega) _ (by omega)]
      by_cases hi3 : i = 3
      · rw [if_pos hi3, if_pos (by omega)]
        exact hu
      · rw [if_neg hi3, if_neg (by omega)]
        have := hst (i + 1) (by omega)
        rwa [show ((o + 1) % 4 + i) % 4 = (o + (i + 1)) % 4 by omega]
    · rintro _ rfl
      rw [nI_s]
      have hk4 : ¬ k = 4 := by omega
      have e : pushK k = k + 1 := if_neg hk4
      rw [e] at hQ
      refine hQ _ ⟨by omega, rfl, o, ho, rfl, fun i hi => ?_⟩
      show rSt (stAt (setSt h.1 j u) ((o + i) % 4)) (if k = 4 then _ else (if i = k then σ else hs i))
      rw [if_neg hk4, stAt_set h.1 u j (by omega) _ (by omega)]
      by_cases hik : i = k
      · rw [if_pos hik, if_pos (by omega)]
        exact hu
      · rw [if_neg hik, if_neg (by omega)]
        exact hst i (by omega)
  unfold wp_X2_record
  have hm : (o + k) % 4 < 4 := Nat.mod_lt _ (by decide)
  rw [hsz, hold] at after
  rw [hsz]
  refine s_slot ho hk hold ?_
  rw [hold]
  have hc := c4_of hm
  refine ⟨hc, fun z => s_copyS R (fun u hu => ?_), fun z => s_copyS R (fun u hu => ?_), fun z => s_copyS R (fun u hu => ?_), fun z => s_copyS R (fun u hu => ?_)⟩
  · rw [l0, q_eq (by omega) (by decide)] at z
    exact after 0 u z.symm hu
  · rw [l1, q_eq (by omega) (by decide)] at z
    exact after 1 u z.symm hu
  · rw [l2, q_eq (by omega) (by decide)] at z
    exact after 2 u z.symm hu
  · rw [l3, q_eq (by omega) (by decide)] at z
    exact after 3 u z.symm hu
theorem s_takeBack {h : HistV} {s : StV} {hs : Nat → SS2} {k : Nat} {Q : HistV × StV → Prop} (H : rHist h hs (k + 1)) (hQ : ∀ h' u, rHist h' hs k → rSt u (hs k) → Q (h', u)) : wp_X2_takeBack h s Q := by
  obtain ⟨hk, hsz, o, ho, hold, hst⟩ := H
  unfold wp_X2_takeBack
  rw [hsz, hold]
  refine ⟨fun z => absurd z (nI_nle (by omega) (by omega)), fun _ => ?_⟩
  rintro _ rfl
  rw [nI_pred]
  have hm : (o + k) % 4 < 4 := Nat.mod_lt _ (by decide)
  have hc := c4_of hm
  refine s_slot (h := (h.1, nI o, nI k)) ho (by omega) rfl ?_
  have h0 := hst k (by omega)
  have fin : ∀ u, rSt u (hs k) → Q ((h.1, nI o, nI k), u) := fun u hu => hQ _ u ⟨by omega, rfl, o, ho, rfl, fun i hi => hst i (by omega)⟩ hu
  refine ⟨hc, fun z => ?_, fun z => ?_, fun z => ?_, fun z => ?_⟩
  · rw [l0, q_eq (by omega) (by decide)] at z
    rw [z] at h0
    exact s_copyS h0 fin
  · rw [l1, q_eq (by omega) (by decide)] at z
    rw [z] at h0
    exact s_copyS h0 fin
  · rw [l2, q_eq (by omega) (by decide)] at z
    rw [z] at h0
    exact s_copyS h0 fin
  · rw [l3, q_eq (by omega) (by decide)] at z
    rw [z] at h0
    exact s_copyS h0 fin
