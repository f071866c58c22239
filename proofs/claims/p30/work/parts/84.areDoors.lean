/-! PURE: the law's look at doors -/
theorem cdv_f : ∀ c, c < 11 → (cdv c < 0 ↔ c = 10) ∧ ¬ (10 : Int32) ≤ cdv c ∧ (0 ≤ cdv c ↔ c ≠ 10) ∧ (cdv c = -4 ↔ c = 10) := by decide +kernel
theorem cdv_inj : ∀ a, a < 11 → ∀ b, b < 11 → cdv a = cdv b → a = b := by decide +kernel
theorem open_free {σ : SS2} {i c : Nat} (hok : okS σ) (hi : i < 10) (hop : σ.2.1.testBit i = true) (hc : σ.1.1 i = c ∨ σ.1.2.1 i = c) (hc10 : c < 10) : σ.2.1.testBit c = false := by
  refine (indep_iff _ _).mp hok.2.2.1 i c hi hop ?_
  rw [tg_bit, Bool.and_eq_true, Bool.or_eq_true, beq_iff_eq, beq_iff_eq, decide_eq_true_eq]
  exact ⟨hc, hc10⟩
theorem held_shut {σ : SS2} {i : Nat} (hok : okS σ) (hop : σ.2.1.testBit i = true) : (held σ.1 σ.2.1).testBit i = false := by
  have h : (held σ.1 σ.2.1 &&& σ.2.1).testBit i = false := by rw [hok.2.2.1, Nat.zero_testBit]
  rw [Nat.testBit_and, hop, Bool.and_true] at h
  exact h
def obA (σ : SS2) (i : Nat) : Int32 := if σ.2.1.testBit i then 1 else 0
theorem doorA0 (σ : SS2) (i : Nat) : doorA σ i 0 = obA σ i := rfl
theorem ob_t {σ : SS2} {i : Nat} (h : σ.2.1.testBit i = true) : obA σ i = 1 := by unfold obA; rw [h]; rfl
theorem ob_f {σ : SS2} {i : Nat} (h : σ.2.1.testBit i = false) : obA σ i = 0 := by unfold obA; rw [h]; rfl
theorem ctF_mono (L : LoS) (t n : Nat) (k : Nat) (hk : k ≤ 10) : ctF L t n k ≤ ctF L t 1023 k := by
  rw [ctF_sum, ctF_sum]
  refine sumN_le k (fun i hi => ?_)
  rw [b1023 (by omega), Bool.true_and]
  unfold bN
  cases n.testBit i <;> cases (tg L i).testBit t <;> decide
section AreD
variable {v : CDV} {σ : SS2} {i : Nat} {Q : Int32 → Prop} {K : Int32 → Int32 → Int32 → Int32 → Int32 → Int32 → Int32 → Int32 → Int32 → Prop} {x1 x2 x3 x4 x5 x6 x7 x8 : Int32}
theorem ad489 (R : rSt v.1 σ) (hi : i < 10) (hop : σ.2.1.testBit i = true) (hK : K x2 x3 x4 x5 x6 x7 x8 1 (nI (i + 1))) : wp_L_areDoors_B489 v x1 x2 x3 x4 x5 x6 x7 x8 (nI i) (cdv (σ.1.2.1 i)) Q K := by
  have hcd := R.1.1.1 i hi
  obtain ⟨a1, a2, a3, a4⟩ := cdv_f (σ.1.2.1 i) (by omega)
  refine ⟨fun _ => ?_, fun z => ?_⟩
  · rintro _ rfl
    rw [nI_s]
    exact hK
  · have h10 : σ.1.2.1 i ≠ 10 := fun h => z (a1.mpr h)
    rw [show cdv (σ.1.2.1 i) = nI (σ.1.2.1 i) from if_neg h10]
    refine t_door (w := 0) R (by omega) (by decide) ?_
    rw [doorA0, ob_f (open_free R.1 hi hop (Or.inr rfl) (by omega))]
    refine ⟨fun z => absurd rfl z, fun _ => ?_⟩
    rintro _ rfl
    rw [nI_s]
    exact hK
theorem ad466 {t : Int32} (R : rSt v.1 σ) (hi : i < 10) (hK : K x2 x3 x4 x5 x6 x7 x8 1 (nI (i + 1))) : wp_L_areDoors_B466 v x1 x2 x3 x4 x5 x6 x7 x8 (nI i) (obA σ i) (cdv (σ.1.1 i)) (cdv (σ.1.2.1 i)) t t Q K := by
  have hcd := R.1.1.1 i hi
  obtain ⟨a1, a2, a3, a4⟩ := cdv_f (σ.1.1 i) (by omega)
  refine ⟨fun z => absurd rfl z, fun _ => ⟨fun _ => ?_, fun z => ?_⟩⟩
  · rintro _ rfl
    rw [nI_s]
    exact hK
  · have hop : σ.2.1.testBit i = true := by
      cases h : σ.2.1.testBit i with
      | true => rfl
      | false => exact absurd (ob_f h) z
    refine ⟨fun _ => ad489 R hi hop hK, fun y => ?_⟩
    have h10 : σ.1.1 i ≠ 10 := fun h => y (a1.mpr h)
    rw [show cdv (σ.1.1 i) = nI (σ.1.1 i) from if_neg h10]
    refine t_door (w := 0) R (by omega) (by decide) ?_
    rw [doorA0, ob_f (open_free R.1 hi hop (Or.inl rfl) (by omega))]
    exact ⟨fun z => absurd rfl z, fun _ => ad489 R hi hop hK⟩
theorem ad431 {n : Nat} (R : rSt v.1 σ) (G : GI σ n) (hi : i < 10) (hK : K x2 x3 x4 x5 x6 x7 x8 1 (nI (i + 1))) : wp_L_areDoors_B431 v x1 x2 x3 x4 x5 x6 x7 x8 (nI i) (obA σ i) (cdv (σ.1.1 i)) (cdv (σ.1.2.1 i)) (doorA σ i 8) (doorA σ i 9) (obA σ i) Q K := by
  have h1 : doorA σ i 8 = doorA σ i 9 + obA σ i := G.1 i hi
  refine ⟨fun z => absurd h1 z, fun _ => t_whyNot R hi ?_⟩
  cases hb : σ.2.1.testBit i
  · rw [ob_f hb]
    refine ⟨fun _ => t_door (w := 5) R hi (by decide) ?_, fun z => absurd rfl z⟩
    have e5 : doorA σ i 5 = if (held σ.1 σ.2.1).testBit i then 1 else 0 := rfl
    have er : rsn σ.1 σ.2.1 i = if (held σ.1 σ.2.1).testBit i then 2 else 0 := by unfold rsn; rw [hb]; rfl
    rw [e5, er]
    cases (held σ.1 σ.2.1).testBit i
    · refine ⟨fun _ => ?_, fun z => absurd z (by decide)⟩
      have := ad466 (t := 0) (x1 := x1) (Q := Q) R hi hK
      rw [ob_f hb] at this
      exact this
    · refine ⟨fun z => absurd rfl z, fun _ => ?_⟩
      have := ad466 (t := 2) (x1 := x1) (Q := Q) R hi hK
      rw [ob_f hb] at this
      exact this
  · rw [ob_t hb]
    have er : rsn σ.1 σ.2.1 i = 1 := by unfold rsn; rw [hb]; rfl
    rw [er]
    refine ⟨fun z => absurd z (by decide), fun _ => ?_⟩
    have := ad466 (t := 1) (x1 := x1) (Q := Q) R hi hK
    rw [ob_t hb] at this
    exact this
theorem ad386 {n : Nat} (R : rSt v.1 σ) (G : GI σ n) (hi : i < 10) (hK : K x2 x3 x4 x5 x6 x7 x8 1 (nI (i + 1))) : wp_L_areDoors_B386 v x1 x2 x3 x4 x5 x6 x7 x8 (nI i) (obA σ i) (cdv (σ.1.1 i)) (cdv (σ.1.2.1 i)) Q K := by
  have h1 := ctF_mono σ.1 i σ.2.1 10 (by decide)
  have h2 := ctF_le σ.1 i 1023 10
  refine t_door (w := 7) R hi (by decide) (t_door (w := 6) R hi (by decide) ⟨fun z => ?_, fun _ => t_door (w := 8) R hi (by decide) (t_door (w := 9) R hi (by decide) ?_)⟩)
  · have z : nI (ctF σ.1 i 1023 10) < nI (ctF σ.1 i σ.2.1 10) := z
    rw [q_lt (by omega) (by omega)] at z
    omega
  · have h := ad431 (x1 := x1) (Q := Q) R G hi hK
    cases hb : σ.2.1.testBit i
    · rw [ob_f hb] at h ⊢
      exact ⟨fun _ => h, fun z => absurd rfl z⟩
    · rw [ob_t hb] at h ⊢
      exact ⟨fun z => absurd z (by decide), fun _ => h⟩
theorem ad368 {n : Nat} {t : Int32} (R : rSt v.1 σ) (G : GI σ n) (hi : i < 10) (hK : K x2 x3 x4 x5 x6 x7 x8 1 (nI (i + 1))) : wp_L_areDoors_B368 v x1 x2 x3 x4 x5 x6 x7 x8 (nI i) (obA σ i) (cdv (σ.1.1 i)) (cdv (σ.1.2.1 i)) t t Q K := by
  refine ⟨fun z => absurd rfl z, fun _ => t_door (w := 5) R hi (by decide) ⟨fun _ => ad386 R G hi hK, fun y => ⟨fun z => ?_, fun _ => ad386 R G hi hK⟩⟩⟩
  have hop : σ.2.1.testBit i = true := by
    cases h : σ.2.1.testBit i with
    | true => rfl
    | false => exact absurd (ob_f h) z
  have e5 : doorA σ i 5 = 0 := by
    show (if (held σ.1 σ.2.1).testBit i then (1 : Int32) else 0) = 0
    rw [held_shut R.1 hop]; rfl
  exact absurd e5 y
theorem ad345 {n : Nat} (R : rSt v.1 σ) (G : GI σ n) (hi : i < 10) (hK : K x2 x3 x4 x5 x6 x7 x8 1 (nI (i + 1))) : wp_L_areDoors_B345 v x1 x2 x3 x4 x5 x6 x7 x8 (nI i) (obA σ i) (cdv (σ.1.1 i)) (cdv (σ.1.2.1 i)) Q K := by
  have h1 := ctF_le σ.1 i σ.2.1 10
  have h2 := ctF_0 σ.1 i σ.2.1 10
  refine t_door (w := 5) R hi (by decide) (t_door (w := 7) R hi (by decide) ⟨fun z => ?_, fun z => ?_⟩)
  · have z : nI (ctF σ.1 i σ.2.1 10) ≤ nI 0 := z
    rw [q_le (by omega) (by omega)] at z
    have h3 : (held σ.1 σ.2.1).testBit i = false := h2.mp (by omega)
    have e5 : doorA σ i 5 = 0 := by
      show (if (held σ.1 σ.2.1).testBit i then (1 : Int32) else 0) = 0
      rw [h3]; rfl
    rw [e5]
    exact ad368 R G hi hK
  · have z : ¬ nI (ctF σ.1 i σ.2.1 10) ≤ nI 0 := z
    rw [q_le (by omega) (by omega)] at z
    have h3 : (held σ.1 σ.2.1).testBit i = true := by
      cases y : (held σ.1 σ.2.1).testBit i with
      | true => rfl
      | false => exact absurd (h2.mpr y) (by omega)
    have e5 : doorA σ i 5 = 1 := by
      show (if (held σ.1 σ.2.1).testBit i then (1 : Int32) else 0) = 1
      rw [h3]; rfl
    rw [e5]
    exact ad368 R G hi hK
theorem ad333 {n : Nat} (R : rSt v.1 σ) (G : GI σ n) (hi : i < 10) (hK : K x2 x3 x4 x5 x6 x7 x8 1 (nI (i + 1))) : wp_L_areDoors_B333 v x1 x2 x3 x4 x5 x6 x7 x8 (nI i) (obA σ i) (cdv (σ.1.1 i)) (cdv (σ.1.2.1 i)) Q K := by
  have hcd := R.1.1.1 i hi
  obtain ⟨a1, a2, a3, a4⟩ := cdv_f (σ.1.2.1 i) (by omega)
  refine ⟨fun _ => ad345 R G hi hK, fun z => ⟨fun y => ?_, fun _ => ad345 R G hi hK⟩⟩
  rw [a3] at z
  rw [a4] at y
  omega
theorem ad307 {n : Nat} (R : rSt v.1 σ) (G : GI σ n) (hi : i < 10) (hK : K x2 x3 x4 x5 x6 x7 x8 1 (nI (i + 1))) : wp_L_areDoors_B307 v x1 x2 x3 x4 x5 x6 x7 x8 (nI i) (obA σ i) (cdv (σ.1.1 i)) (cdv (σ.1.2.1 i)) Q K := by
  have hcd := R.1.1.1 i hi
  obtain ⟨a1, a2, a3, a4⟩ := cdv_f (σ.1.1 i) (by omega)
  obtain ⟨b1, b2, b3, b4⟩ := cdv_f (σ.1.2.1 i) (by omega)
  refine ⟨fun z => absurd z a2, fun _ => ⟨fun z => absurd z b2, fun _ => ⟨fun _ => ad333 R G hi hK, fun z => ⟨fun y => ?_, fun _ => ad333 R G hi hK⟩⟩⟩⟩
  rw [a3] at z
  rw [a4] at y
  omega
theorem ad237 {n : Nat} (R : rSt v.1 σ) (G : GI σ n) (hi : i < 10) (hK : K x2 x3 x4 x5 x6 x7 x8 1 (nI (i + 1))) : wp_L_areDoors_B237 v x1 x2 x3 x4 x5 x6 x7 x8 (nI i) (obA σ i) (cdv (σ.1.1 i)) (cdv (σ.1.2.1 i)) (obA σ i) (obA σ i) Q K := by
  have hcd := R.1.1.1 i hi
  have hd1 : doorA σ i 1 = nI (min (σ.1.2.2.1 i) (σ.1.2.2.2.1 i)) := rfl
  have hd2 : doorA σ i 2 = nI (max (σ.1.2.2.1 i) (σ.1.2.2.2.1 i)) := rfl
  refine ⟨fun z => absurd rfl z, fun _ => t_door (w := 1) R hi (by decide) ⟨fun z => ?_, fun _ => t_door (w := 1) R hi (by decide) (t_door (w := 2) R hi (by decide) ⟨fun z => ?_, fun _ => t_door (w := 2) R hi (by decide) ⟨fun z => ?_, fun _ => ⟨fun z => ?_, fun _ => ⟨fun z => ?_, fun _ => ⟨fun _ => ad307 R G hi hK, fun z => ⟨fun y => ?_, fun _ => ad307 R G hi hK⟩⟩⟩⟩⟩⟩)⟩⟩
  · rw [hd1] at z
    exact absurd z (nI_pos (by omega))
  · rw [hd1, hd2, q_le (by omega) (by omega)] at z
    omega
  · rw [hd2, l6, q_le (by omega) (by omega)] at z
    omega
  · rw [cdv_eq (by omega) hi] at z
    omega
  · rw [cdv_eq (by omega) hi] at z
    omega
  · have h := cdv_inj _ (by omega) _ (by omega) z
    obtain ⟨a1, a2, a3, a4⟩ := cdv_f (σ.1.1 i) (by omega)
    exact absurd (a4.mpr (hcd.2.2.2.2.1 h)) y
theorem ad155 {n : Nat} {t0 t1 : Int32} (R : rSt v.1 σ) (G : GI σ n) (hi : i < 10) (hK : K x2 (t0 + t1) (x4 + doorA σ i 7) (x5 + doorA σ i 6) (x6 + doorA σ i 5) (x7 + doorA σ i 8) (x8 + doorA σ i 9) 1 (nI (i + 1))) : wp_L_areDoors_B155 v (nI σ.2.1) x2 x4 x5 x6 x7 x8 (nI i) (obA σ i) (cdv (σ.1.1 i)) (cdv (σ.1.2.1 i)) t0 t1 Q K := by
  have hop := R.1.2.1
  rintro _ rfl
  refine t_door (w := 6) R hi (by decide) ?_
  rintro _ rfl
  refine t_door (w := 7) R hi (by decide) ?_
  rintro _ rfl
  refine t_door (w := 5) R hi (by decide) ?_
  rintro _ rfl
  refine t_door (w := 8) R hi (by decide) ?_
  rintro _ rfl
  refine t_door (w := 9) R hi (by decide) ?_
  rintro _ rfl
  have e : (nI σ.2.1 >>> (nI i &&& 31)) &&& (1 : Int32) = obA σ i := q_has1 (by omega) (by omega)
  rw [e]
  have h := ad237 (x1 := nI σ.2.1) (Q := Q) R G hi hK
  cases hb : σ.2.1.testBit i
  · rw [ob_f hb] at h ⊢
    exact ⟨fun _ => h, fun z => absurd rfl z⟩
  · rw [ob_t hb] at h ⊢
    exact ⟨fun z => absurd z (by decide), fun _ => h⟩
def tiI (σ : SS2) (i : Nat) : Int32 := if σ.2.1.testBit i then nI (pc (tg σ.1 i)) else 0
def slI (σ : SS2) (i : Nat) : Int32 := if σ.2.1.testBit i then 0 else nI (pc (tg σ.1 i))
theorem ad126 {n : Nat} {t0 t1 : Int32} (R : rSt v.1 σ) (G : GI σ n) (hi : i < 10) (ht : t0 + t1 = nI (pc (tg σ.1 i))) (hK : K (x2 + tiI σ i) (x3 + slI σ i) (x4 + doorA σ i 7) (x5 + doorA σ i 6) (x6 + doorA σ i 5) (x7 + doorA σ i 8) (x8 + doorA σ i 9) 1 (nI (i + 1))) : wp_L_areDoors_B126 v (nI σ.2.1) x2 x3 x4 x5 x6 x7 x8 (nI i) (obA σ i) (cdv (σ.1.1 i)) (cdv (σ.1.2.1 i)) t0 t1 Q K := by
  rintro _ rfl
  rw [ht]
  have h := ad155 (Q := Q) R G hi hK
  unfold tiI slI at h
  cases hb : σ.2.1.testBit i
  · rw [hb] at h
    rw [ob_f hb] at h ⊢
    refine ⟨fun _ => ?_, fun z => absurd rfl z⟩
    rintro _ rfl
    exact ⟨fun _ => h, fun z => absurd rfl z⟩
  · rw [hb] at h
    rw [ob_t hb] at h ⊢
    refine ⟨fun z => absurd z (by decide), fun _ => ?_⟩
    rintro _ rfl
    exact ⟨fun z => absurd z (by decide), fun _ => h⟩
theorem ad86 {n : Nat} (R : rSt v.1 σ) (G : GI σ n) (hi : i < 10) (hK : K (x2 + tiI σ i) (x3 + slI σ i) (x4 + doorA σ i 7) (x5 + doorA σ i 6) (x6 + doorA σ i 5) (x7 + doorA σ i 8) (x8 + doorA σ i 9) 1 (nI (i + 1))) : wp_L_areDoors_B86 v (nI σ.2.1) x2 x3 x4 x5 x6 x7 x8 (nI i) (obA σ i) Q K := by
  have hcd := R.1.1.1 i hi
  obtain ⟨a1, a2, a3, a4⟩ := cdv_f (σ.1.1 i) (by omega)
  obtain ⟨b1, b2, b3, b4⟩ := cdv_f (σ.1.2.1 i) (by omega)
  have hp := pc_tg R.1.1 hi
  have h126 : ∀ a b : Nat, a + b = pc (tg σ.1 i) → wp_L_areDoors_B126 v (nI σ.2.1) x2 x3 x4 x5 x6 x7 x8 (nI i) (obA σ i) (cdv (σ.1.1 i)) (cdv (σ.1.2.1 i)) (nI a) (nI b) Q K := fun a b h => ad126 R G hi (by rw [nI_add, h]) hK
  refine t_door (w := 3) R hi (by decide) (t_door (w := 4) R hi (by decide) ⟨fun z => ?_, fun z => ?_⟩)
  · have z := a1.mp z
    rw [if_pos z] at hp
    refine ⟨fun y => ?_, fun y => ?_⟩
    · have y := b1.mp y
      rw [if_pos y] at hp
      exact h126 0 0 hp.symm
    · have y : ¬ σ.1.2.1 i = 10 := fun x => y (b1.mpr x)
      rw [if_neg y] at hp
      exact h126 0 1 hp.symm
  · have z : ¬ σ.1.1 i = 10 := fun x => z (a1.mpr x)
    rw [if_neg z] at hp
    refine ⟨fun y => ?_, fun y => ?_⟩
    · have y := b1.mp y
      rw [if_pos y] at hp
      exact h126 1 0 hp.symm
    · have y : ¬ σ.1.2.1 i = 10 := fun x => y (b1.mpr x)
      rw [if_neg y] at hp
      exact h126 1 1 hp.symm
end AreD
theorem muP_comm (L : LoS) (i j : Nat) : muP L i j = muP L j i := by unfold muP; rw [Bool.and_comm]
theorem row_sum (L : LoS) (d : Nat) : ∀ j, rowF L d j = sumN (fun i => muP L i d) j
  | 0 => rfl
  | j + 1 => by unfold rowF; rw [row_sum L d j]; rfl
theorem qd_sq (L : LoS) : ∀ k, 2 * qdF L k ≤ sumN (fun i => sumN (fun j => muP L i j) k) k
  | 0 => Nat.le_refl _
  | k + 1 => by
    have h := qd_sq L k
    have e1 : sumN (fun i => sumN (fun j => muP L i j) k + muP L i k) k = sumN (fun i => sumN (fun j => muP L i j) k) k + sumN (fun i => muP L i k) k := sumN_add _ _ k
    have e2 : sumN (fun j => muP L k j) k = sumN (fun i => muP L i k) k := sumN_ext k (fun i _ => muP_comm L k i)
    have e3 := row_sum L k k
    simp only [sumN, qdF] at *
    omega
theorem sumN_const (c : Nat) : ∀ k, sumN (fun _ => c) k = c * k
  | 0 => rfl
  | k + 1 => by simp only [sumN]; rw [sumN_const c k, Nat.mul_succ]
theorem pd_le {L : LoS} (hok : okL L) : pdF L 10 ≤ 10 := by
  have h := qd_sq L 10
  rw [qd_pd] at h
  have h2 : sumN (fun i => sumN (fun j => muP L i j) 10) 10 ≤ sumN (fun _ => 2) 10 := by
    refine sumN_le 10 (fun i hi => ?_)
    have h3 : sumN (fun j => muP L i j) 10 ≤ sumN (fun j => bN ((tg L i).testBit j)) 10 := by
      refine sumN_le 10 (fun j _ => ?_)
      unfold muP bN
      cases (tg L i).testBit j <;> cases (tg L j).testBit i <;> decide
    have h4 : pc (tg L i) = sumN (fun j => bN ((tg L i).testBit j)) 10 := pcF_sum _ 10
    have h5 := pc_tg hok hi
    rw [← h4, h5] at h3
    refine Nat.le_trans h3 ?_
    split <;> split <;> decide
  rw [sumN_const] at h2
  omega
set_option maxRecDepth 100000 in
theorem fp_sh : ∀ b, b < 21 → b ≠ 0 → ∀ a, a < b + 1 → ¬ (Op.cmpValue (FP.dcmp (FP.ddiv (FP.i2d (nI a)) (FP.i2d (nI b))) FP.dconst0) CmpOp.l) < 0 ∧ ¬ 0 < (Op.cmpValue (FP.dcmp (FP.ddiv (FP.i2d (nI a)) (FP.i2d (nI b))) FP.dconst1) CmpOp.g) ∧ ((Op.cmpValue (FP.dcmp (FP.ddiv (FP.i2d (nI a)) (FP.i2d (nI b))) FP.dconst0) CmpOp.l) ≤ 0 ↔ a = 0) := by decide +kernel
theorem fp_s0 : ¬ (Op.cmpValue (FP.dcmp FP.dconst0 FP.dconst0) CmpOp.l) < 0 ∧ ¬ 0 < (Op.cmpValue (FP.dcmp FP.dconst0 FP.dconst1) CmpOp.g) ∧ (Op.cmpValue (FP.dcmp FP.dconst0 FP.dconst0) CmpOp.l) ≤ 0 := by decide +kernel
theorem ti_f {σ : SS2} (hok : okS σ) : ¬ (Op.cmpValue (FP.dcmp (tiA σ) FP.dconst0) CmpOp.l) < 0 ∧ ¬ 0 < (Op.cmpValue (FP.dcmp (tiA σ) FP.dconst1) CmpOp.g) ∧ ((Op.cmpValue (FP.dcmp (tiA σ) FP.dconst0) CmpOp.l) ≤ 0 ↔ coF σ.1 σ.2.1 10 = 0) := by
  have e := coF_split σ.1 σ.2.1 10 (Nat.le_refl _)
  have hle := coF_le hok.1 1023 10 (Nat.le_refl _)
  unfold tiA
  by_cases h : coF σ.1 1023 10 = 0
  · rw [if_pos h]
    exact ⟨fp_s0.1, fp_s0.2.1, ⟨fun _ => by omega, fun _ => fp_s0.2.2⟩⟩
  · rw [if_neg h]
    exact fp_sh _ (by omega) h _ (by omega)
theorem i_cancel (a b : Int32) : (a + b) - a = b := by rw [Int32.add_comm, Int32.add_sub_cancel]
theorem sumI_dif {f g : Nat → Int32} {n : Nat} : ∀ k, (∀ d, d < k → f d = g d + (if n.testBit d then 1 else 0)) → sumI f k = sumI g k + nI (pcF n k)
  | 0, _ => rfl
  | k + 1, h => by
    have ih := sumI_dif k (fun d hd => h d (by omega))
    have hk := h k (by omega)
    unfold sumI pcF
    rw [ih, hk]
    cases n.testBit k
    · simp only [Bool.false_eq_true, if_false, Nat.add_zero, Int32.add_zero]
      rw [Int32.add_assoc, Int32.add_comm (nI _) (g k), ← Int32.add_assoc]
    · simp only [if_true]
      rw [← nI_s, ← Int32.add_assoc, ← Int32.add_assoc, Int32.add_assoc (sumI g k) (nI _) (g k), Int32.add_comm (nI _) (g k), ← Int32.add_assoc]
theorem t_areDoors {v : CDV} {σ : SS2} {n : Nat} {Q : Int32 → Prop} (R : rSt v.1 σ) (G : GI σ n) (hQ : Q 1) : wp_L_areDoors v Q := by
  have hok := R.1
  have hop := hok.2.1
  have hpd := pd_le hok.1
  have eco := coF_split σ.1 σ.2.1 10 (Nat.le_refl _)
  have hco := coF_le hok.1 1023 10 (Nat.le_refl _)
  obtain ⟨f1, f2, f3⟩ := ti_f hok
  have b645 : ∀ t0 : Int32, (t0 = if coF σ.1 σ.2.1 10 = 0 then 0 else 1) → wp_L_areDoors_B645 v (nI (coF σ.1 σ.2.1 10)) t0 Q := by
    intro t0 ht
    have tail : wp_X8_count v (6 : Int32) (fun r38 => (((10 : Int32) < r38) → Q (0 : Int32)) ∧ ((¬ (10 : Int32) < r38) → Q (1 : Int32))) := by
      refine t_count (w := 6) R (by decide) ⟨fun z => ?_, fun _ => hQ⟩
      have z : nI 10 < nI (pdF σ.1 10) := z
      rw [q_lt (by omega) (by omega)] at z
      omega
    unfold wp_L_areDoors_B645
    rw [l0, q_le (by omega) (by decide)]
    refine ⟨fun z => ?_, fun z => ?_⟩
    · rw [if_pos (by omega)] at ht
      exact ⟨fun y => absurd ht y, fun _ => tail⟩
    · rw [if_neg (by omega)] at ht
      exact ⟨fun y => absurd ht y, fun _ => tail⟩
  have b517 : wp_L_areDoors_B517 v (nI (coF σ.1 σ.2.1 10)) (nI (coF σ.1 (dif 1023 σ.2.1) 10)) (nI (coF σ.1 σ.2.1 10)) (nI (coF σ.1 1023 10)) (nI (pc (held σ.1 σ.2.1))) (sumI σ.2.2.2.1 10) (sumI σ.2.2.2.2.1 10) 1 Q := by
    refine t_tight R ?_
    rintro _ rfl
    refine ⟨fun z => absurd z one0, fun _ => ?_⟩
    refine t_count (w := 2) R (by decide) ⟨fun z => absurd rfl z, fun _ => ?_⟩
    refine t_count (w := 3) R (by decide) ⟨fun z => absurd rfl z, fun _ => ⟨fun z => absurd ?_ z, fun _ => ⟨fun z => absurd rfl z, fun _ => ?_⟩⟩⟩
    · rw [nI_add, ← eco]
    refine t_count (w := 4) R (by decide) ⟨fun z => absurd rfl z, fun _ => ?_⟩
    refine t_count (w := 7) R (by decide) ⟨fun z => absurd G.2.1 z, fun _ => ?_⟩
    refine t_count (w := 8) R (by decide) (t_count (w := 9) R (by decide) (t_count (w := 10) R (by decide) ⟨fun z => absurd G.2.2.1 z, fun _ => ?_⟩))
    refine t_count (w := 1) R (by decide) ⟨fun z => absurd ?_ z, fun _ => ⟨fun z => absurd z f1, fun _ => ⟨fun z => absurd z f2, fun _ => ⟨fun z => ?_, fun z => ?_⟩⟩⟩⟩
    · rw [sumI_dif 10 G.1, i_cancel]
      rfl
    · exact b645 0 (by rw [if_pos (f3.mp z)])
    · exact b645 1 (by rw [if_neg (fun y => z (f3.mpr y))])
  have loop : ∃ k, wp_L_areDoors_L58 v (nI σ.2.1) Q k 0 0 0 0 0 0 0 1 0 := by
    refine loop_f (fun k i (s : Int32 × Int32 × Int32 × Int32 × Int32 × Int32 × Int32) => wp_L_areDoors_L58 v (nI σ.2.1) Q k s.1 s.2.1 s.2.2.1 s.2.2.2.1 s.2.2.2.2.1 s.2.2.2.2.2.1 s.2.2.2.2.2.2 1 i) 10 (fun i => (nI (coF σ.1 σ.2.1 i), nI (coF σ.1 (dif 1023 σ.2.1) i), nI (sumN (fun t => ctF σ.1 t σ.2.1 10) i), nI (sumN (fun t => ctF σ.1 t 1023 10) i), nI (pcF (held σ.1 σ.2.1) i), sumI σ.2.2.2.1 i, sumI σ.2.2.2.2.1 i)) ?_ ?_
    · intro k
      refine ⟨fun _ => ?_, fun z => absurd (ge_self _) z⟩
      show wp_L_areDoors_B517 v (nI (coF σ.1 σ.2.1 10)) (nI (coF σ.1 (dif 1023 σ.2.1) 10)) (nI (sumN (fun t => ctF σ.1 t σ.2.1 10) 10)) (nI (sumN (fun t => ctF σ.1 t 1023 10) 10)) (nI (pcF (held σ.1 σ.2.1) 10)) (sumI σ.2.2.2.1 10) (sumI σ.2.2.2.2.1 10) 1 Q
      rw [ct_sum, ct_sum]
      exact b517
    · intro k i hi ih
      refine ⟨fun z => absurd z (ge_no hi (by decide)), fun _ => ⟨fun z => absurd z one0, fun _ => t_door (w := 0) R hi (by decide) ?_⟩⟩
      rw [doorA0]
      have h86 := ad86 (x2 := nI (coF σ.1 σ.2.1 i)) (x3 := nI (coF σ.1 (dif 1023 σ.2.1) i)) (x4 := nI (sumN (fun t => ctF σ.1 t σ.2.1 10) i)) (x5 := nI (sumN (fun t => ctF σ.1 t 1023 10) i)) (x6 := nI (pcF (held σ.1 σ.2.1) i)) (x7 := sumI σ.2.2.2.1 i) (x8 := sumI σ.2.2.2.2.1 i) (Q := Q) (K := wp_L_areDoors_L58 v (nI σ.2.1) Q k) R G hi (by
        have e2 : nI (coF σ.1 σ.2.1 i) + tiI σ i = nI (coF σ.1 σ.2.1 (i + 1)) := by
          rw [show coF σ.1 σ.2.1 (i + 1) = if σ.2.1.testBit i then coF σ.1 σ.2.1 i + pc (tg σ.1 i) else coF σ.1 σ.2.1 i from rfl]
          unfold tiI
          cases σ.2.1.testBit i
          · exact Int32.add_zero _
          · exact nI_add _ _
        have e3 : nI (coF σ.1 (dif 1023 σ.2.1) i) + slI σ i = nI (coF σ.1 (dif 1023 σ.2.1) (i + 1)) := by
          have hb : (dif 1023 σ.2.1).testBit i = !σ.2.1.testBit i := by rw [dif_bit, b1023 hi, Bool.true_and]
          rw [show coF σ.1 (dif 1023 σ.2.1) (i + 1) = if (dif 1023 σ.2.1).testBit i then coF σ.1 (dif 1023 σ.2.1) i + pc (tg σ.1 i) else coF σ.1 (dif 1023 σ.2.1) i from rfl, hb]
          unfold slI
          cases σ.2.1.testBit i
          · exact nI_add _ _
          · exact Int32.add_zero _
        have e6 : nI (pcF (held σ.1 σ.2.1) i) + doorA σ i 5 = nI (pcF (held σ.1 σ.2.1) (i + 1)) := by
          show nI (pcF (held σ.1 σ.2.1) i) + (if (held σ.1 σ.2.1).testBit i then 1 else 0) = _
          rw [show pcF (held σ.1 σ.2.1) (i + 1) = pcF (held σ.1 σ.2.1) i + (if (held σ.1 σ.2.1).testBit i then 1 else 0) from rfl]
          cases (held σ.1 σ.2.1).testBit i
          · exact Int32.add_zero _
          · exact nI_s _
        have e4 : nI (sumN (fun t => ctF σ.1 t σ.2.1 10) i) + doorA σ i 7 = nI (sumN (fun t => ctF σ.1 t σ.2.1 10) (i + 1)) := nI_add _ _
        have e5 : nI (sumN (fun t => ctF σ.1 t 1023 10) i) + doorA σ i 6 = nI (sumN (fun t => ctF σ.1 t 1023 10) (i + 1)) := nI_add _ _
        rw [e2, e3, e4, e5, e6]
        exact ih)
      cases hb : σ.2.1.testBit i
      · rw [ob_f hb] at h86 ⊢
        exact ⟨fun _ => h86, fun z => absurd z (by decide)⟩
      · rw [ob_t hb] at h86 ⊢
        exact ⟨fun z => absurd rfl z, fun _ => h86⟩
  refine t_count (w := 0) R (by decide) ⟨fun z => absurd z (nI_pos (by omega)), fun _ => ⟨fun z => absurd z (ge_no hop (by decide)), fun _ => t_size hop (t_count (w := 1) R (by decide) ⟨fun z => absurd rfl z, fun _ => loop⟩)⟩⟩
