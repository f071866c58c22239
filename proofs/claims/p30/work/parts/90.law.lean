/-! PURE: the law's walk -/
theorem i_nat (z : Int32) : z = nI z.toUInt32.toNat := by
  show z = (UInt32.ofNat z.toUInt32.toNat).toInt32
  rw [UInt32.ofNat_toNat]
  rfl
theorem i_mask (z : Int32) : ∃ X, X < 2 ^ 31 ∧ z &&& (2147483647 : Int32) = nI X := by
  refine ⟨z.toUInt32.toNat &&& 2147483647, ?_, ?_⟩
  · have := @Nat.and_le_right z.toUInt32.toNat 2147483647
    omega
  · rw [← q_and, ← i_nat]
    rfl
theorem t_cell {xs : Nat → Int32} {L n : Nat} {P : Int32 → Prop} (hn : n < 1000) (hL : L ≤ 260) (hP : ∀ X, X < 2 ^ 31 → P (nI X)) : wp_L_cell xs L (nI n) P := by
  have out : ∀ z : Int32, P (z &&& (2147483647 : Int32)) := fun z => by
    obtain ⟨X, h1, h2⟩ := i_mask z
    rw [h2]
    exact hP X h1
  unfold wp_L_cell
  rw [show Int32.ofNat L = nI L from rfl, q_le (by omega) (by omega), q_in (by omega)]
  exact ⟨fun _ => out _, fun z => ⟨by omega, out _⟩⟩
theorem t_isDeed {X : Nat} {P : Int32 → Prop} (hX : X < 2 ^ 31) (h1 : X % 16 < 14 → P 1) (h0 : ¬ X % 16 < 14 → P 0) : wp_L_isDeed (nI X) P := by
  unfold wp_L_isDeed
  rw [q_mod16 _ hX, show (14 : Int32) = nI 14 from rfl, q_le (by omega) (by omega)]
  exact ⟨fun z => h0 (by omega), fun z => h1 (by omega)⟩
theorem push_last {hs : Nat → SS2} {k : Nat} {σ : SS2} (hk : k ≤ 4) : ∃ k', pushK k = k' + 1 ∧ pushH hs k σ k' = σ ∧ k' = if k < 4 then k else 3 := by
  by_cases h : k = 4
  · subst h
    exact ⟨3, rfl, rfl, rfl⟩
  · refine ⟨k, if_neg h, ?_, (if_pos (by omega)).symm⟩
    unfold pushH
    rw [if_neg h, if_pos rfl]
theorem An_0 {L : LoS} {ks goal : Nat} {st : Sp} {r : Int32} (h : AnW L ks goal st r) : r = 0 ↔ st.2 = goal := by
  constructor
  · intro hr
    rcases h with ⟨k, a1, a2, a3, -⟩ | ⟨a1, -⟩
    · rw [a2, l0, q_eq (by omega) (by decide)] at hr
      subst hr
      exact a3
    · rw [a1] at hr
      exact absurd hr (by decide)
  · intro hs
    have h0 : wk L ks goal 0 st := hs
    rcases h with ⟨k, a1, a2, a3, a4⟩ | ⟨-, a2⟩
    · cases k with
      | zero => exact a2
      | succ k => exact absurd h0 (a4 0 (Nat.succ_pos k))
    · exact absurd h0 (a2 0 (by decide))
def LI (n : Nat) (v : CDV) (x3 : Int64) (x5 : Int32) : Prop := ∃ σ hs k τ, RC v σ hs k (some τ) ∧ GI σ n ∧ x3 = SEEN τ ∧ x5 = nI τ.2.1
section Law
variable {v : CDV} {σ τ : SS2} {hs : Nat → SS2} {k n X : Nat} {Q : Prop} {K : Int32 → Int64 → Int32 → Int32 → CDV → Prop} {xs : Nat → Int32} {L : Nat}
theorem lg_refl (x : Int64) : lg_cmp x x = 0 := (lg_cmp_eq x x).mpr rfl
theorem lw414 {t : Int32} (R : RC v σ hs k (some τ)) (G : GI σ (n + 1)) (hK : ∀ w x3 x5, LI (n + 1) w x3 x5 → K 1 x3 x5 (nI (n + 1)) w) : wp_L_law_B414 xs L (SEEN τ) (nI τ.2.1) (nI n) (SEEN σ) (nI σ.2.1) t t v Q K := by
  obtain ⟨k', p1, p2, -⟩ := push_last (hs := hs) (σ := σ) R.2.1.1
  refine ⟨fun z => absurd rfl z, fun _ => t_can0 R.1 ⟨fun z => absurd rfl z, fun _ => t_restore R (fun v1 R1 => ⟨fun z => absurd rfl z, fun _ => t_seen R1.1 ⟨fun z => absurd (lg_refl _) z, fun _ => ?_⟩⟩)⟩⟩
  rw [p1] at R1
  have hk1 := R1.2.1.1
  refine t_undo R1 (fun v2 R2 => ⟨fun z => absurd z (nI_pos (by omega)), fun _ => ?_⟩)
  rw [p2] at R2
  refine t_seen R2.1 ⟨fun z => absurd (lg_refl _) z, fun _ => t_save R2 (fun v3 R3 => ⟨fun z => absurd rfl z, fun _ => ?_⟩)⟩
  rintro _ rfl _ rfl
  rw [nI_s]
  exact hK _ _ _ ⟨σ, _, _, σ, R3, G, rfl, rfl⟩
theorem lw320 (hX : X < 2 ^ 31) (hn : n < 60) (R : RC v σ hs k (some τ)) (G : GI σ (n + 1)) (hK : ∀ w x3 x5, LI (n + 1) w x3 x5 → K 1 x3 x5 (nI (n + 1)) w) : wp_L_law_B320 xs L 1 (SEEN τ) (nI τ.2.1) (nI n) (nI X) v Q K := by
  refine ⟨fun z => absurd z one0, fun _ => ⟨fun _ => ?_, fun _ => t_seen R.1 ?_⟩⟩
  · rintro _ rfl
    rw [nI_s]
    exact hK _ _ _ ⟨σ, hs, k, τ, R, G, rfl, rfl⟩
  · rintro _ rfl
    refine t_count (w := 0) R.1 (by decide) ?_
    have e0 : countA σ 0 = nI σ.2.1 := rfl
    rw [e0]
    intro z37 h37
    have e : z37 = nI (X % 3) := h37.trans (pk_rem (d := 3) hX (by decide) (by decide))
    subst e
    intro z38 h38
    have e : z38 = nI (X / 3 % 6) := h38.trans (q_dm (D := 3) (M := 6) hX (by decide) (by decide) (by decide) (by decide))
    subst e
    have hg : X % 3 < 3 := Nat.mod_lt _ (by decide)
    have hh : X / 3 % 6 < 6 := Nat.mod_lt _ (by decide)
    have hg6 := (R.1.1.2.2.2 _ hg).1
    refine t_deeds0 R.1 hg hh (fun r u hr => t_deeds1 (σ := σ) R.1 hg hh (fun r2 u2 hr2 => ⟨fun z => absurd (An_uni hr2 hr) z, fun _ => ?_⟩))
    have R2 : RC (v.1, v.2.1, v.2.2.1, v.2.2.2.1, v.2.2.2.2.1, v.2.2.2.2.2.1, u2) σ hs k (some τ) := ⟨R.1, R.2.1, R.2.2.1, R.2.2.2⟩
    have h0 := An_0 hr
    have h0 : r = 0 ↔ σ.2.2.1.1 (X % 3) = X / 3 % 6 := h0
    have e5 : guestA σ (X % 3) 0 = nI (σ.2.2.1.1 (X % 3)) := rfl
    refine ⟨fun z => t_guest (w := 0) R2.1 hg (by decide) ?_, fun z => t_guest (w := 0) R2.1 hg (by decide) ?_⟩
    · rw [e5, q_eq (by omega) (by omega)]
      exact ⟨fun _ => lw414 R2 G hK, fun y => absurd (h0.mpr y) z⟩
    · rw [e5, q_eq (by omega) (by omega)]
      exact ⟨fun y => absurd (h0.mp z) y, fun _ => lw414 R2 G hK⟩
/-- behind a change that stood, or was an error -/
theorem lw224 {σ0 : SS2} {x12 : Int32} {k0 : Nat} (hX : X < 2 ^ 31) (hn : n < 60) (hk0 : k0 ≤ 4) (R : RC v σ hs k (some τ)) (G : GI σ (n + 1)) (G0 : GI σ0 (n + 1)) (hu : ¬ x12 < 0 → ∃ k', k = k' + 1 ∧ hs k' = σ0 ∧ k' = if k0 < 4 then k0 else 3) (hK : ∀ w x3 x5, LI (n + 1) w x3 x5 → K 1 x3 x5 (nI (n + 1)) w) : wp_L_law_B224 xs L (SEEN τ) (nI τ.2.1) (nI n) (nI X) (SEEN σ0) (nI k0) x12 v Q K := by
  have b260 : ∀ w, RC w σ hs k (some τ) → wp_L_law_B260 xs L (SEEN τ) (nI τ.2.1) (nI n) (nI X) (SEEN σ0) (nI k0) x12 w Q K := by
    intro w Rw
    refine ⟨fun z => absurd z one0, fun _ => ⟨fun _ => lw320 hX hn Rw G hK, fun z => ⟨fun _ => lw320 hX hn Rw G hK, fun _ => ?_⟩⟩⟩
    obtain ⟨k', p1, p2, p3⟩ := hu z
    subst p1
    refine t_undo Rw (fun v2 R2 => ?_)
    rw [p2] at R2
    have b301 : ∀ t : Int32, t = nI k' → wp_L_law_B301 xs L (SEEN τ) (nI τ.2.1) (nI n) (nI X) (SEEN σ0) (nI k') t v2 Q K := by
      rintro _ rfl
      exact ⟨fun y => absurd rfl y, fun _ => t_seen R2.1 ⟨fun y => absurd (lg_refl _) y, fun _ => lw320 hX hn R2 G0 hK⟩⟩
    rw [l4, q_le (by decide) (by omega)]
    refine ⟨fun y => b301 3 ?_, fun y => b301 _ ?_⟩
    · rw [p3, if_neg (by omega)]; rfl
    · rw [p3, if_pos (by omega)]
  refine t_areDoors R.1 G ⟨fun z => absurd z one0, fun _ => t_areHalls R.1 G (by omega) ⟨fun z => absurd z one0, fun _ => ⟨fun _ => b260 v R, fun _ => ?_⟩⟩⟩
  rw [show nI X / (7 : Int32) = nI (X / 7) from pk_div (d := 7) hX (by decide) (by decide)]
  exact t_refuses (by omega) R (fun w Rw => ⟨fun z => absurd z one0, fun _ => b260 w Rw⟩)
theorem nI_nneg {a : Nat} (ha : a < 2 ^ 31) : (0 : Int32) ≤ nI a := by
  rw [l0, q_le (by decide) ha]
  exact Nat.zero_le a
theorem law_loop (hL : L ≤ 260) : ∀ j n v x3 x5, n + j = 60 → LI n v x3 x5 → wp_L_law_L84 xs L Q (j + 1) 1 x3 x5 (nI n) v := by
  intro j
  induction j with
  | zero =>
    intro n v x3 x5 hn _
    have hn : n = 60 := by omega
    subst hn
    exact ⟨fun _ => rfl, fun z => absurd (ge_self _) z⟩
  | succ j ih =>
    rintro n v x3 x5 hn ⟨σ, hs, k, τ, R, G, rfl, rfl⟩
    have hn60 : n < 60 := by omega
    have hk := R.2.1.1
    have hK : ∀ w x3 x5, LI (n + 1) w x3 x5 → wp_L_law_L84 xs L Q (j + 1) 1 x3 x5 (nI (n + 1)) w := fun w x3 x5 h => ih (n + 1) w x3 x5 (by omega) h
    refine ⟨fun z => absurd z (ge_no hn60 (by decide)), fun _ => ⟨fun z => absurd z one0, fun _ => t_cell (by omega) hL (fun X hX => t_seen R.1 ?_)⟩⟩
    rintro _ rfl
    refine t_count14 R.2.1 (t_count (w := 11) R.1 (by decide) ?_)
    have e11 : ∀ σ : SS2, countA σ 11 = refd σ := fun _ => rfl
    rw [e11]
    have G1 := GI_mono G (Nat.le_succ n)
    refine t_act hX R G (fun r hr => ?_) (fun v' σ' a R' G' ha h1 h2 => ?_)
    · have r9 : ¬ r = -9 := by rcases hr with rfl | rfl <;> decide
      have r0 : ¬ 0 ≤ r := by rcases hr with rfl | rfl <;> decide
      have rn : r < 0 := by rcases hr with rfl | rfl <;> decide
      refine t_count14 R.2.1 ⟨fun z => absurd z r9, fun _ => ⟨fun z => absurd z r0, fun _ => ⟨fun z => absurd rfl z, fun _ => t_seen R.1 ⟨fun z => absurd (lg_refl _) z, fun _ => ?_⟩⟩⟩⟩
      exact lw224 hX hn60 hk R G1 G1 (fun z => absurd rn z) hK
    · have r9 : ¬ nI a = (-9 : Int32) := fun z => by
        have := nI_nneg (a := a) (by omega)
        rw [z] at this
        exact absurd this (by decide)
      have b224 : wp_L_law_B224 xs L (SEEN τ) (nI τ.2.1) (nI n) (nI X) (SEEN σ) (nI k) (nI a) v' Q (wp_L_law_L84 xs L Q (j + 1)) := lw224 hX hn60 hk R' G' G1 (fun _ => push_last hk) hK
      have b220 : ∀ t : Int32, t = (if X % 16 < 14 ∧ a < 10 then 1 else 0) → wp_L_law_B220 xs L (SEEN τ) (nI τ.2.1) (nI n) (nI X) (SEEN σ) (nI k) (nI a) (refd σ') (refd σ) t v' Q (wp_L_law_L84 xs L Q (j + 1)) := by
        intro t ht
        refine ⟨fun z => absurd ?_ z, fun _ => b224⟩
        by_cases hx : X % 16 < 14 ∧ a < 10
        · rw [if_pos hx] at ht
          rw [ht]
          exact h1 hx.2 hx.1
        · rw [if_neg hx] at ht
          rw [ht, Int32.add_zero]
          exact h2 (fun y => hx ⟨y.2, y.1⟩)
      have b189 : ∀ t : Int32, t = nI (pushK k) → wp_L_law_B189 xs L (SEEN τ) (nI τ.2.1) (nI n) (nI X) (SEEN σ) (nI k) (refd σ) (nI a) (nI (pushK k)) t v' Q (wp_L_law_L84 xs L Q (j + 1)) := by
        rintro _ rfl
        refine ⟨fun z => absurd rfl z, fun _ => t_count (w := 11) R'.1 (by decide) ?_⟩
        rw [e11]
        refine t_isDeed hX (fun hd => ⟨fun z => absurd z one0, fun _ => ?_⟩) (fun hd => ⟨fun _ => b220 0 ?_, fun z => absurd rfl z⟩)
        · rw [l10, q_le (by decide) (by omega)]
          refine ⟨fun z => b220 0 ?_, fun z => b220 1 ?_⟩
          · rw [if_neg (by omega)]
          · rw [if_pos (by omega)]
        · rw [if_neg (fun y => hd y.1)]
      refine t_count14 R'.2.1 ⟨fun z => absurd z r9, fun _ => ⟨fun _ => ?_, fun z => absurd (nI_nneg (by omega)) z⟩⟩
      rw [l4, q_le (by decide) (by omega), nI_s]
      refine ⟨fun z => b189 _ ?_, fun z => b189 _ ?_⟩
      · unfold pushK
        rw [if_pos (by omega)]
      · unfold pushK
        rw [if_neg (by omega)]
end Law
theorem t_init {P : CDV → Prop} (hP : ∀ v, RC v S0 (fun _ => S0) 0 none → P v) : wp_X8_init P := by
  refine s_initS (fun a ha => s_initS (fun b1 hb1 => s_initS (fun b2 hb2 => s_initS (fun b3 hb3 => s_initS (fun b4 hb4 => s_initS (fun c hc => ?_))))))
  exact hP _ ⟨ha, ⟨by decide, rfl, 0, by decide, rfl, fun i hi => absurd hi (Nat.not_lt_zero i)⟩, rfl, rfl⟩
theorem law_start {xs : Nat → Int32} {L : Nat} (hL : L ≤ 260) {v : CDV} (R : RC v S0 (fun _ => S0) 0 none) : wp_L_law_B8 xs L v True := by
  refine t_undo0 R ⟨fun z => absurd rfl z, fun _ => t_restore0 R ⟨fun z => absurd rfl z, fun _ => t_count (w := 12) R.1 (by decide) ⟨fun z => absurd rfl z, fun _ => t_count (w := 0) R.1 (by decide) ⟨fun z => absurd rfl z, fun _ => ?_⟩⟩⟩⟩
  refine t_refuses (X := 0) (by decide) R (fun v1 R1 => ⟨fun z => absurd z one0, fun _ => t_refuses (X := 1) (by decide) R1 (fun v2 R2 => ⟨fun z => absurd z one0, fun _ => t_save R2 (fun v3 R3 => ⟨fun z => absurd rfl z, fun _ => t_seen R3.1 ?_⟩)⟩)⟩)
  rintro _ rfl
  exact ⟨61, law_loop hL 60 0 v3 _ _ rfl ⟨S0, _, 0, S0, R3, GI_0, rfl, rfl⟩⟩
theorem law_main (xs : Nat → Int32) (L : Nat) (hL : L ≤ 260) : wp_L_law xs L True := by
  unfold wp_L_law
  exact t_init (fun v R => law_start hL R)
