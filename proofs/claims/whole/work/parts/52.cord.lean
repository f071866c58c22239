/-! PURE: pairs: cord -/
theorem rZ_cord {z : Nat → Int32} {σ : SS2} {d o : Nat} (Z : rZ z σ) (hd : d < 10) (b : Bool) : rZ (upd z (6 + 7 * d + (if b then 4 else 3)) (cdv o)) (setC σ.1 d b o, σ.2) := by
  cases b
  · refine rZ_updD (w := 3) Z hd (by decide) (fun i hi => ?_) (fun e u he hu => ?_) (fun g u hg hu => rfl)
    · revert i; exact i6 rfl rfl rfl rfl rfl rfl
    · revert u
      refine i7 ?_ ?_ ?_ ?_ ?_ ?_ ?_
      all_goals try (rw [if_neg (by omega)]; rfl)
      show cdv (updN σ.1.1 d o e) = if e = d ∧ 3 = 3 then cdv o else cdv (σ.1.1 e)
      unfold updN
      by_cases hed : e = d <;> simp [hed]
  · refine rZ_updD (w := 4) Z hd (by decide) (fun i hi => ?_) (fun e u he hu => ?_) (fun g u hg hu => rfl)
    · revert i; exact i6 rfl rfl rfl rfl rfl rfl
    · revert u
      refine i7 ?_ ?_ ?_ ?_ ?_ ?_ ?_
      all_goals try (rw [if_neg (by omega)]; rfl)
      show cdv (updN σ.1.2.1 d o e) = if e = d ∧ 4 = 4 then cdv o else cdv (σ.1.2.1 e)
      unfold updN
      by_cases hed : e = d <;> simp [hed]
theorem z_B82 {w : ModV} {σ : SS2} {d o : Nat} {b : Int32} {K : Int32 → ModV → Prop} (Z : rZ w.1 σ) (hd : d < 10) (ho : o ≤ 10) (hK : ∀ z', rZ z' (setC σ.1 d (decide (¬ b = 0)) o, σ.2) → K 10 (z', w.2)) : wp_X9_cord_B82 (nI d) b (nI o) w K := by
  have e10 : (nI o = (10 : Int32)) = (o = 10) := by rw [l10, q_eq (by omega) (by decide)]
  unfold wp_X9_cord_B82
  rw [e10]
  refine ⟨fun hb => ?_, fun hb => ?_⟩
  · have := rZ_cord (o := o) Z hd (decide (¬ b = 0))
    simp only [hb, not_true_eq_false, decide_false, Bool.false_eq_true, if_false] at this hK
    refine ⟨fun z => z_lay hd 3 (by decide) (hK _ ?_), fun z => z_lay hd 3 (by decide) (hK _ ?_)⟩
    · rw [show cdv o = nI o from if_neg z] at this
      exact this
    · rw [show cdv o = -4 from if_pos z] at this
      exact this
  · have := rZ_cord (o := o) Z hd (decide (¬ b = 0))
    simp only [hb, not_false_eq_true, decide_true, if_true] at this hK
    refine ⟨fun z => z_lay hd 4 (by decide) (hK _ ?_), fun z => z_lay hd 4 (by decide) (hK _ ?_)⟩
    · rw [show cdv o = nI o from if_neg z] at this
      exact this
    · rw [show cdv o = -4 from if_pos z] at this
      exact this
theorem z_B50 {w : ModV} {σ : SS2} {d o k : Nat} {hs : Nat → SS2} {b : Int32} {K : Int32 → ModV → Prop} (Z : rZ w.1 σ) (hk : k ≤ 4) (hn : w.2.2.2.1 = nI k) (hp : rPast w.2.2.1 hs k) (hd : d < 10) (ho : o ≤ 10) (hK : ∀ z' p, rZ z' (lcS σ d (decide (¬ b = 0)) o) → rPast p (pushH hs k σ) (pushK k) → K (nI (lcA σ d o)) (z', w.2.1, p, nI (pushK k), w.2.2.2.2)) : wp_X9_cord_B50 (nI d) b (nI o) w K := by
  refine z_record Z hk hn hp (fun p hp' => ?_)
  have b82 : lcR σ d o = false → wp_X9_cord_B82 (nI d) b (nI o) (w.1, w.2.1, p, nI (pushK k), w.2.2.2.2) K := by
    intro hl
    have e1 : lcS σ d (decide (¬ b = 0)) o = (setC σ.1 d (decide (¬ b = 0)) o, σ.2) := by unfold lcS; rw [hl]; rfl
    have e2 : lcA σ d o = 10 := by unfold lcA; rw [hl]; rfl
    rw [e1, e2] at hK
    exact z_B82 (w := (w.1, w.2.1, p, nI (pushK k), w.2.2.2.2)) Z hd ho (fun z' hz' => hK z' p hz' hp')
  have e10 : ((10 : Int32) ≤ nI o) = (10 ≤ o) := by rw [l10, q_le (by decide) (by omega)]
  rw [e10]
  refine ⟨fun z => b82 ?_, fun z => z_isOpen (v := (w.1, w.2.1, p, nI (pushK k), w.2.2.2.2)) Z hd ?_⟩
  · have : o = 10 := by omega
    unfold lcR; simp [this]
  · cases hb1 : σ.2.1.testBit d
    · exact ⟨fun _ => b82 (by unfold lcR; simp [hb1]), fun y => absurd rfl y⟩
    · refine ⟨fun y => absurd y one0, fun _ => z_isOpen (v := (w.1, w.2.1, p, nI (pushK k), w.2.2.2.2)) Z (by omega) ?_⟩
      cases hb2 : σ.2.1.testBit o
      · exact ⟨fun _ => b82 (by unfold lcR; simp [hb2]), fun y => absurd rfl y⟩
      · refine ⟨fun y => absurd y one0, fun _ => z_refuse (v := (w.1, w.2.1, p, nI (pushK k), w.2.2.2.2)) Z (fun z' hz' => ?_)⟩
        have hl : lcR σ d o = true := by unfold lcR; simp [hb1, hb2]; omega
        have e1 : lcS σ d (decide (¬ b = 0)) o = reS σ := by unfold lcS; rw [hl]; rfl
        have e2 : lcA σ d o = 4 := by unfold lcA; rw [hl]; rfl
        rw [e1, e2] at hK
        exact hK z' p hz' hp'
theorem p_cord {v : CDV} {w : ModV} {Q : Int32 → CDV → Prop} {i b l : Int32} (hR : RR v w) (hQ : ∀ r v', (∀ K : Int32 → ModV → Prop, (∀ w', RR v' w' → K r w') → wp_X9_cord w i b l K) → Q r v') : wp_X8_cord v i b l Q := by
  rcases rng i (N := 10) (by decide) with ⟨d, hd, rfl⟩ | h
  · refine d8t hd ⟨fun z => absurd z one0, fun _ => ?_⟩
    rcases rng l (N := 11) (by decide) with ⟨o, ho1, rfl⟩ | h
    · have ho : o ≤ 10 := by omega
      have tail : ∀ {K : Int32 → ModV → Prop}, _ → wp_X9_cord w (nI d) b (nI o) K := fun {K} y => d9t hd ⟨fun z => absurd z one0, fun _ => in9t (a := 0) (b := 10) (by omega) (by omega) (by decide) ⟨fun z => absurd z one0, fun _ => y⟩⟩
      have b20 : wp_X8_cord_B20 (nI d) b (nI o) v Q := by
        unfold wp_X8_cord_B20
        rw [q_eq (by omega) (by omega)]
        refine ⟨fun hne => ?_, fun he => hQ _ _ (fun K hK => tail ⟨fun z => absurd (by rw [he]) z, fun _ => hK _ hR⟩)⟩
        obtain ⟨σ, R, Z, ⟨hs, k, H, hn, hp⟩, hkp, hpd, hsp⟩ := hR
        have hok := R.1
        have hcd := hok.1.1 d hd
        have hnI : ¬ nI o = nI d := by rw [q_eq (by omega) (by omega)]; exact hne
        have b59 : (¬ o = 10 → (if b = 0 then σ.1.2.1 d else σ.1.1 d) ≠ o) → wp_X8_cord_B59 (nI d) b (nI o) v Q := by
          intro hcl
          refine s_record R H (fun u hu => s_laysCord R hd ho hne hcl (fun v' hv' => hQ _ _ (fun K hK => tail ⟨fun _ => ?_, fun z => absurd z hnI⟩)))
          have b50 : wp_X9_cord_B50 (nI d) b (nI o) w K := z_B50 Z H.1 hn hp hd ho (fun z' p hz' hp' => hK _ ⟨_, hv', hz', ⟨_, _, hu, rfl, hp'⟩, hkp, hpd, hsp⟩)
          refine ⟨fun _ => b50, fun z => ?_⟩
          rw [l10, q_le (by decide) (by omega)] at z
          have ho10 : o < 10 := by omega
          refine ⟨fun hb => z_of Z hd 4 (by decide) ⟨fun _ => b50, fun y => ?_⟩, fun hb => z_of Z hd 3 (by decide) ⟨fun _ => b50, fun y => ?_⟩⟩
          · have y2 : cdv (σ.1.2.1 d) = nI o := y
            rw [cdv_eq hcd.2.1 ho10] at y2
            have := hcl (by omega)
            rw [if_pos hb] at this
            exact absurd y2 this
          · have y2 : cdv (σ.1.1 d) = nI o := y
            rw [cdv_eq hcd.1 ho10] at y2
            have := hcl (by omega)
            rw [if_neg hb] at this
            exact absurd y2 this
        have e10 : (nI o = (10 : Int32)) = (o = 10) := by rw [l10, q_eq (by omega) (by decide)]
        rw [e10]
        have hR2 : RR v w := ⟨σ, R, Z, ⟨hs, k, H, hn, hp⟩, hkp, hpd, hsp⟩
        refine ⟨fun z => b59 (fun y => absurd z y), fun z => ⟨fun hb => s_cordOf R.2.1 hd ?_, fun hb => s_cordOf R.2.1 hd ?_⟩⟩
        · rw [if_pos rfl, q_eq (by omega) (by omega)]
          refine ⟨fun y => b59 (fun _ => ?_), fun y => hQ _ _ (fun K hK => tail ⟨fun _ => ⟨fun x => ?_, fun _ => ⟨fun x => absurd x hb, fun _ => z_of Z hd 3 (by decide) ⟨fun x => ?_, fun _ => hK _ hR2⟩⟩⟩, fun x => absurd x hnI⟩)⟩
          · rw [if_neg hb]; exact fun x => y x.symm
          · rw [l10, q_le (by decide) (by omega)] at x; omega
          · have x2 : ¬ cdv (σ.1.1 d) = nI o := x
            rw [cdv_eq hcd.1 (by omega)] at x2
            exact absurd y.symm x2
        · rw [if_neg (by decide), q_eq (by omega) (by omega)]
          refine ⟨fun y => b59 (fun _ => ?_), fun y => hQ _ _ (fun K hK => tail ⟨fun _ => ⟨fun x => ?_, fun _ => ⟨fun _ => z_of Z hd 4 (by decide) ⟨fun x => ?_, fun _ => hK _ hR2⟩, fun x => absurd hb x⟩⟩, fun x => absurd x hnI⟩)⟩
          · rw [if_pos hb]; exact fun x => y x.symm
          · rw [l10, q_le (by decide) (by omega)] at x; omega
          · have x2 : ¬ cdv (σ.1.2.1 d) = nI o := x
            rw [cdv_eq hcd.2.1 (by omega)] at x2
            exact absurd y.symm x2
      by_cases h10 : o = 10
      · subst h10
        exact d8f (Or.inr (ge_self _)) ⟨fun z => absurd rfl z, fun _ => ⟨fun z => absurd rfl z, fun _ => b20⟩⟩
      · exact d8t (by omega) ⟨fun _ => b20, fun z => absurd z one0⟩
    · have h2 : l < 0 ∨ nI 10 ≤ l := h.imp id (fun z => Int32.le_of_lt (gt_of_ge (N := 10) (by decide) z))
      refine d8f h2 ⟨fun z => absurd rfl z, fun _ => ⟨fun _ => hQ _ _ (fun K hK => d9t hd ⟨fun z => absurd z one0, fun _ => in9n (N := 10) (by decide) h ⟨fun _ => hK _ hR, fun z => absurd rfl z⟩⟩), fun z => ?_⟩⟩
      rw [z] at h
      exact absurd h (by decide)
  · exact d8f h ⟨fun _ => hQ _ _ (fun K hK => d9f h ⟨fun _ => hK _ hR, fun z => absurd rfl z⟩), fun z => absurd rfl z⟩
