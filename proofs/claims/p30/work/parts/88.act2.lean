/-! PURE: the law's changes, all together -/
section Act2
variable {v : CDV} {σ : SS2} {hs : Nat → SS2} {k d g n m y : Nat} {sn : Option SS2} {Q : Int32 → CDV → Prop}
theorem q_dm {a D M : Nat} (ha : a < 2 ^ 31) (hD : 0 < D) (hD2 : D < 2 ^ 31) (hM : 0 < M) (hM2 : M < 2 ^ 31) : nI a / nI D - nI a / nI D / nI M * nI M = nI (a / D % M) := by
  have h : a / D ≤ a := Nat.div_le_self a D
  rw [pk_div (d := D) ha hD hD2]
  exact pk_rem (by omega) hM hM2
def JoQ (d : Nat) (t0 z42 z43 z48 : Int32) (Q : Int32 → CDV → Prop) : Int32 → CDV → Prop := fun r49 u50 => ((t0 = 0) → ((¬ r49 = z48) → Q (-9 : Int32) u50) ∧ ((r49 = z48) → wp_X8_door u50 (nI d) (1 : Int32) (fun r53 => wp_X8_door u50 (nI d) (2 : Int32) (fun r55 => ((¬ (r53 + r55) = (z42 + z43)) → Q (-9 : Int32) u50) ∧ (((r53 + r55) = (z42 + z43)) → wp_X8_door u50 (nI d) (1 : Int32) (fun r58 => ((z43 ≤ z42) → ((¬ r58 = z43) → Q (-9 : Int32) u50) ∧ ((r58 = z43) → Q r49 u50)) ∧ ((¬ z43 ≤ z42) → ((¬ r58 = z42) → Q (-9 : Int32) u50) ∧ ((r58 = z42) → Q r49 u50)))))))) ∧ ((¬ t0 = 0) → ((¬ r49 = (-2 : Int32)) → Q (-9 : Int32) u50) ∧ ((r49 = (-2 : Int32)) → Q r49 u50))
theorem acjoin {deed : Prop} (hnd : ¬ deed) {o1 o2 : Nat} (R : RC v σ hs k sn) (G : GI σ n) (hd : d < 10) (h1 : o1 < 6) (h2 : o2 < 6) (hne : o1 ≠ o2) (hE : Q (-2) v) (hQ : AQ σ hs k sn n deed Q) : wp_X8_join v (nI d) (nI o1) (nI o2) (JoQ d (obA σ d) (nI o1) (nI o2) (nI (10 * min (σ.1.2.2.1 d) (σ.1.2.2.2.1 d) + max (σ.1.2.2.1 d) (σ.1.2.2.2.1 d))) Q) := by
  have hk := R.1.1.1.1 d hd
  refine t_join R hd h1 h2 hne (fun hb => ?_) (fun hb v' R' => ?_)
  · unfold JoQ
    rw [ob_t hb]
    exact ⟨fun z => absurd z one0, fun _ => ⟨fun z => absurd rfl z, fun _ => hE⟩⟩
  · unfold JoQ
    rw [ob_f hb]
    have fin : Q (nI (10 * min (σ.1.2.2.1 d) (σ.1.2.2.2.1 d) + max (σ.1.2.2.1 d) (σ.1.2.2.2.1 d))) v' := hQ _ _ _ R' (GI_mono (GI_jo G) (Nat.le_succ n)) (by omega) (fun _ x => absurd x hnd) (fun _ => rfl)
    have e1 : doorA (joS σ d o1 o2) d 1 = nI (min o1 o2) := by
      show nI (min (updN σ.1.2.2.1 d o1 d) (updN σ.1.2.2.2.1 d o2 d)) = _
      unfold updN
      rw [if_pos rfl, if_pos rfl]
    have e2 : doorA (joS σ d o1 o2) d 2 = nI (max o1 o2) := by
      show nI (max (updN σ.1.2.2.1 d o1 d) (updN σ.1.2.2.2.1 d o2 d)) = _
      unfold updN
      rw [if_pos rfl, if_pos rfl]
    refine ⟨fun _ => ⟨fun z => absurd rfl z, fun _ => t_door (w := 1) R'.1 hd (by decide) (t_door (w := 2) R'.1 hd (by decide) ⟨fun z => absurd ?_ z, fun _ => t_door (w := 1) R'.1 hd (by decide) ?_⟩)⟩, fun z => absurd rfl z⟩
    · rw [e1, e2, nI_add, nI_add]
      congr 1
      omega
    · rw [e1, q_le (by omega) (by omega)]
      refine ⟨fun z => ⟨fun x => absurd ?_ x, fun _ => fin⟩, fun z => ⟨fun x => absurd ?_ x, fun _ => fin⟩⟩
      · congr 1
        omega
      · congr 1
        omega
theorem acwalk {deed : Prop} (hdeed : deed) (R : RC v σ hs k sn) (G : GI σ n) (hg : g < 3) (hd : d < 10) (hQ : AQ σ hs k sn n deed Q) : wp_X8_door v (nI d) (1 : Int32) (fun r96 => wp_X8_door v (nI d) (2 : Int32) (fun r98 => ∀ z100 : Int32, z100 = (r96 + r98) - nI (σ.2.2.1.1 g) → wp_X8_guest v (nI g) (3 : Int32) (fun r101 => ((jb σ g d = 0) → wp_L_act_B417 (nI d) (nI g) (nI (σ.2.2.1.1 g)) z100 r101 (5 : Int32) v Q) ∧ ((¬ jb σ g d = 0) → ((obA σ d = 0) → wp_L_act_B417 (nI d) (nI g) (nI (σ.2.2.1.1 g)) z100 r101 (3 : Int32) v Q) ∧ ((¬ obA σ d = 0) → wp_L_act_B417 (nI d) (nI g) (nI (σ.2.2.1.1 g)) z100 r101 (0 : Int32) v Q))))) := by
  have hk := R.1.1.1.1 d hd
  refine t_door (w := 1) R.1 hd (by decide) (t_door (w := 2) R.1 hd (by decide) ?_)
  intro z100 hz
  have hx : rsnU σ g d = 0 → z100 = nI (acr σ.1 d (σ.2.2.1.1 g)) := by
    intro hr
    obtain ⟨m1, m2⟩ := mm_acr (rsnU_0 hr).1
    have hz : z100 = (nI (min (σ.1.2.2.1 d) (σ.1.2.2.2.1 d)) + nI (max (σ.1.2.2.1 d) (σ.1.2.2.2.1 d))) - nI (σ.2.2.1.1 g) := hz
    rw [hz, nI_add, pk_sub m2, m1]
  refine t_guest (w := 3) R.1 hg (by decide) ?_
  have h := ac417 hdeed R G hg hd hx hQ
  have e3 : guestA σ g 3 = σ.2.2.1.2.2 g := rfl
  rw [e3]
  unfold rsnU at h
  unfold jb
  cases hj : jn σ.1 d (σ.2.2.1.1 g) <;> rw [hj] at h
  · exact ⟨fun _ => h, fun z => absurd rfl z⟩
  · refine ⟨fun z => absurd z one0, fun _ => ?_⟩
    cases hb : σ.2.1.testBit d <;> rw [hb] at h
    · rw [ob_f hb]; exact ⟨fun _ => h, fun z => absurd rfl z⟩
    · rw [ob_t hb]; exact ⟨fun z => absurd z one0, fun _ => h⟩
theorem q_mod16 (a : Nat) (ha : a < 2 ^ 31) : nI a - nI a / (16 : Int32) * (16 : Int32) = nI (a % 16) := pk_rem ha (by decide) (by decide)
theorem ac80 (hm : m < 16) (hy : y < 2 ^ 31) (R : RC v σ hs k sn) (G : GI σ n) (hg : g < 3) (hd : d < 10) (hE : ∀ r : Int32, (r = -1 ∨ r = -2) → Q r v) (hQ : AQ σ hs k sn n (m < 14) Q) : wp_L_act_B80 (nI m) (nI y) (nI d) (nI g) (nI (σ.2.2.1.1 g)) (jb σ g d) (obA σ d) v Q := by
  have hok := R.1.1
  have hk := hok.1.1 d hd
  unfold wp_L_act_B80
  refine t_count (w := 0) R.1 (by decide) ?_
  have e0 : countA σ 0 = nI σ.2.1 := rfl
  rw [e0, l7, q_le (by omega) (by omega), show (9 : Int32) = nI 9 from rfl, q_le (by omega) (by omega), show (12 : Int32) = nI 12 from rfl, q_le (by omega) (by omega), show (14 : Int32) = nI 14 from rfl, q_le (by omega) (by omega), q_eq (by omega) (by omega), q_eq (by omega) (by omega), l4, q_le (by omega) (by omega)]
  refine ⟨fun z7 => ⟨fun z9 => ⟨fun z12 => ⟨fun z14 => ⟨fun z15 => ⟨fun zo => ?_, fun ze => ?_⟩, fun e14 => ?_⟩, fun n14 => ⟨fun _ => ?_, fun _ => ?_⟩⟩, fun n12 => ?_⟩, fun n9 => ⟨fun _ => ?_, fun _ => ?_⟩⟩, fun n7 => ⟨fun _ => ?_, fun _ => ?_⟩⟩
  · -- keys
    intro z21 h21
    have e : z21 = nI (y / 6 % 1024) := h21.trans (q_dm (D := 6) (M := 1024) hy (by decide) (by decide) (by decide) (by decide))
    subst e
    refine t_guest (w := 1) R.1 hg (by decide) (t_keys R hg (Nat.mod_lt _ (by decide)) (fun v' R' => ⟨fun z => absurd rfl z, fun _ => t_guest (w := 1) R'.1 hg (by decide) ⟨fun z => absurd ?_ z, fun _ => ?_⟩⟩))
    · show nI (updN σ.2.2.1.2.1 g (y / 6 % 1024) g) = _
      unfold updN
      rw [if_pos rfl]
    · have hkk := (hok.2.2.2 g hg).2
      exact hQ _ _ _ R' (GI_mono (GI_ke G) (Nat.le_succ n)) (by omega) (fun _ x => absurd x (by omega)) (fun _ => rfl)
  · -- draft
    intro z30 h30
    have e : z30 = nI (1 + y / 2 % 5) := by
      refine h30.trans ?_
      rw [show (nI y / (2 : Int32)) - (nI y / (2 : Int32)) / (5 : Int32) * (5 : Int32) = nI (y / 2 % 5) from q_dm (D := 2) (M := 5) hy (by decide) (by decide) (by decide) (by decide), l1, nI_add]
    subst e
    have hdr := hok.1.2.2
    refine t_count (w := 12) R.1 (by decide) (t_draft R (by omega) (by omega) (fun v' R' => ⟨fun z => absurd rfl z, fun _ => t_count (w := 12) R'.1 (by decide) ⟨fun z => absurd rfl z, fun _ => t_count (w := 0) R'.1 (by decide) ⟨fun z => absurd rfl z, fun _ => ?_⟩⟩⟩))
    exact hQ _ _ _ R' (GI_mono (GI_da G) (Nat.le_succ n)) (by omega) (fun _ x => absurd x (by omega)) (fun _ => rfl)
  · -- join
    intro z42 h42
    have e : z42 = nI (y / 10 % 6) := h42.trans (q_dm (D := 10) (M := 6) hy (by decide) (by decide) (by decide) (by decide))
    subst e
    intro z43 h43
    have e : z43 = nI ((y / 10 % 6 + 1 + y / 60 % 5) % 6) := by
      refine h43.trans ?_
      rw [show (nI y / (60 : Int32)) - (nI y / (60 : Int32)) / (5 : Int32) * (5 : Int32) = nI (y / 60 % 5) from q_dm (D := 60) (M := 5) hy (by decide) (by decide) (by decide) (by decide), nI_s, nI_add]
      exact q_mod6 _ (by omega)
    subst e
    refine t_door (w := 1) R.1 hd (by decide) (t_door (w := 2) R.1 hd (by decide) ?_)
    intro z48 h48
    have e : z48 = nI (10 * min (σ.1.2.2.1 d) (σ.1.2.2.2.1 d) + max (σ.1.2.2.1 d) (σ.1.2.2.2.1 d)) := by
      refine h48.trans ?_
      show (10 : Int32) * nI (min (σ.1.2.2.1 d) (σ.1.2.2.2.1 d)) + nI (max (σ.1.2.2.1 d) (σ.1.2.2.2.1 d)) = _
      rw [l10, q_mul, nI_add]
    subst e
    exact acjoin (show ¬ m < 14 by omega) R G hd (Nat.mod_lt _ (by decide)) (Nat.mod_lt _ (by decide)) (by omega) (hE _ (Or.inr rfl)) hQ
  · exact ac522 (show m < 14 by omega) hy R G hd (hE _ (Or.inl rfl)) hQ
  · exact ac522 (show m < 14 by omega) hy R G hd (hE _ (Or.inl rfl)) hQ
  · exact acwalk (show m < 14 by omega) R G hg hd hQ
  · exact ac261g (show m < 14 by omega) R G hg hd hQ
  · exact ac261s (show m < 14 by omega) R G hd hQ
  · exact ac105g (show m < 14 by omega) R G hg hd hQ
  · exact ac105s (show m < 14 by omega) R G hd hQ
theorem t_act {X : Nat} (hX : X < 2 ^ 31) (R : RC v σ hs k sn) (G : GI σ n) (hE : ∀ r : Int32, (r = -1 ∨ r = -2) → Q r v) (hQ : AQ σ hs k sn n (X % 16 < 14) Q) : wp_L_act v (nI X) Q := by
  have hok := R.1.1
  rintro _ rfl _ rfl _ rfl _ rfl
  have e1 : nI X / (16 : Int32) = nI (X / 16) := pk_div (d := 16) hX (by decide) (by decide)
  have hy : X / 16 < 2 ^ 31 := by omega
  have hd : X / 16 % 10 < 10 := Nat.mod_lt _ (by decide)
  have hg : X / 16 / 10 % 3 < 3 := Nat.mod_lt _ (by decide)
  have hk := hok.1.1 _ hd
  rw [q_mod16 _ hX, e1, q_mod10 _ hy, show (nI (X / 16) / (10 : Int32)) - (nI (X / 16) / (10 : Int32)) / (3 : Int32) * (3 : Int32) = nI (X / 16 / 10 % 3) from q_dm (D := 10) (M := 3) hy (by decide) (by decide) (by decide) (by decide)]
  have h80 := ac80 (d := X / 16 % 10) (g := X / 16 / 10 % 3) (Nat.mod_lt X (show 0 < 16 by decide)) hy R G hg hd hE hQ
  have b62 : ∀ j : Int32, j = jb σ (X / 16 / 10 % 3) (X / 16 % 10) → wp_L_act_B62 (nI (X % 16)) (nI (X / 16)) (nI (X / 16 % 10)) (nI (X / 16 / 10 % 3)) (nI (σ.2.2.1.1 (X / 16 / 10 % 3))) j v Q := by
    rintro _ rfl
    refine t_door (w := 0) R.1 hd (by decide) ?_
    rw [doorA0]
    cases hb : σ.2.1.testBit (X / 16 % 10)
    · rw [ob_f hb] at h80 ⊢
      exact ⟨fun _ => h80, fun z => absurd z (by decide)⟩
    · rw [ob_t hb] at h80 ⊢
      exact ⟨fun z => absurd rfl z, fun _ => h80⟩
  have hj : jn σ.1 (X / 16 % 10) (σ.2.2.1.1 (X / 16 / 10 % 3)) = true ↔ (min (σ.1.2.2.1 (X / 16 % 10)) (σ.1.2.2.2.1 (X / 16 % 10)) = σ.2.2.1.1 (X / 16 / 10 % 3) ∨ max (σ.1.2.2.1 (X / 16 % 10)) (σ.1.2.2.2.1 (X / 16 % 10)) = σ.2.2.1.1 (X / 16 / 10 % 3)) := by
    unfold jn
    rw [Bool.or_eq_true, beq_iff_eq, beq_iff_eq]
    omega
  have hh6 := (hok.2.2.2 _ hg).1
  refine t_guest (w := 0) R.1 hg (by decide) (t_door (w := 1) R.1 hd (by decide) ?_)
  show ((nI (min (σ.1.2.2.1 (X / 16 % 10)) (σ.1.2.2.2.1 (X / 16 % 10))) = nI (σ.2.2.1.1 (X / 16 / 10 % 3))) → _) ∧ ((¬ nI (min (σ.1.2.2.1 (X / 16 % 10)) (σ.1.2.2.2.1 (X / 16 % 10))) = nI (σ.2.2.1.1 (X / 16 / 10 % 3))) → _)
  rw [q_eq (by omega) (by omega)]
  refine ⟨fun z => b62 1 ?_, fun z => t_door (w := 2) R.1 hd (by decide) ?_⟩
  · unfold jb
    rw [hj.mpr (Or.inl z)]; rfl
  · show ((¬ nI (max (σ.1.2.2.1 (X / 16 % 10)) (σ.1.2.2.2.1 (X / 16 % 10))) = nI (σ.2.2.1.1 (X / 16 / 10 % 3))) → _) ∧ ((nI (max (σ.1.2.2.1 (X / 16 % 10)) (σ.1.2.2.2.1 (X / 16 % 10))) = nI (σ.2.2.1.1 (X / 16 / 10 % 3))) → _)
    rw [q_eq (by omega) (by omega)]
    refine ⟨fun x => b62 0 ?_, fun x => b62 1 ?_⟩
    · unfold jb
      cases hb : jn σ.1 (X / 16 % 10) (σ.2.2.1.1 (X / 16 / 10 % 3)) with
      | false => rfl
      | true => exact ((hj.mp hb).elim (fun y => absurd y z) (fun y => absurd y x))
    · unfold jb
      rw [hj.mpr (Or.inr x)]; rfl
end Act2
