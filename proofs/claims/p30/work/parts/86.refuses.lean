/-! PURE: the law's look at errors: they change nothing -/
section Bad2
variable {v : CDV} {σ : SS2} {Q : Int32 → CDV → Prop} {P : Int32 → Prop} {j : Int32} {d g h : Nat}
theorem e_door2 (hd : d < 10) (hj : j = -1 ∨ j = 10) (hP : P (-1)) : wp_X8_door v (nI d) j P := by
  refine d8t hd ⟨fun _ => ?_, fun z => absurd z one0⟩
  rcases hj with rfl | rfl
  all_goals exact ⟨fun z => absurd z (by decide), fun z => absurd z (by decide), fun z => absurd z (by decide), fun z => absurd z (by decide), fun z => absurd z (by decide), fun z => absurd z (by decide), fun z => absurd z (by decide), fun z => absurd z (by decide), fun z => absurd z (by decide), fun z => absurd z (by decide), fun _ _ _ _ _ _ _ _ _ _ => hP⟩
theorem e_hall2 (hh : h < 6) (hj : j = -1 ∨ j = 4) (hP : P (-1)) : wp_X8_hall v (nI h) j P := by
  refine h8t hh ⟨fun _ => ?_, fun z => absurd z one0⟩
  rcases hj with rfl | rfl
  all_goals exact ⟨fun z => absurd z (by decide), fun z => absurd z (by decide), fun z => absurd z (by decide), fun z => absurd z (by decide), fun _ _ _ _ => hP⟩
theorem e_guest2 (hg : g < 3) (hj : j = -1 ∨ j = 4) (hP : P (-1)) : wp_X8_guest v (nI g) j P := by
  refine g8t hg ⟨fun _ => ?_, fun z => absurd z one0⟩
  rcases hj with rfl | rfl
  all_goals exact ⟨fun z => absurd z (by decide), fun z => absurd z (by decide), fun z => absurd z (by decide), fun z => absurd z (by decide), fun _ _ _ _ => hP⟩
theorem e_together (hj : j = -1 ∨ j = 2) (hP : P (-1)) : wp_X8_together v j P := by
  rcases hj with rfl | rfl
  all_goals exact ⟨fun z => absurd z (by decide), fun z => absurd z (by decide), fun _ _ => hP⟩
theorem e_why (hj : j = -1 ∨ j = 3) (hP : P (-1)) : wp_X8_why v j P := by
  rcases hj with rfl | rfl
  all_goals exact ⟨fun z => absurd z (by decide), fun z => absurd z (by decide), fun z => absurd z (by decide), fun _ _ _ => hP⟩
theorem e_count (hj : j = -1 ∨ j = 15) (hP : P (-1)) : wp_X8_count v j P := by
  rcases hj with rfl | rfl
  all_goals exact ⟨fun z => absurd z (by decide), fun z => absurd z (by decide), fun z => absurd z (by decide), fun z => absurd z (by decide), fun z => absurd z (by decide), fun z => absurd z (by decide), fun z => absurd z (by decide), fun z => absurd z (by decide), fun z => absurd z (by decide), fun z => absurd z (by decide), fun z => absurd z (by decide), fun z => absurd z (by decide), fun z => absurd z (by decide), fun z => absurd z (by decide), fun z => absurd z (by decide), fun _ _ _ _ _ _ _ _ _ _ _ _ _ _ _ => hP⟩
theorem e_ifOpened2 (R : rSt v.1 σ) (hd : d < 10) (hj : j = -1 ∨ j = 3) (hP : P (-1)) : wp_X8_ifOpened v (nI d) j P := by
  have hok := R.1
  have hC := afterC_lt σ.1 hok.2.1 hd
  have b80 : ∀ a b c, wp_X8_ifOpened_B80 v j a b c P := fun a b c => by
    rcases hj with rfl | rfl
    all_goals exact ⟨fun z => absurd z (by decide), fun z => absurd z (by decide), fun z => absurd z (by decide), fun _ _ _ => hP⟩
  refine d8t hd ⟨fun _ => ?_, fun z => absurd z one0⟩
  rintro _ rfl
  rw [R.2.2.2.2]
  refine s_reasonNotToOpen R hd ?_
  exact ⟨fun z0 => ⟨fun _ => s_afterCords R.2.1 hd ⟨fun _ => s_afterDrafts R.2.1 hd hC (b80 _ _ _), fun z => absurd rfl z⟩, fun z => absurd rfl z⟩, fun z0 => ⟨fun z => absurd z one0, fun _ => ⟨fun z => absurd z one0, fun _ => b80 _ _ _⟩⟩⟩
theorem e_deeds3 (hg : g < 3) (hh : h < 6) (hj : j = -1 ∨ j = 2) (hQ : Q (-1) v) : wp_X8_deeds v (nI g) (nI h) j Q := by
  refine g8t hg ⟨fun y => absurd y one0, fun _ => h8t hh ⟨fun _ => ?_, fun y => absurd y one0⟩⟩
  rw [q_in (by omega), nI_clamp (by omega)]
  refine ⟨hg, ?_⟩
  unfold wp_X8_spot
  refine ⟨hg, ?_⟩
  rintro _ rfl
  rcases hj with rfl | rfl
  all_goals exact ⟨fun z => absurd z (by decide), fun z => absurd z (by decide), fun _ _ => hQ⟩
end Bad2
section Ref
variable {v : CDV} {σ : SS2} {hs : Nat → SS2} {k : Nat} {sn : Option SS2} {Q : Int32 → CDV → Prop} {D Gd H S x1 t : Int32} {s : Nat}
theorem rf_fault {p : PadV} {P : Int32 → Prop} (hp : p.2 = 0) (hP : P 0) : wp_X4_faultPlace p P := by
  refine ⟨1, ⟨fun _ => ⟨fun _ => ?_, fun z => absurd z (by decide)⟩, fun z => absurd ?_ z⟩⟩
  · rw [hp]; exact hP
  · rw [hp]; exact ge_self _
theorem rf647 (R : RC v σ hs k sn) (hQ : ∀ v', RC v' σ hs k sn → Q 1 v') : wp_L_refusesAny_B647 1 v Q := by
  refine ⟨fun z => absurd z one0, fun _ => ?_⟩
  rintro _ rfl
  refine ⟨fun z => absurd R.2.2.2 z, fun _ => ?_⟩
  refine rf_fault rfl ⟨fun z => absurd z (by decide), fun _ => ⟨fun z => absurd rfl z, fun _ => ?_⟩⟩
  refine rf_fault rfl ⟨fun z => absurd rfl z, fun _ => ?_⟩
  exact hQ _ ⟨R.1, R.2.1, R.2.2.1, rfl⟩
theorem rf635 (R : RC v σ hs k sn) (hQ : ∀ v', RC v' σ hs k sn → Q 1 v') (ht : t = 32 ∨ t = 127) : wp_L_refusesAny_B635 t v Q := by
  have tail : (¬ (-1 : Int32) = (-1 : Int32) → wp_L_refusesAny_B646 v Q) ∧ ((-1 : Int32) = (-1 : Int32) → wp_L_refusesAny_B647 1 v Q) := ⟨fun z => absurd rfl z, fun _ => rf647 R hQ⟩
  rcases ht with rfl | rfl
  · exact e_append32 tail
  · exact e_append127 tail
theorem rf614 (R : RC v σ hs k sn) (hQ : ∀ v', RC v' σ hs k sn → Q 1 v') (ht : t = -1 ∨ t = 3) : wp_L_refusesAny_B614 x1 t v Q :=
  e_why ht ⟨fun z => absurd rfl z, fun _ => ⟨fun _ => rf635 R hQ (Or.inr rfl), fun _ => rf635 R hQ (Or.inl rfl)⟩⟩
theorem rf595 (R : RC v σ hs k sn) (hQ : ∀ v', RC v' σ hs k sn → Q 1 v') (ht : t = -1 ∨ t = 3) : wp_L_refusesAny_B595 x1 0 t v Q :=
  e_ifOpened2 (d := 0) R.1 (by decide) ht ⟨fun z => absurd rfl z, fun _ => ⟨fun _ => rf614 R hQ (Or.inr rfl), fun _ => rf614 R hQ (Or.inl rfl)⟩⟩
theorem rf565 (R : RC v σ hs k sn) (hQ : ∀ v', RC v' σ hs k sn → Q 1 v') (hD : D < 0 ∨ nI 10 ≤ D) (ht : t = -1 ∨ t = 15) : wp_L_refusesAny_B565 x1 D t v Q :=
  e_count ht ⟨fun z => absurd rfl z, fun _ => e_ifOpened1 hD ⟨fun z => absurd rfl z, fun _ => ⟨fun _ => rf595 R hQ (Or.inr rfl), fun _ => rf595 R hQ (Or.inl rfl)⟩⟩⟩
theorem rf545 (R : RC v σ hs k sn) (hQ : ∀ v', RC v' σ hs k sn → Q 1 v') (hD : D < 0 ∨ nI 10 ≤ D) (ht : t = -1 ∨ t = 2) : wp_L_refusesAny_B545 x1 D 0 0 t v Q :=
  e_deeds3 (g := 0) (h := 0) (by decide) (by decide) ht ⟨fun z => absurd rfl z, fun _ => ⟨fun _ => rf565 R hQ hD (Or.inr rfl), fun _ => rf565 R hQ hD (Or.inl rfl)⟩⟩
theorem rf491 (R : RC v σ hs k sn) (hQ : ∀ v', RC v' σ hs k sn → Q 1 v') (hD : D < 0 ∨ nI 10 ≤ D) (hG : Gd < 0 ∨ nI 3 ≤ Gd) (hH : H < 0 ∨ nI 6 ≤ H) (hS : S < 0 ∨ nI 1024 ≤ S) (ht : t = -1 ∨ t = 2) : wp_L_refusesAny_B491 x1 D Gd H S t v Q :=
  e_together ht ⟨fun z => absurd rfl z, fun _ => e_can hS ⟨fun z => absurd rfl z, fun _ => e_deeds1 hG ⟨fun z => absurd rfl z, fun _ => e_deeds2 (g := 0) (by decide) hH ⟨fun z => absurd rfl z, fun _ => ⟨fun _ => rf545 R hQ hD (Or.inr rfl), fun _ => rf545 R hQ hD (Or.inl rfl)⟩⟩⟩⟩⟩
theorem rf463 (R : RC v σ hs k sn) (hQ : ∀ v', RC v' σ hs k sn → Q 1 v') (hD : D < 0 ∨ nI 10 ≤ D) (hG : Gd < 0 ∨ nI 3 ≤ Gd) (hH : H < 0 ∨ nI 6 ≤ H) (hS : S < 0 ∨ nI 1024 ≤ S) (ht : t = -1 ∨ t = 4) : wp_L_refusesAny_B463 x1 D Gd H S 0 t v Q :=
  e_guest2 (g := 0) (by decide) ht ⟨fun z => absurd rfl z, fun _ => e_whyNot hD ⟨fun z => absurd rfl z, fun _ => ⟨fun _ => rf491 R hQ hD hG hH hS (Or.inr rfl), fun _ => rf491 R hQ hD hG hH hS (Or.inl rfl)⟩⟩⟩
theorem rf433 (R : RC v σ hs k sn) (hQ : ∀ v', RC v' σ hs k sn → Q 1 v') (hD : D < 0 ∨ nI 10 ≤ D) (hG : Gd < 0 ∨ nI 3 ≤ Gd) (hH : H < 0 ∨ nI 6 ≤ H) (hS : S < 0 ∨ nI 1024 ≤ S) (ht : t = -1 ∨ t = 4) : wp_L_refusesAny_B433 x1 D Gd H S 0 t v Q :=
  e_hall2 (h := 0) (by decide) ht ⟨fun z => absurd rfl z, fun _ => e_guest1 hG ⟨fun z => absurd rfl z, fun _ => ⟨fun _ => rf463 R hQ hD hG hH hS (Or.inr rfl), fun _ => rf463 R hQ hD hG hH hS (Or.inl rfl)⟩⟩⟩
theorem rf402 (R : RC v σ hs k sn) (hQ : ∀ v', RC v' σ hs k sn → Q 1 v') (hD : D < 0 ∨ nI 10 ≤ D) (hG : Gd < 0 ∨ nI 3 ≤ Gd) (hH : H < 0 ∨ nI 6 ≤ H) (hS : S < 0 ∨ nI 1024 ≤ S) (ht : t = -1 ∨ t = 10) : wp_L_refusesAny_B402 x1 D Gd H S 0 t v Q :=
  e_door2 (d := 0) (by decide) ht ⟨fun z => absurd rfl z, fun _ => e_hall1 hH ⟨fun z => absurd rfl z, fun _ => ⟨fun _ => rf433 R hQ hD hG hH hS (Or.inr rfl), fun _ => rf433 R hQ hD hG hH hS (Or.inl rfl)⟩⟩⟩
theorem rf371 (R : RC v σ hs k sn) (hQ : ∀ v', RC v' σ hs k sn → Q 1 v') (hD : D < 0 ∨ nI 10 ≤ D) (hG : Gd < 0 ∨ nI 3 ≤ Gd) (hH : H < 0 ∨ nI 6 ≤ H) (hS : S < 0 ∨ nI 1024 ≤ S) : wp_L_refusesAny_B371 x1 D Gd H S 1 v Q :=
  ⟨fun z => absurd z one0, fun _ => e_door1 hD ⟨fun z => absurd rfl z, fun _ => ⟨fun _ => rf402 R hQ hD hG hH hS (Or.inr rfl), fun _ => rf402 R hQ hD hG hH hS (Or.inl rfl)⟩⟩⟩
theorem rf299 (R : RC v σ hs k sn) (hQ : ∀ v', RC v' σ hs k sn → Q 1 v') (hD : D < 0 ∨ nI 10 ≤ D) (hG : Gd < 0 ∨ nI 3 ≤ Gd) (hH : H < 0 ∨ nI 6 ≤ H) (hS : S < 0 ∨ nI 1024 ≤ S) (ht : t = 0 ∨ t = 11) : wp_L_refusesAny_B299 x1 D Gd H S t v Q := by
  have h371 := rf371 (x1 := x1) R hQ hD hG hH hS
  have tail : wp_X8_guestOpens v Gd (0 : Int32) (fun r121 u122 => ((¬ r121 = (-1 : Int32)) → wp_L_refusesAny_B370 x1 D Gd H S u122 Q) ∧ ((r121 = (-1 : Int32)) → wp_X8_guestOpens u122 (0 : Int32) D (fun r124 u125 => ((¬ r124 = (-1 : Int32)) → wp_L_refusesAny_B370 x1 D Gd H S u125 Q) ∧ ((r124 = (-1 : Int32)) → wp_X8_guestShuts u125 Gd (0 : Int32) (fun r127 u128 => ((¬ r127 = (-1 : Int32)) → wp_L_refusesAny_B370 x1 D Gd H S u128 Q) ∧ ((r127 = (-1 : Int32)) → wp_X8_guestShuts u128 (0 : Int32) D (fun r130 u131 => ((¬ r130 = (-1 : Int32)) → wp_L_refusesAny_B370 x1 D Gd H S u131 Q) ∧ ((r130 = (-1 : Int32)) → wp_X8_walk u131 Gd (0 : Int32) (fun r133 u134 => ((¬ r133 = (-1 : Int32)) → wp_L_refusesAny_B370 x1 D Gd H S u134 Q) ∧ ((r133 = (-1 : Int32)) → wp_X8_walk u134 (0 : Int32) D (fun r136 u137 => ((¬ r136 = (-1 : Int32)) → wp_L_refusesAny_B370 x1 D Gd H S u137 Q) ∧ ((r136 = (-1 : Int32)) → wp_L_refusesAny_B371 x1 D Gd H S (1 : Int32) u137 Q)))))))))))) :=
    e_gOpens1 hG ⟨fun z => absurd rfl z, fun _ => e_gOpens2 (g := 0) (by decide) hD ⟨fun z => absurd rfl z, fun _ => e_gShuts1 hG ⟨fun z => absurd rfl z, fun _ => e_gShuts2 (g := 0) (by decide) hD ⟨fun z => absurd rfl z, fun _ => e_walk1 hG ⟨fun z => absurd rfl z, fun _ => e_walk2 (g := 0) (by decide) hD ⟨fun z => absurd rfl z, fun _ => h371⟩⟩⟩⟩⟩⟩
  rcases ht with rfl | rfl
  · exact e_draft0 ⟨fun z => absurd rfl z, fun _ => tail⟩
  · exact e_draft11 ⟨fun z => absurd rfl z, fun _ => tail⟩
theorem rf265 (R : RC v σ hs k sn) (hQ : ∀ v', RC v' σ hs k sn → Q 1 v') (hD : D < 0 ∨ nI 10 ≤ D) (hG : Gd < 0 ∨ nI 3 ≤ Gd) (hH : H < 0 ∨ nI 6 ≤ H) (hS : S < 0 ∨ nI 1024 ≤ S) : wp_L_refusesAny_B265 x1 D Gd H S v Q :=
  e_keys1 hG ⟨fun z => absurd rfl z, fun _ => e_keys2 (g := 0) (by decide) hS ⟨fun z => absurd rfl z, fun _ => ⟨fun _ => rf299 R hQ hD hG hH hS (Or.inr rfl), fun _ => rf299 R hQ hD hG hH hS (Or.inl rfl)⟩⟩⟩
theorem rf193 (R : RC v σ hs k sn) (hQ : ∀ v', RC v' σ hs k sn → Q 1 v') (hD : D < 0 ∨ nI 10 ≤ D) (hG : Gd < 0 ∨ nI 3 ≤ Gd) (hH : H < 0 ∨ nI 6 ≤ H) (hS : S < 0 ∨ nI 1024 ≤ S) (hs10 : s < 10) : wp_L_refusesAny_B193 x1 D Gd H S (nI s) v Q := by
  have h265 := rf265 (x1 := x1) R hQ hD hG hH hS
  refine e_join1 hD ⟨fun z => absurd rfl z, fun _ => e_join2 hs10 hH ⟨fun z => absurd rfl z, fun _ => e_join3 (o := 0) hs10 (by decide) hH ⟨fun z => absurd rfl z, fun _ => e_join4 (o := 3) hs10 (by decide) ⟨fun z => absurd rfl z, fun _ => t_door (w := 0) R.1 hs10 (by decide) ⟨fun _ => h265, fun y => ?_⟩⟩⟩⟩⟩
  refine t_join (o1 := 0) (o2 := 1) R hs10 (by decide) (by decide) (by decide) (fun _ => ⟨fun z => absurd rfl z, fun _ => h265⟩) (fun hb => ?_)
  exact absurd (ob_f hb) y
theorem rf145 (R : RC v σ hs k sn) (hQ : ∀ v', RC v' σ hs k sn → Q 1 v') (hD : D < 0 ∨ nI 10 ≤ D) (hG : Gd < 0 ∨ nI 3 ≤ Gd) (hH : H < 0 ∨ nI 6 ≤ H) (hS : S < 0 ∨ nI 1024 ≤ S) (hs10 : s < 10) (ht : t = -1 ∨ t = 11) : wp_L_refusesAny_B145 x1 D Gd H S (nI s) (nI s) 0 t v Q := by
  have h193 := rf193 (x1 := x1) R hQ hD hG hH hS hs10
  have hcd := R.1.1.1.1 s hs10
  have h4 : doorA σ s 4 = cdv (σ.1.2.1 s) := rfl
  obtain ⟨a1, a2, a3, a4⟩ := cdv_f (σ.1.2.1 s) (by omega)
  have ht2 : t < 0 ∨ nI 11 ≤ t := by
    rcases ht with rfl | rfl
    · exact Or.inl (by decide)
    · exact Or.inr (ge_self _)
  refine e_cord3 hs10 ht2 ⟨fun z => absurd rfl z, fun _ => t_cord (b := 1) R hs10 (by omega) (fun _ => ⟨fun z => absurd rfl z, fun _ => ?_⟩) (fun z => absurd (Or.inl rfl) z)⟩
  refine t_door (w := 4) R.1 hs10 (by decide) ?_
  rw [h4]
  refine ⟨fun _ => h193, fun z => t_door (w := 4) R.1 hs10 (by decide) ?_⟩
  have h10 : ¬ σ.1.2.1 s = 10 := fun x => z (a1.mpr x)
  rw [h4, show cdv (σ.1.2.1 s) = nI (σ.1.2.1 s) from if_neg h10]
  refine t_cord (b := 0) R hs10 (by omega) (fun _ => ⟨fun z => absurd rfl z, fun _ => h193⟩) (fun z => absurd (Or.inr ⟨h10, ?_⟩) z)
  rw [if_pos rfl]
theorem rf92 {X : Nat} (hX : X < 2 ^ 31) (R : RC v σ hs k sn) (hQ : ∀ v', RC v' σ hs k sn → Q 1 v') (hD : D < 0 ∨ nI 10 ≤ D) (hG : Gd < 0 ∨ nI 3 ≤ Gd) (hH : H < 0 ∨ nI 6 ≤ H) (hS : S < 0 ∨ nI 1024 ≤ S) : wp_L_refusesAny_B92 (nI X) D Gd H S v Q := by
  rintro _ rfl
  rw [q_mod10 _ hX]
  have hs10 : X % 10 < 10 := Nat.mod_lt _ (by decide)
  exact e_open hD ⟨fun z => absurd rfl z, fun _ => e_shut hD ⟨fun z => absurd rfl z, fun _ => e_cord1 hD ⟨fun z => absurd rfl z, fun _ => ⟨fun _ => rf145 R hQ hD hG hH hS hs10 (Or.inr rfl), fun _ => rf145 R hQ hD hG hH hS hs10 (Or.inl rfl)⟩⟩⟩⟩
theorem neg99 : ∀ m, m < 99 → (-1 : Int32) - nI m < 0 := by decide +kernel
theorem q_mod2 (a : Nat) (ha : a < 2 ^ 31) : nI a - nI a / (2 : Int32) * (2 : Int32) = nI (a % 2) := pk_rem ha (by decide) (by decide)
theorem q_mod99 (a : Nat) (ha : a < 2 ^ 31) : nI a - nI a / (99 : Int32) * (99 : Int32) = nI (a % 99) := pk_rem ha (by decide) (by decide)
theorem t_refusesAny {X : Nat} (hX : X < 2 ^ 31) (R : RC v σ hs k sn) (hQ : ∀ v', RC v' σ hs k sn → Q 1 v') : wp_L_refusesAny v (nI X) Q := by
  have hm : X % 99 < 99 := Nat.mod_lt _ (by decide)
  have hn := neg99 (X % 99) hm
  have up : ∀ N, N < 2000 → nI N + nI (X % 99) < 0 ∨ nI N ≤ nI N + nI (X % 99) := fun N hN => by
    rw [nI_add, q_le (by omega) (by omega)]
    exact Or.inr (by omega)
  have h2 : X % 2 = 0 ∨ X % 2 = 1 := by omega
  unfold wp_L_refusesAny wp_L_refusesAny_B22 wp_L_refusesAny_B44 wp_L_refusesAny_B67
  rw [q_mod2 _ hX, q_mod99 _ hX]
  rcases h2 with h2 | h2
  · rw [h2]
    exact ⟨fun z => absurd rfl z, fun _ => ⟨fun z => absurd rfl z, fun _ => ⟨fun z => absurd rfl z, fun _ => ⟨fun z => absurd rfl z, fun _ => rf92 hX R hQ (Or.inl hn) (Or.inl hn) (Or.inl hn) (Or.inl hn)⟩⟩⟩⟩
  · rw [h2]
    exact ⟨fun _ => ⟨fun _ => ⟨fun _ => ⟨fun _ => rf92 hX R hQ (up 10 (by decide)) (up 3 (by decide)) (up 6 (by decide)) (up 1024 (by decide)), fun z => absurd z one0⟩, fun z => absurd z one0⟩, fun z => absurd z one0⟩, fun z => absurd z one0⟩
theorem t_refuses {X : Nat} (hX : X < 2 ^ 31) (R : RC v σ hs k sn) (hQ : ∀ v', RC v' σ hs k sn → Q 1 v') : wp_L_refuses v (nI X) Q := by
  refine t_seen R.1 ?_
  rintro _ rfl
  refine t_count14 R.2.1 (t_refusesAny hX R (fun v' R' => ⟨fun z => absurd z one0, fun _ => t_seen R'.1 ⟨fun z => absurd ((lg_cmp_eq _ _).mpr rfl) z, fun _ => t_count14 R'.2.1 ⟨fun z => absurd rfl z, fun _ => hQ v' R'⟩⟩⟩))
end Ref
