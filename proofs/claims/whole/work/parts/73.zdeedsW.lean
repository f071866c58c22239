/-! PURE: the reference's deeds -/
section WaysZ2
variable {σ : SS2} {w : ModV} {goal g : Nat} {st : Sp}
theorem bq_c {L : LoS} {ks goal : Nat} {st : Sp} {en : Sp → Nat} {unk : Int32} {i : Nat} {few line : Nat → Int32} {c : Nat} (B : BQ L ks goal st en unk i few line c) : i ≤ c ∧ c ≤ 6144 := by
  obtain ⟨q, dd, b, -⟩ := B
  refine ⟨b.2.2.2.2.2.2.1, ?_⟩
  rw [b.1]; exact cnt_le _ _
theorem z_fin {s z few line : Nat → Int32} {c r : Int32} {Q : Int32 → ModV → Prop} (S : rZ s σ) (hQ : ∀ z', rZ z' σ → Q r (setW (w.1, s, w.2.2) z' few line c)) : wp_X9_copyState 85 85 s z (0 : Int32) (0 : Int32) (fun u => Q r (setW (w.1, s, w.2.2) u few line c)) := by
  refine z_copyState (o0 := 0) (o1 := 0) (by decide) (by decide) (by decide) (by decide) (fun q hq1 hq2 => hQ q (fun j hj => ?_))
  have := hq1 j hj
  rw [Nat.zero_add] at this
  exact this.trans (S j hj)
theorem z_loop96 {s : Nat → Int32} (hok : okS σ) (hg : g < 3) (hgo : goal < 6) (S : rZ s σ) {Q : Int32 → ModV → Prop} (hQ : ∀ r z few line c, rZ z σ → AnS σ.1 (σ.2.2.1.2.1 g) goal st r → Q r (setW (w.1, s, w.2.2) z few line c)) : ∀ k i z few line c, 6144 ≤ i + k → rZw z σ → BQ σ.1 (σ.2.2.1.2.1 g) goal st enM (-4) i few line c → wp_X9_deeds_L96 (nI g) (nI goal) Q (k + 2) (-4) (nI i) (setW (w.1, s, w.2.2) z few line (nI c)) := by
  have stop : ∀ {i z few line c k}, BQ σ.1 (σ.2.2.1.2.1 g) goal st enM (-4) i few line c → c ≤ i → i < 2 ^ 31 → wp_X9_deeds_L96 (nI g) (nI goal) Q (k + 1) (-4) (nI i) (setW (w.1, s, w.2.2) z few line (nI c)) := by
    intro i z few line c k B h hi
    show ((nI c ≤ nI i) → _) ∧ (¬ (nI c ≤ nI i) → _)
    rw [q_le (by omega) (by omega)]
    refine ⟨fun _ => ?_, fun y => absurd h y⟩
    exact z_fin (w := w) S (fun z' Z' => hQ _ _ _ _ _ Z' (Or.inr ⟨rfl, bq_end B h⟩))
  intro k
  induction k with
  | zero =>
    intro i z few line c hk hz B
    obtain ⟨h1, h2⟩ := bq_c B
    exact stop B (by omega) (by omega)
  | succ k ih =>
    intro i z few line c hk hz B
    obtain ⟨h1, h2⟩ := bq_c B
    by_cases hci : c ≤ i
    · exact stop B hci (by omega)
    · show ((nI c ≤ nI i) → _) ∧ (¬ (nI c ≤ nI i) → ((¬ (-4 : Int32) = -4) → _) ∧ ((-4 : Int32) = -4 → vp_in (nI i) 6144 ∧ ((¬ line (nI i).toNatClampNeg / 1024 = nI goal → _) ∧ (line (nI i).toNatClampNeg / 1024 = nI goal → vp_in (nI i) 6144 ∧ (vp_in (line (nI i).toNatClampNeg) 6144 ∧ wp_X9_deeds_B144 (nI g) (nI goal) (nI i) (few (line (nI i).toNatClampNeg).toNatClampNeg) _ _ _)))))
      obtain ⟨si, di, hl, BB⟩ := bq_at B (by omega)
      obtain ⟨f1, f2, f3, f4, f5⟩ := bg_fewi BB
      have hen : enM si < 6144 := (EN_M σ.1).1 _ f2
      have hs1 := f2.1
      have hs2 := f2.2.1
      have e2 : enM si / 1024 = si.2 := by unfold enM; omega
      rw [q_le (by omega) (by omega), nI_clamp (show i < 2 ^ 31 by omega), hl, q_div1k (by omega), e2, q_eq (by omega) (by omega), nI_clamp (show enM si < 2 ^ 31 by omega), f1]
      have vi : vp_in (nI i) 6144 := vp_in_nI (by omega) (by decide)
      have ve : vp_in (nI (enM si)) 6144 := vp_in_nI hen (by decide)
      refine ⟨fun y => absurd y hci, fun _ => ⟨fun y => absurd rfl y, fun _ => ⟨vi, fun x => ?_, fun x => ⟨vi, ve, ?_⟩⟩⟩⟩
      · refine ⟨fun y => absurd rfl y, fun _ => ⟨vi, ?_⟩⟩
        show wp_X9_goOn (setW (w.1, s, w.2.2) z few line (nI c)) (nI g) (line (nI i).toNatClampNeg) _
        rw [nI_clamp (show i < 2 ^ 31 by omega), hl]
        refine z_goOn (n := si.1) (h := si.2) hok hg f2 hz BB (fun z' few' line' c' Done' hz' B' hD => ?_)
        rintro _ rfl
        rw [nI_s]
        exact ih (i + 1) z' few' line' c' (by omega) hz' (bg_next B' hD x)
      · obtain ⟨a1, a2, a3⟩ := bg_found BB x
        have n4 : ¬ nI di = (-4 : Int32) := U_M di (by omega)
        have ans : ∀ z', rZ z' σ → Q (nI di) (setW (w.1, s, w.2.2) z' few line (nI c)) := fun z' Z' => hQ _ _ _ _ _ Z' (Or.inl ⟨di, a1, rfl, a2, a3⟩)
        refine ⟨fun _ => ?_, fun y => absurd y n4⟩
        rintro _ rfl
        rw [nI_s]
        refine ⟨fun _ => z_fin (w := w) S ans, fun _ => ⟨fun _ => z_fin (w := w) S ans, fun y => absurd y n4⟩⟩
theorem z_deedsW (Z : rZ w.1 σ) (hok : okS σ) (hg : g < 3) (hgo : goal < 6) {way : Nat} (hw : way < 2) {Q : Int32 → ModV → Prop} (hQ : ∀ r s z few line c, rZ z σ → AnS σ.1 (σ.2.2.1.2.1 g) goal (σ.2.1, σ.2.2.1.1 g) r → Q r (setW (w.1, s, w.2.2) z few line c)) : wp_X9_deeds w (nI g) (nI goal) (nI way) Q := by
  refine g9t hg ⟨fun y => absurd y one0, fun _ => h9t hgo ⟨fun y => absurd y one0, fun _ => in9t (a := 0) (b := 1) (by omega) (by omega) (by decide) ⟨fun _ => ?_, fun y => absurd y one0⟩⟩⟩
  refine z_copyState (o0 := 0) (o1 := 0) (by decide) (by decide) (by decide) (by decide) (fun s hs1 hs2 => ?_)
  have S : rZ s σ := fun j hj => by
    have := hs1 j hj
    rw [Nat.zero_add] at this
    exact this.trans (Z j hj)
  have hst : okP σ.1 (σ.2.1, σ.2.2.1.1 g) := ⟨hok.2.1, (hok.2.2.2 g hg).1, (indep_iff _ _).mp hok.2.2.1⟩
  have hen : enM (σ.2.1, σ.2.2.1.1 g) < 6144 := (EN_M σ.1).1 _ hst
  have key : ∀ k i few line c, i + k = 6144 → (∀ x, x < i → few x = (-4 : Int32)) → wp_X9_deeds_L41 (nI g) (nI goal) Q (k + 1) (nI i) (setW (w.1, s, w.2.2) w.1 few line c) := by
    intro k
    induction k with
    | zero =>
      intro i few line c hi h
      have hi : i = 6144 := by omega
      subst hi
      refine ⟨fun _ => ?_, fun y => absurd (ge_self _) y⟩
      refine z_ofGuest (v := setW (w.1, s, w.2.2) w.1 few line 0) Z hg 0 (by decide) (z_openSet (v := setW (w.1, s, w.2.2) w.1 few line 0) Z hok.2.1 ?_)
      show vp_in ((1024 : Int32) * nI (σ.2.2.1.1 g) + nI σ.2.1) 6144 ∧ ((¬ few ((1024 : Int32) * nI (σ.2.2.1.1 g) + nI σ.2.1).toNatClampNeg = (-4 : Int32) → _) ∧ (few ((1024 : Int32) * nI (σ.2.2.1.1 g) + nI σ.2.1).toNatClampNeg = (-4 : Int32) → vp_in ((1024 : Int32) * nI (σ.2.2.1.1 g) + nI σ.2.1) 6144 ∧ ∀ g4 : Nat → Int32, g4 = upd few ((1024 : Int32) * nI (σ.2.2.1.1 g) + nI σ.2.1).toNatClampNeg 0 → vp_in 0 6144 ∧ ∀ g6 : Nat → Int32, g6 = upd line (0 : Int32).toNatClampNeg ((1024 : Int32) * nI (σ.2.2.1.1 g) + nI σ.2.1) → ∀ z7 : Int32, z7 = 0 + 1 → ∃ k : Nat, wp_X9_deeds_L96 (nI g) (nI goal) Q k (-4) 0 (setW (w.1, s, w.2.2) w.1 g4 g6 z7)))
      have ee : (1024 : Int32) * nI (σ.2.2.1.1 g) + nI σ.2.1 = nI (enM (σ.2.1, σ.2.2.1.1 g)) := by rw [l1km, nI_add]; rfl
      rw [ee, q_in (by omega), nI_clamp (by omega)]
      refine ⟨hen, fun y => absurd (h _ hen) y, fun _ => ⟨hen, ?_⟩⟩
      rintro _ rfl
      refine ⟨vp_in_nI (n := 0) (by decide) (by decide), ?_⟩
      rintro _ rfl _ rfl
      exact ⟨6146, z_loop96 hok hg hgo S (fun r z few line c => hQ r s z few line c) 6144 0 w.1 _ _ 1 (by omega) ⟨σ, Z, rfl, rfl⟩ (bq_start (EN_M σ.1) U_M hst h)⟩
    | succ k ih =>
      intro i few line c hi h
      have hi2 : i < 6144 := by omega
      refine ⟨fun y => absurd y (ge_no hi2 (by decide)), fun _ => ⟨vp_in_nI hi2 (by decide), ?_⟩⟩
      rw [nI_clamp (by omega)]
      rintro _ rfl _ rfl
      rw [nI_s]
      refine ih (i + 1) _ line c (by omega) (fun x hx => ?_)
      by_cases hxi : x = i
      · subst hxi; exact updS
      · exact (updO hxi).trans (h x (by omega))
  exact ⟨6145, key 6144 0 w.2.2.2.2.2.2.2.2.2.2.2.2.2.2.1 w.2.2.2.2.2.2.2.2.2.2.2.2.2.2.2.1 w.2.2.2.2.2.2.2.2.2.2.2.2.2.2.2.2 rfl (fun x hx => absurd hx (Nat.not_lt_zero x))⟩
end WaysZ2
