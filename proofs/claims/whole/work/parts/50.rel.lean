/-! PURE: both sides together -/
theorem rng (i : Int32) {N : Nat} (hN : N < 2 ^ 31) : (∃ d, d < N ∧ i = nI d) ∨ (i < 0 ∨ nI N ≤ i) := by
  rcases pk_ix i hN with h | h | h
  · exact Or.inr (Or.inl h)
  · exact Or.inr (Or.inr h)
  · exact Or.inl h
theorem gt_of_ge {i : Int32} {N : Nat} (hN : N + 1 < 2 ^ 31) (h : nI (N + 1) ≤ i) : nI N < i := by
  rw [Int32.lt_iff_toInt_lt, nI_toInt (by omega)]
  rw [Int32.le_iff_toInt_le, nI_toInt hN] at h
  omega
section Tests
variable {Q : Int32 → Prop} {d : Nat} {i : Int32}
theorem d8t (h : d < 10) (hQ : Q 1) : wp_X8_isDoor (nI d) Q := ⟨fun z => absurd z (nI_pos (by omega)), fun _ => ⟨fun z => absurd z (ge_no h (by decide)), fun _ => hQ⟩⟩
theorem d8f (h : i < 0 ∨ nI 10 ≤ i) (hQ : Q 0) : wp_X8_isDoor i Q := ⟨fun _ => hQ, fun z => ⟨fun _ => hQ, fun y => absurd (h.resolve_left z) y⟩⟩
theorem h8t (h : d < 6) (hQ : Q 1) : wp_X8_isHall (nI d) Q := ⟨fun z => absurd z (nI_pos (by omega)), fun _ => ⟨fun z => absurd z (ge_no h (by decide)), fun _ => hQ⟩⟩
theorem h8f (h : i < 0 ∨ nI 6 ≤ i) (hQ : Q 0) : wp_X8_isHall i Q := ⟨fun _ => hQ, fun z => ⟨fun _ => hQ, fun y => absurd (h.resolve_left z) y⟩⟩
theorem g8t (h : d < 3) (hQ : Q 1) : wp_X8_isGuest (nI d) Q := ⟨fun z => absurd z (nI_pos (by omega)), fun _ => ⟨fun z => absurd z (ge_no h (by decide)), fun _ => hQ⟩⟩
theorem g8f (h : i < 0 ∨ nI 3 ≤ i) (hQ : Q 0) : wp_X8_isGuest i Q := ⟨fun _ => hQ, fun z => ⟨fun _ => hQ, fun y => absurd (h.resolve_left z) y⟩⟩
theorem t8t (h : d < 1024) (hQ : Q 1) : wp_X8_isSetOfDoors (nI d) Q := ⟨fun z => absurd z (nI_pos (by omega)), fun _ => ⟨fun z => absurd z (nI_nlt (a := 1023) (b := d) (by omega) (by decide)), fun _ => hQ⟩⟩
theorem t8f (h : i < 0 ∨ nI 1024 ≤ i) (hQ : Q 0) : wp_X8_isSetOfDoors i Q := ⟨fun _ => hQ, fun z => ⟨fun _ => hQ, fun y => absurd (gt_of_ge (N := 1023) (by decide) (h.resolve_left z)) y⟩⟩
theorem in9t {a b : Nat} (h1 : a ≤ d) (h2 : d ≤ b) (hb : b < 2 ^ 31) (hQ : Q 1) : wp_X9_in (nI d) (nI a) (nI b) Q := ⟨fun z => absurd z (nI_nlt h1 (by omega)), fun _ => ⟨fun z => absurd z (nI_nlt h2 hb), fun _ => hQ⟩⟩
theorem in9f {lo hi : Int32} (h : i < lo ∨ hi < i) (hQ : Q 0) : wp_X9_in i lo hi Q := ⟨fun _ => hQ, fun z => ⟨fun _ => hQ, fun y => absurd (h.resolve_left z) y⟩⟩
theorem in9n {N : Nat} (hN : N + 1 < 2 ^ 31) (h : i < 0 ∨ nI (N + 1) ≤ i) (hQ : Q 0) : wp_X9_in i 0 (nI N) Q := in9f (h.imp id (gt_of_ge hN)) hQ
theorem d9t (h : d < 10) (hQ : Q 1) : wp_X9_isDoor (nI d) Q := in9t (a := 0) (b := 9) (by omega) (by omega) (by decide) hQ
theorem d9f (h : i < 0 ∨ nI 10 ≤ i) (hQ : Q 0) : wp_X9_isDoor i Q := in9n (N := 9) (by decide) h hQ
theorem h9t (h : d < 6) (hQ : Q 1) : wp_X9_isHall (nI d) Q := in9t (a := 0) (b := 5) (by omega) (by omega) (by decide) hQ
theorem h9f (h : i < 0 ∨ nI 6 ≤ i) (hQ : Q 0) : wp_X9_isHall i Q := in9n (N := 5) (by decide) h hQ
theorem g9t (h : d < 3) (hQ : Q 1) : wp_X9_isGuest (nI d) Q := in9t (a := 0) (b := 2) (by omega) (by omega) (by decide) hQ
theorem g9f (h : i < 0 ∨ nI 3 ≤ i) (hQ : Q 0) : wp_X9_isGuest i Q := in9n (N := 2) (by decide) h hQ
end Tests
theorem one0 : ¬ (1 : Int32) = 0 := by decide
def rHP (h : HistV) (p : Nat → Int32) (n : Int32) : Prop := ∃ hs k, rHist h hs k ∧ n = nI k ∧ rPast p hs k
def rKp (s : StV) (t : Int32) (kp : Nat → Int32) (ik : Int32) : Prop := t = ik ∧ (t = 0 ∨ (t = 1 ∧ ∃ σ, rSt s σ ∧ rZ kp σ))
def rPd (p : PadV) (q : Nat → Int32) (n : Int32) : Prop := ∃ (m : Nat) (cs : Nat → Nat), p.2 = nI m ∧ n = nI m ∧ m ≤ 60 ∧ ∀ i, i < m → p.1 i = nI (cs i) ∧ q i = nI (cs i) ∧ cs i < 127
def rSp (s : StopV) (r n a : Int32) : Prop := (s.1 = 0 ∧ r = -4 ∧ n = -4 ∧ a = -4) ∨ (s.1 ≠ 0 ∧ s.1 = r ∧ s.2.1 = n ∧ s.2.2 = a)
def R2 (v : CDV) (w : ModV) : Prop := rHP v.2.1 w.2.2.1 w.2.2.2.1 ∧ rKp v.2.2.1 v.2.2.2.1 w.2.2.2.2.1 w.2.2.2.2.2.1 ∧ rPd v.2.2.2.2.1 w.2.2.2.2.2.2.1 w.2.2.2.2.2.2.2.1 ∧ rSp v.2.2.2.2.2.1 w.2.2.2.2.2.2.2.2.1 w.2.2.2.2.2.2.2.2.2.1 w.2.2.2.2.2.2.2.2.2.2.1
def RR (v : CDV) (w : ModV) : Prop := ∃ σ, rSt v.1 σ ∧ rZ w.1 σ ∧ R2 v w
section Pairs
variable {v : CDV} {w : ModV} {Q : Int32 → CDV → Prop} {i j l : Int32}
theorem p_open (hR : RR v w) (hQ : ∀ r v', (∀ K : Int32 → ModV → Prop, (∀ w', RR v' w' → K r w') → wp_X9_open w i K) → Q r v') : wp_X8_open v i Q := by
  rcases rng i (N := 10) (by decide) with ⟨d, hd, rfl⟩ | h
  · obtain ⟨σ, R, Z, ⟨hs, k, H, hn, hp⟩, hkp, hpd, hsp⟩ := hR
    refine d8t hd ⟨fun _ => s_record R H (fun u hu => s_servantOpens R hd (fun v' hv' => hQ _ _ (fun K hK => ?_))), fun z => absurd z one0⟩
    refine d9t hd ⟨fun _ => z_record Z H.1 hn hp (fun p hp' => ?_), fun z => absurd z one0⟩
    refine z_openNow (v := (w.1, w.2.1, p, nI (pushK k), w.2.2.2.2)) Z R.1.1 R.1.2.1 hd (fun z' hz' => ?_)
    exact hK _ ⟨_, hv', hz', ⟨_, _, hu, rfl, hp'⟩, hkp, hpd, hsp⟩
  · exact d8f h ⟨fun z => absurd rfl z, fun _ => hQ _ _ (fun K hK => d9f h ⟨fun z => absurd rfl z, fun _ => hK _ hR⟩)⟩
theorem p_shut (hR : RR v w) (hQ : ∀ r v', (∀ K : Int32 → ModV → Prop, (∀ w', RR v' w' → K r w') → wp_X9_shut w i K) → Q r v') : wp_X8_shut v i Q := by
  rcases rng i (N := 10) (by decide) with ⟨d, hd, rfl⟩ | h
  · obtain ⟨σ, R, Z, ⟨hs, k, H, hn, hp⟩, hkp, hpd, hsp⟩ := hR
    refine d8t hd ⟨fun _ => s_record R H (fun u hu => s_servantShuts R hd (fun v' hv' => hQ _ _ (fun K hK => ?_))), fun z => absurd z one0⟩
    refine d9t hd ⟨fun _ => z_record Z H.1 hn hp (fun p hp' => ?_), fun z => absurd z one0⟩
    refine z_shutNow (v := (w.1, w.2.1, p, nI (pushK k), w.2.2.2.2)) Z hd (fun z' hz' => ?_)
    exact hK _ ⟨_, hv', hz', ⟨_, _, hu, rfl, hp'⟩, hkp, hpd, hsp⟩
  · exact d8f h ⟨fun z => absurd rfl z, fun _ => hQ _ _ (fun K hK => d9f h ⟨fun z => absurd rfl z, fun _ => hK _ hR⟩)⟩
theorem p_guestOpens (hR : RR v w) (hQ : ∀ r v', (∀ K : Int32 → ModV → Prop, (∀ w', RR v' w' → K r w') → wp_X9_guestOpens w i j K) → Q r v') : wp_X8_guestOpens v i j Q := by
  rcases rng i (N := 3) (by decide) with ⟨g, hg, rfl⟩ | h
  · rcases rng j (N := 10) (by decide) with ⟨d, hd, rfl⟩ | h
    · obtain ⟨σ, R, Z, ⟨hs, k, H, hn, hp⟩, hkp, hpd, hsp⟩ := hR
      refine g8t hg ⟨fun z => absurd z one0, fun _ => d8t hd ⟨fun _ => s_record R H (fun u hu => s_opensAsGuest R hg hd (fun v' hv' => hQ _ _ (fun K hK => ?_))), fun z => absurd z one0⟩⟩
      refine g9t hg ⟨fun z => absurd z one0, fun _ => d9t hd ⟨fun _ => z_record Z H.1 hn hp (fun p hp' => ?_), fun z => absurd z one0⟩⟩
      refine z_guestOpensNow (v := (w.1, w.2.1, p, nI (pushK k), w.2.2.2.2)) Z R.1 hg hd (fun z' hz' => ?_)
      exact hK _ ⟨_, hv', hz', ⟨_, _, hu, rfl, hp'⟩, hkp, hpd, hsp⟩
    · exact g8t hg ⟨fun z => absurd z one0, fun _ => d8f h ⟨fun z => absurd rfl z, fun _ => hQ _ _ (fun K hK => g9t hg ⟨fun z => absurd z one0, fun _ => d9f h ⟨fun z => absurd rfl z, fun _ => hK _ hR⟩⟩)⟩⟩
  · exact g8f h ⟨fun _ => hQ _ _ (fun K hK => g9f h ⟨fun _ => hK _ hR, fun z => absurd rfl z⟩), fun z => absurd rfl z⟩
theorem p_guestShuts (hR : RR v w) (hQ : ∀ r v', (∀ K : Int32 → ModV → Prop, (∀ w', RR v' w' → K r w') → wp_X9_guestShuts w i j K) → Q r v') : wp_X8_guestShuts v i j Q := by
  rcases rng i (N := 3) (by decide) with ⟨g, hg, rfl⟩ | h
  · rcases rng j (N := 10) (by decide) with ⟨d, hd, rfl⟩ | h
    · obtain ⟨σ, R, Z, ⟨hs, k, H, hn, hp⟩, hkp, hpd, hsp⟩ := hR
      refine g8t hg ⟨fun z => absurd z one0, fun _ => d8t hd ⟨fun _ => s_record R H (fun u hu => s_shutsAsGuest R hg hd (fun v' hv' => hQ _ _ (fun K hK => ?_))), fun z => absurd z one0⟩⟩
      refine g9t hg ⟨fun z => absurd z one0, fun _ => d9t hd ⟨fun _ => z_record Z H.1 hn hp (fun p hp' => ?_), fun z => absurd z one0⟩⟩
      refine z_guestShutsNow (v := (w.1, w.2.1, p, nI (pushK k), w.2.2.2.2)) Z R.1 hg hd (fun z' hz' => ?_)
      exact hK _ ⟨_, hv', hz', ⟨_, _, hu, rfl, hp'⟩, hkp, hpd, hsp⟩
    · exact g8t hg ⟨fun z => absurd z one0, fun _ => d8f h ⟨fun z => absurd rfl z, fun _ => hQ _ _ (fun K hK => g9t hg ⟨fun z => absurd z one0, fun _ => d9f h ⟨fun z => absurd rfl z, fun _ => hK _ hR⟩⟩)⟩⟩
  · exact g8f h ⟨fun _ => hQ _ _ (fun K hK => g9f h ⟨fun _ => hK _ hR, fun z => absurd rfl z⟩), fun z => absurd rfl z⟩
theorem p_walk (hR : RR v w) (hQ : ∀ r v', (∀ K : Int32 → ModV → Prop, (∀ w', RR v' w' → K r w') → wp_X9_walk w i j K) → Q r v') : wp_X8_walk v i j Q := by
  rcases rng i (N := 3) (by decide) with ⟨g, hg, rfl⟩ | h
  · rcases rng j (N := 10) (by decide) with ⟨d, hd, rfl⟩ | h
    · obtain ⟨σ, R, Z, ⟨hs, k, H, hn, hp⟩, hkp, hpd, hsp⟩ := hR
      refine g8t hg ⟨fun z => absurd z one0, fun _ => d8t hd ⟨fun _ => s_record R H (fun u hu => s_walksThrough R hg hd (fun v' hv' => hQ _ _ (fun K hK => ?_))), fun z => absurd z one0⟩⟩
      refine g9t hg ⟨fun z => absurd z one0, fun _ => d9t hd ⟨fun _ => z_record Z H.1 hn hp (fun p hp' => ?_), fun z => absurd z one0⟩⟩
      refine z_walkNow (v := (w.1, w.2.1, p, nI (pushK k), w.2.2.2.2)) Z R.1 hg hd (fun z' hz' => ?_)
      exact hK _ ⟨_, hv', hz', ⟨_, _, hu, rfl, hp'⟩, hkp, hpd, hsp⟩
    · exact g8t hg ⟨fun z => absurd z one0, fun _ => d8f h ⟨fun z => absurd rfl z, fun _ => hQ _ _ (fun K hK => g9t hg ⟨fun z => absurd z one0, fun _ => d9f h ⟨fun z => absurd rfl z, fun _ => hK _ hR⟩⟩)⟩⟩
  · exact g8f h ⟨fun _ => hQ _ _ (fun K hK => g9f h ⟨fun _ => hK _ hR, fun z => absurd rfl z⟩), fun z => absurd rfl z⟩
theorem p_undo (hR : RR v w) (hQ : ∀ r v', (∀ K : Int32 → ModV → Prop, (∀ w', RR v' w' → K r w') → wp_X9_undo w K) → Q r v') : wp_X8_undo v Q := by
  obtain ⟨σ, R, Z, ⟨hs, k, H, hn, hp⟩, hkp, hpd, hsp⟩ := hR
  have hk := H.1
  have e1 := H.2.1
  cases k with
  | zero =>
    refine ⟨fun z => absurd e1 z, fun _ => hQ _ _ (fun K hK => ⟨fun z => absurd hn z, fun _ => ?_⟩)⟩
    exact hK _ ⟨σ, R, Z, ⟨hs, 0, H, hn, hp⟩, hkp, hpd, hsp⟩
  | succ k =>
    have n0 : ¬ nI (k + 1) = 0 := nI_ne0 (by omega) (by omega)
    refine ⟨fun _ => s_takeBack H (fun h' u hh hu => ?_), fun z => absurd (e1.symm.trans z) n0⟩
    have e2 : h'.2.2 = nI k := hh.2.1
    show Q h'.2.2 _
    rw [e2]
    refine hQ _ _ (fun K hK => ⟨fun _ => ?_, fun z => absurd (hn.symm.trans z) n0⟩)
    rintro _ rfl
    rw [hn, nI_pred, l85m]
    refine z_copyState (o1 := 0) (by omega) (by decide) (by decide) (by decide) (fun q hq1 hq2 => ?_)
    refine hK _ ⟨hs k, hu, fun j hj => ?_, ⟨hs, k, hh, rfl, fun i hi => hp i (by omega)⟩, hkp, hpd, hsp⟩
    have := hq1 j hj
    rw [Nat.zero_add] at this
    exact this.trans (hp k (by omega) j hj)
theorem p_save (hR : RR v w) (hQ : ∀ r v', (∀ K : Int32 → ModV → Prop, (∀ w', RR v' w' → K r w') → wp_X9_save w K) → Q r v') : wp_X8_save v Q := by
  obtain ⟨σ, R, Z, hhp, hkp, hpd, hsp⟩ := hR
  refine s_copyS R (fun u hu => ?_)
  have e : v.1.2.2.2 = nI σ.2.1 := R.2.2.2.2
  show Q v.1.2.2.2 _
  rw [e]
  refine hQ _ _ (fun K hK => ?_)
  refine z_copyState (o0 := 0) (o1 := 0) (by decide) (by decide) (by decide) (by decide) (fun q hq1 hq2 => ?_)
  refine z_openSet (v := (w.1, w.2.1, w.2.2.1, w.2.2.2.1, q, 1, w.2.2.2.2.2.2)) Z R.1.2.1 ?_
  refine hK _ ⟨σ, R, Z, hhp, ⟨rfl, Or.inr ⟨rfl, σ, hu, fun j hj => ?_⟩⟩, hpd, hsp⟩
  have := hq1 j hj
  rw [Nat.zero_add] at this
  exact this.trans (Z j hj)
theorem p_restore (hR : RR v w) (hQ : ∀ r v', (∀ K : Int32 → ModV → Prop, (∀ w', RR v' w' → K r w') → wp_X9_restore w K) → Q r v') : wp_X8_restore v Q := by
  obtain ⟨σ, R, Z, ⟨hs, k, H, hn, hp⟩, hkp, hpd, hsp⟩ := hR
  obtain ⟨ht, ha⟩ := hkp
  rcases ha with h0 | ⟨h1, τ, hτ1, hτ2⟩
  · exact ⟨fun z => absurd h0 z, fun _ => hQ _ _ (fun K hK => ⟨fun z => absurd (ht.symm.trans h0) z, fun _ => hK _ ⟨σ, R, Z, ⟨hs, k, H, hn, hp⟩, ⟨ht, Or.inl h0⟩, hpd, hsp⟩⟩)⟩
  · have n1 : ¬ v.2.2.2.1 = 0 := by rw [h1]; decide
    refine ⟨fun _ => s_record R H (fun u hu => s_copyS hτ1 (fun v' hv' => ?_)), fun z => absurd z n1⟩
    have e : v'.2.2.2 = nI τ.2.1 := hv'.2.2.2.2
    show Q v'.2.2.2 _
    rw [e]
    refine hQ _ _ (fun K hK => ⟨fun _ => ?_, fun z => absurd (ht.trans z) n1⟩)
    refine z_record Z H.1 hn hp (fun p hp' => ?_)
    refine z_copyState (o0 := 0) (o1 := 0) (by decide) (by decide) (by decide) (by decide) (fun q hq1 hq2 => ?_)
    have hq : rZ q τ := fun j hj => by
      have := hq1 j hj
      rw [Nat.zero_add] at this
      exact this.trans (hτ2 j hj)
    refine z_openSet (v := (q, w.2.1, p, nI (pushK k), w.2.2.2.2)) hq hv'.1.2.1 ?_
    exact hK _ ⟨τ, hv', hq, ⟨_, _, hu, rfl, hp'⟩, ⟨ht, Or.inr ⟨h1, τ, hτ1, hτ2⟩⟩, hpd, hsp⟩
end Pairs
