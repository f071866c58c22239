/-! PURE: ways of a guest, told by the component from now on -/
def enC (s : Sp) : Nat := s.1 * 6 + s.2
theorem EN_C (L : LoS) : EN L enC := by
  refine ⟨fun s hs => ?_, fun s t hs ht h => ?_⟩
  · have := hs.1
    have := hs.2.1
    unfold enC
    omega
  · have := hs.2.1
    have := ht.2.1
    unfold enC at h
    exact Prod.ext (by omega) (by omega)
theorem U_C : ∀ k, k ≤ 6143 → nI k ≠ (6144 : Int32) := by
  intro k hk
  rw [l6144, Ne, q_eq (by omega) (by decide)]
  omega
def AnS (L : LoS) (ks goal : Nat) (st : Sp) (r : Int32) : Prop := (∃ k, k < 6144 ∧ r = nI k ∧ wk L ks goal k st ∧ ∀ j, j < k → ¬ wk L ks goal j st) ∨ (r = -4 ∧ ∀ k, ¬ wk L ks goal k st)
theorem s_spot {n h : Nat} {Q : Int32 → Prop} (hQ : Q (nI (enC (n, h)))) : wp_X8_spot (nI n) (nI h) Q := by
  unfold wp_X8_spot
  rw [l6, q_mul, nI_add]
  exact hQ
theorem q_div6 {a : Nat} (ha : a < 2 ^ 31) : nI a / (6 : Int32) = nI (a / 6) := pk_div (d := 6) ha (by decide) (by decide)
theorem s_fill {v : Nat → Int32} {Q : (Nat → Int32) → Prop} (hQ : ∀ u : Nat → Int32, (∀ x, x < 6144 → u x = 6144) → Q u) : wp_J7_fill_53178 6144 v 6144 Q := by
  rintro _ rfl
  have key : ∀ k i (u : Nat → Int32), i + k = 6144 → (∀ x, x < i → u x = 6144) → wp_J7_fill_53178_L5 6144 6144 (Int32.ofNat 6144) Q (k + 1) (nI i) u := by
    intro k
    induction k with
    | zero =>
      intro i u hi h
      have hi : i = 6144 := by omega
      subst hi
      exact ⟨fun _ => hQ u h, fun z => absurd (ge_self _) z⟩
    | succ k ih =>
      intro i u hi h
      have hi2 : i < 6144 := by omega
      refine ⟨fun z => absurd z (ge_no hi2 (by decide)), fun _ => ?_⟩
      rw [q_in (by omega), nI_clamp (by omega)]
      refine ⟨hi2, ?_⟩
      rintro _ rfl _ rfl
      rw [nI_s]
      refine ih (i + 1) _ (by omega) (fun x hx => ?_)
      by_cases hxi : x = i
      · subst hxi; exact updS
      · rw [updO hxi]; exact h x (by omega)
  exact ⟨6145, key 6144 0 v rfl (fun x hx => absurd hx (Nat.not_lt_zero x))⟩
theorem s_isSpot {a : Nat} (ha : a < 6144) {Q : Int32 → Prop} (hQ : Q 1) : wp_X7_isSpot (nI a) Q := by
  unfold wp_X7_isSpot
  exact ⟨fun z => absurd z (nI_pos (by omega)), fun _ => ⟨fun z => absurd z (ge_no ha (by decide)), fun _ => hQ⟩⟩
theorem s_fewestOf {few : Nat → Int32} {u : (Nat → Int32) × Int32} {a : Nat} (ha : a < 6144) {Q : Int32 → Prop} (hQ : Q (few a)) : wp_X7_fewestOf (few, u) (nI a) Q := by
  refine s_isSpot ha ⟨fun z => absurd z one0, fun _ => ?_⟩
  rw [q_in (by omega), nI_clamp (by omega)]
  exact ⟨ha, hQ⟩
section Way0
variable {L : LoS} {ks goal : Nat} {st : Sp} {i : Nat} {si : Sp} {di : Nat} {v : LoomV}
theorem s_reach {few line : Nat → Int32} {c : Nat} {Done : Sp → Prop} {s : Sp} {Q : WaysV → Prop} (B : BG L ks goal st enC 6144 i si di few line c Done) (hs : okP L s) (he : Ed L ks si s) (hQ : ∀ few' line' c', BG L ks goal st enC 6144 i si di few' line' c' (fun t => Done t ∨ t = s) → Q (few', line', nI c')) : wp_X7_reach (few, line, nI c) (nI (enC s)) (nI (di + 1)) Q := by
  have hen := (EN_C L).1 s hs
  obtain ⟨-, -, -, hc, -⟩ := bg_fewi B
  unfold wp_X7_reach
  rw [q_in (by omega), nI_clamp (by omega)]
  refine s_isSpot hen ⟨fun z => absurd z one0, fun _ => ?_⟩
  refine ⟨hen, fun z => hQ _ _ _ (bg_known B hs z), fun z => ?_⟩
  obtain ⟨c1, B2⟩ := bg_new (EN_C L) U_C B hs he z
  show (((6144 : Int32) ≤ nI c) → _) ∧ (¬ ((6144 : Int32) ≤ nI c) → enC s < 6144 ∧ ∀ g5 : Nat → Int32, g5 = _ → vp_in (nI c) 6144 ∧ ∀ g7 : Nat → Int32, g7 = upd line (nI c).toNatClampNeg _ → ∀ z8 : Int32, z8 = nI c + 1 → _)
  rw [q_in (by omega), nI_clamp (by omega), nI_s]
  refine ⟨fun y => absurd y (ge_no c1 (by decide)), fun _ => ⟨hen, ?_⟩⟩
  rintro _ rfl
  refine ⟨c1, ?_⟩
  rintro _ rfl _ rfl
  exact hQ _ _ _ B2
theorem s_go32 {n h : Nat} (R : rLoom v L) (hks : ks < 1024) (hsi : okP L (n, h)) {Q : WaysV → Prop} (hQ : ∀ few' line' c' Done', BG L ks goal st enC 6144 i (n, h) di few' line' c' Done' → (∀ t, Ed L ks (n, h) t → Done' t) → Q (few', line', nI c')) : ∀ k d few line c Done, d + k = 10 → BG L ks goal st enC 6144 i (n, h) di few line c Done → (∀ e, e < d → ∀ t, EdD L ks e (n, h) t → Done t) → wp_X7_goOnFrom_L32 v (nI (di + 1)) (nI n) (nI h) (nI (dif (dif ks n) (held L n))) Q (k + 1) (nI d) (few, line, nI c) := by
  obtain ⟨hn, hh, hind⟩ := id hsi
  have hn : n < 1024 := hn
  have hh : h < 6 := hh
  intro k
  induction k with
  | zero =>
    intro d few line c Done hd B hD
    have hd : d = 10 := by omega
    subst hd
    exact ⟨fun _ => hQ _ _ _ _ B (fun t ht => by obtain ⟨e, he, ht⟩ := ht; exact hD e he t ht), fun z => absurd (ge_self _) z⟩
  | succ k ih =>
    intro d few line c Done hd B hD
    have hd10 : d < 10 := by omega
    refine ⟨fun z => absurd z (ge_no hd10 (by decide)), fun _ => ?_⟩
    have hcl : dif (dif ks n) (held L n) < 1024 := dif_lt (k := 10) (dif_lt (k := 10) hks)
    have e2 : (dif (dif ks n) (held L n)).testBit d = (ks.testBit d && !n.testBit d && !(held L n).testBit d) := by
      rw [dif_bit, dif_bit]
    have nxt : ∀ few line c Done', BG L ks goal st enC 6144 i (n, h) di few line c Done' → (∀ t, Done t → Done' t) → (∀ t, EdD L ks d (n, h) t → Done' t) → ∀ z : Int32, z = nI d + (1 : Int32) → wp_X7_goOnFrom_L32 v (nI (di + 1)) (nI n) (nI h) (nI (dif (dif ks n) (held L n))) Q (k + 1) z (few, line, nI c) := by
      rintro few line c Done' B' h1 h2 _ rfl
      rw [nI_s]
      refine ih (d + 1) few line c Done' (by omega) B' (fun e he t ht => ?_)
      by_cases hed : e = d
      · subst hed; exact h2 t ht
      · exact h1 t (hD e (by omega) t ht)
    refine s_joins R hd10 hh ?_
    cases hjn : jn L d h
    · refine ⟨fun z => absurd rfl z, fun _ => nxt _ _ _ Done B (fun t ht => ht) (fun t ht => ?_)⟩
      have hj : jn L d h = true := ht.1
      rw [hjn] at hj; cases hj
    refine ⟨fun _ => ?_, fun z => absurd z one0⟩
    refine s_has (by omega) (by omega) ?_
    cases hb : n.testBit d
    · refine ⟨fun _ => s_has (by omega) (by omega) ?_, fun z => absurd rfl z⟩
      rw [e2]
      cases hc : (ks.testBit d && !n.testBit d && !(held L n).testBit d)
      · refine ⟨fun _ => nxt _ _ _ Done B (fun t ht => ht) (fun t ht => ?_), fun z => absurd rfl z⟩
        obtain ⟨hj, ht | ht⟩ := ht
        · have : n.testBit d = true := ht.1
          rw [this] at hb; cases hb
        · have a1 : n.testBit d = false := ht.1
          have a2 := ht.2.1
          have a3 : (held L n).testBit d = false := ht.2.2.1
          rw [a1, a2, a3] at hc; cases hc
      · simp only [Bool.and_eq_true, Bool.not_eq_true'] at hc
        obtain ⟨⟨c2, c3⟩, c4⟩ := hc
        have hE : EdD L ks d (n, h) (afterO L n d, h) := ⟨hjn, Or.inr ⟨c3, c2, c4, rfl⟩⟩
        refine ⟨fun z => absurd z one0, fun _ => s_afterOpening R hd10 hn (s_spot (s_reach B (EdD_ok R.1 hd10 hsi hE) ⟨d, hd10, hE⟩ (fun few' line' c' B' => nxt _ _ _ _ B' (fun t ht => Or.inl ht) (fun t ht => ?_))))⟩
        obtain ⟨hj, ht | ht⟩ := ht
        · have : n.testBit d = true := ht.1
          rw [this] at c3; cases c3
        · exact Or.inr ht.2.2.2
    · have hE1 : EdD L ks d (n, h) (n, acr L d h) := ⟨hjn, Or.inl ⟨hb, Or.inl rfl⟩⟩
      have hE2 : EdD L ks d (n, h) (dif n (2 ^ d), h) := ⟨hjn, Or.inl ⟨hb, Or.inr rfl⟩⟩
      refine ⟨fun z => absurd z one0, fun _ => s_otherHall R hd10 hh hjn (s_spot (s_reach B (EdD_ok R.1 hd10 hsi hE1) ⟨d, hd10, hE1⟩ (fun few' line' c' B' => s_without hd10 (s_spot (s_reach B' (EdD_ok R.1 hd10 hsi hE2) ⟨d, hd10, hE2⟩ (fun few'' line'' c'' B'' => nxt _ _ _ _ B'' (fun t ht => Or.inl (Or.inl ht)) (fun t ht => ?_)))))))⟩
      obtain ⟨hj, ht | ht⟩ := ht
      · rcases ht.2 with rfl | rfl
        · exact Or.inl (Or.inr rfl)
        · exact Or.inr rfl
      · have : n.testBit d = false := ht.1
        rw [this] at hb; cases hb
theorem s_goOn {n h : Nat} (R : rLoom v L) (hks : ks < 1024) (hsi : okP L (n, h)) {few line : Nat → Int32} {c : Nat} {Done : Sp → Prop} {Q : WaysV → Prop} (B : BG L ks goal st enC 6144 i (n, h) di few line c Done) (hQ : ∀ few' line' c' Done', BG L ks goal st enC 6144 i (n, h) di few' line' c' Done' → (∀ t, Ed L ks (n, h) t → Done' t) → Q (few', line', nI c')) : wp_X7_goOnFrom (few, line, nI c) v (nI (enC (n, h))) (nI ks) (nI (di + 1)) Q := by
  obtain ⟨hn, hh, hind⟩ := id hsi
  have hn : n < 1024 := hn
  have hh : h < 6 := hh
  have hen : enC (n, h) < 6144 := (EN_C L).1 _ hsi
  have ee : enC (n, h) = n * 6 + h := rfl
  have e1 : enC (n, h) / 6 = n := by omega
  have e2 : enC (n, h) % 6 = h := by omega
  unfold wp_X7_goOnFrom
  rw [q_mod6 _ (by omega), q_div6 (by omega), e1, e2]
  rintro _ rfl _ rfl
  refine s_heldBy R hn ?_
  rw [q_andn, q_andn]
  rintro _ rfl
  exact ⟨11, s_go32 R hks hsi hQ 10 0 few line c Done rfl B (fun e he => absurd he (Nat.not_lt_zero e))⟩
theorem s_loop24 (R : rLoom v L) (hks : ks < 1024) {Q : Int32 → WaysV → Prop} (hQ : ∀ r u, AnS L ks goal st r → Q r u) (hg : goal < 6) : ∀ k i few line c, 6144 ≤ i + k → BQ L ks goal st enC 6144 i few line c → wp_X7_fromNowOn_L24 v (nI ks) (nI goal) Q (k + 1) (nI i) (few, line, nI c) := by
  have bqc : ∀ {i few line c}, BQ L ks goal st enC 6144 i few line c → i ≤ c ∧ c ≤ 6144 := by
    rintro i few line c ⟨q, dd, b, -⟩
    refine ⟨b.2.2.2.2.2.2.1, ?_⟩
    rw [b.1]; exact cnt_le _ _
  have stop : ∀ {i few line c}, BQ L ks goal st enC 6144 i few line c → c ≤ i → ∀ u, Q (-4) u := fun B h u => hQ _ u (Or.inr ⟨rfl, bq_end B h⟩)
  intro k
  induction k with
  | zero =>
    intro i few line c hk B
    obtain ⟨h1, h2⟩ := bqc B
    show ((nI c ≤ nI i) → _) ∧ (¬ (nI c ≤ nI i) → _)
    rw [q_le (by omega) (by omega)]
    exact ⟨fun z => stop B z _, fun z => absurd (by omega) z⟩
  | succ k ih =>
    intro i few line c hk B
    obtain ⟨h1, h2⟩ := bqc B
    show ((nI c ≤ nI i) → _) ∧ (¬ (nI c ≤ nI i) → ((6144 : Int32) ≤ nI i → _) ∧ (¬ ((6144 : Int32) ≤ nI i) → vp_in (nI i) 6144 ∧ ∀ z8 : Int32, z8 = line (nI i).toNatClampNeg → wp_X7_fewestOf (few, line, nI c) z8 _))
    rw [q_le (by omega) (by omega)]
    refine ⟨fun z => stop B z _, fun z => ⟨fun y => ?_, fun y => ?_⟩⟩
    · rw [l6144, q_le (by decide) (by omega)] at y
      omega
    · rw [q_in (by omega), nI_clamp (by omega)]
      refine ⟨by omega, ?_⟩
      rintro _ rfl
      obtain ⟨si, di, hl, BB⟩ := bq_at B (by omega)
      obtain ⟨f1, f2, f3, f4, f5⟩ := bg_fewi BB
      have hen : enC si < 6144 := (EN_C L).1 _ f2
      have hs2 := f2.2.1
      have e2 : enC si % 6 = si.2 := by unfold enC; omega
      rw [hl]
      refine s_fewestOf hen ?_
      rw [q_mod6 _ (by omega), e2, q_eq (by omega) (by omega), show few (enC si) = nI di from f1, nI_s]
      refine ⟨fun x => s_goOn (n := si.1) (h := si.2) R hks f2 BB (fun few' line' c' Done' B' hD => ?_), fun x => ?_⟩
      · rintro _ rfl
        rw [nI_s]
        exact ih (i + 1) few' line' c' (by omega) (bg_next B' hD x)
      · obtain ⟨a1, a2, a3⟩ := bg_found BB x
        exact hQ _ _ (Or.inl ⟨di, a1, rfl, a2, a3⟩)
theorem s_fromNowOn {u : WaysV} (R : rLoom v L) (hks : ks < 1024) (hst : okP L st) (hg : goal < 6) {Q : Int32 → WaysV → Prop} (hQ : ∀ r u, AnS L ks goal st r → Q r u) : wp_X7_fromNowOn u v (nI (enC st)) (nI ks) (nI goal) Q := by
  refine s_fill (fun f hf => ?_)
  have hen : enC st < 6144 := (EN_C L).1 _ hst
  unfold wp_X7_reach
  rw [q_in (by omega), nI_clamp (by omega)]
  refine s_isSpot hen ⟨fun z => absurd z one0, fun _ => ?_⟩
  refine ⟨hen, fun z => absurd (hf _ hen) z, fun _ => ⟨fun y => absurd y (show ¬ (6144 : Int32) ≤ 0 by decide), fun _ => ⟨hen, ?_⟩⟩⟩
  rintro _ rfl
  refine ⟨vp_in_nI (n := 0) (by decide) (by decide), ?_⟩
  rintro _ rfl _ rfl
  exact ⟨6145, s_loop24 R hks hQ hg 6144 0 _ _ 1 (by omega) (bq_start (EN_C L) U_C hst hf)⟩
end Way0
