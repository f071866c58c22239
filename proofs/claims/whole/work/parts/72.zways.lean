/-! PURE: ways of a guest, told by the reference -/
def enM (s : Sp) : Nat := 1024 * s.2 + s.1
theorem EN_M (L : LoS) : EN L enM := by
  refine ⟨fun s hs => ?_, fun s t hs ht h => ?_⟩
  · have := hs.1
    have := hs.2.1
    unfold enM
    omega
  · have := hs.1
    have := ht.1
    unfold enM at h
    exact Prod.ext (by omega) (by omega)
theorem U_M : ∀ k, k ≤ 6143 → nI k ≠ (-4 : Int32) := by
  intro k hk z
  have h : (nI k).toInt = (-4 : Int32).toInt := by rw [z]
  rw [nI_toInt (by omega), show (-4 : Int32).toInt = -4 by decide] at h
  omega
def setW (w : ModV) (z few line : Nat → Int32) (c : Int32) : ModV := (z, w.2.1, w.2.2.1, w.2.2.2.1, w.2.2.2.2.1, w.2.2.2.2.2.1, w.2.2.2.2.2.2.1, w.2.2.2.2.2.2.2.1, w.2.2.2.2.2.2.2.2.1, w.2.2.2.2.2.2.2.2.2.1, w.2.2.2.2.2.2.2.2.2.2.1, w.2.2.2.2.2.2.2.2.2.2.2.1, w.2.2.2.2.2.2.2.2.2.2.2.2.1, w.2.2.2.2.2.2.2.2.2.2.2.2.2.1, few, line, c)
theorem z_laySet {v : ModV} {σ : SS2} {n : Nat} {Q : ModV → Prop} (Z : rZ v.1 σ) (hn : n < 1024) (hQ : ∀ z', rZ z' (σ.1, n, σ.2.2) → Q (z', v.2)) : wp_X9_laySet v (nI n) Q := by
  have key : ∀ k d (z : Nat → Int32), d + k = 10 → (∀ i, i < 6 → z i = zH σ i) → (∀ g u, g < 3 → u < 3 → z (76 + 3 * g + u) = zG σ g u) → (∀ e u, e < 10 → u < 7 → z (6 + 7 * e + u) = if u = 0 ∧ e < d then (if n.testBit e then 1 else 0) else zD σ e u) → wp_X9_laySet_L2 (nI n) Q (k + 1) (nI d) (z, v.2) := by
    intro k
    induction k with
    | zero =>
      intro d z hd h1 h2 h3
      have hd : d = 10 := by omega
      subst hd
      refine ⟨fun _ => hQ z (rZ_of h1 (fun e u he hu => ?_) h2), fun y => absurd (ge_self _) y⟩
      rw [h3 e u he hu]
      revert u
      refine i7 ?_ ?_ ?_ ?_ ?_ ?_ ?_
      · rw [if_pos ⟨rfl, he⟩]; rfl
      all_goals (rw [if_neg (by omega)]; rfl)
    | succ k ih =>
      intro d z hd h1 h2 h3
      have hd10 : d < 10 := by omega
      refine ⟨fun y => absurd y (ge_no hd10 (by decide)), fun _ => z_lay (v := (z, v.2)) hd10 0 (by decide) ?_⟩
      rintro _ rfl
      rw [nI_s, q_has1 (by omega) (by omega)]
      refine ih (d + 1) _ (by omega) (fun i hi => ?_) (fun g u hg hu => ?_) (fun e u he hu => ?_)
      · exact (updO (by omega)).trans (h1 i hi)
      · exact (updO (by omega)).trans (h2 g u hg hu)
      · by_cases hc : e = d ∧ u = 0
        · obtain ⟨rfl, rfl⟩ := hc
          have e1 : (0 = 0 ∧ e < e + 1) := ⟨rfl, by omega⟩
          exact updS.trans (if_pos e1).symm
        · have e1 : (u = 0 ∧ e < d + 1) = (u = 0 ∧ e < d) := propext (by omega)
          simp only [e1]
          exact (updO (by omega)).trans (h3 e u he hu)
  refine ⟨11, key 10 0 v.1 rfl (fun i hi => rZ_H Z hi) (fun g u hg hu => rZ_G Z hg hu) (fun e u he hu => ?_)⟩
  rw [if_neg (by omega)]
  exact rZ_D Z he hu
theorem dif_add : ∀ n, n < 1024 → ∀ d, d < 10 → n.testBit d = true → dif n (2 ^ d) + 2 ^ d = n := by decide +kernel
theorem q_div1k {a : Nat} (ha : a < 2 ^ 31) : nI a / (1024 : Int32) = nI (a / 1024) := pk_div (d := 1024) ha (by decide) (by decide)
theorem q_mod1k (a : Nat) (ha : a < 2 ^ 31) : nI a - nI a / (1024 : Int32) * (1024 : Int32) = nI (a % 1024) := pk_rem ha (by decide) (by decide)
theorem l1km (k : Nat) : (1024 : Int32) * nI k = nI (1024 * k) := by rw [l1024, q_mul]
/-- the row of numbers while ways are looked for: loom and guests as they were -/
def rZw (z : Nat → Int32) (σ : SS2) : Prop := ∃ σ', rZ z σ' ∧ σ'.1 = σ.1 ∧ σ'.2.2.1 = σ.2.2.1
section WaysZ
variable {σ : SS2} {w : ModV} {goal g : Nat} {st : Sp} {i : Nat} {si : Sp} {di : Nat}
theorem z_reachW {z few line : Nat → Int32} {c ks : Nat} {Done : Sp → Prop} {s : Sp} {Q : ModV → Prop} (B : BG σ.1 ks goal st enM (-4) i si di few line c Done) (hs : okP σ.1 s) (he : Ed σ.1 ks si s) (hQ : ∀ few' line' c', BG σ.1 ks goal st enM (-4) i si di few' line' c' (fun t => Done t ∨ t = s) → Q (setW w z few' line' (nI c'))) : wp_X9_reach (setW w z few line (nI c)) (nI (enM s)) (nI (di + 1)) Q := by
  have hen := (EN_M σ.1).1 s hs
  obtain ⟨-, -, -, hc, -⟩ := bg_fewi B
  show vp_in (nI (enM s)) 6144 ∧ ((¬ few (nI (enM s)).toNatClampNeg = (-4 : Int32) → Q (setW w z few line (nI c))) ∧ (few (nI (enM s)).toNatClampNeg = (-4 : Int32) → vp_in (nI (enM s)) 6144 ∧ ∀ g4 : Nat → Int32, g4 = upd few (nI (enM s)).toNatClampNeg (nI (di + 1)) → vp_in (nI c) 6144 ∧ ∀ g6 : Nat → Int32, g6 = upd line (nI c).toNatClampNeg (nI (enM s)) → ∀ z7 : Int32, z7 = nI c + 1 → Q (setW w z g4 g6 z7)))
  rw [q_in (by omega), nI_clamp (by omega)]
  refine ⟨hen, fun y => hQ _ _ _ (bg_known B hs y), fun y => ?_⟩
  obtain ⟨c1, B2⟩ := bg_new (EN_M σ.1) U_M B hs he y
  rw [q_in (by omega), nI_clamp (by omega), nI_s]
  refine ⟨hen, ?_⟩
  rintro _ rfl
  refine ⟨c1, ?_⟩
  rintro _ rfl _ rfl
  exact hQ _ _ _ B2
theorem z_go16 {n h : Nat} (hok : okS σ) (hg : g < 3) (hsi : okP σ.1 (n, h)) {Q : ModV → Prop} (hQ : ∀ z' few' line' c' Done', rZw z' σ → BG σ.1 (σ.2.2.1.2.1 g) goal st enM (-4) i (n, h) di few' line' c' Done' → (∀ t, Ed σ.1 (σ.2.2.1.2.1 g) (n, h) t → Done' t) → Q (setW w z' few' line' (nI c'))) : ∀ k d z few line c Done, d + k = 10 → rZw z σ → BG σ.1 (σ.2.2.1.2.1 g) goal st enM (-4) i (n, h) di few line c Done → (∀ e, e < d → ∀ t, EdD σ.1 (σ.2.2.1.2.1 g) e (n, h) t → Done t) → wp_X9_goOn_L16 (nI g) (nI (enM (n, h))) (nI h) (nI n) Q (k + 1) (nI d) (setW w z few line (nI c)) := by
  obtain ⟨hn, hh, hind⟩ := id hsi
  have hn : n < 1024 := hn
  have hh : h < 6 := hh
  have hen : enM (n, h) < 6144 := (EN_M σ.1).1 _ hsi
  intro k
  induction k with
  | zero =>
    intro d z few line c Done hd hz B hD
    have hd : d = 10 := by omega
    subst hd
    exact ⟨fun _ => hQ _ _ _ _ _ hz B (fun t ht => by obtain ⟨e, he, ht⟩ := ht; exact hD e he t ht), fun y => absurd (ge_self _) y⟩
  | succ k ih =>
    intro d z few line c Done hd hz B hD
    have hd10 : d < 10 := by omega
    obtain ⟨σ', Z, s1, s2⟩ := hz
    have hks := (hok.2.2.2 g hg).2
    have nxt : ∀ z few line c Done', rZw z σ → BG σ.1 (σ.2.2.1.2.1 g) goal st enM (-4) i (n, h) di few line c Done' → (∀ t, Done t → Done' t) → (∀ t, EdD σ.1 (σ.2.2.1.2.1 g) d (n, h) t → Done' t) → ∀ y : Int32, y = nI d + (1 : Int32) → wp_X9_goOn_L16 (nI g) (nI (enM (n, h))) (nI h) (nI n) Q (k + 1) y (setW w z few line (nI c)) := by
      rintro z few line c Done' hz B' h1 h2 _ rfl
      rw [nI_s]
      refine ih (d + 1) z few line c Done' (by omega) hz B' (fun e he t ht => ?_)
      by_cases hed : e = d
      · subst hed; exact h2 t ht
      · exact h1 t (hD e (by omega) t ht)
    refine ⟨fun y => absurd y (ge_no hd10 (by decide)), fun _ => z_laySet (v := setW w z few line (nI c)) Z hn (fun z1 Z1 => ?_)⟩
    rw [s1] at Z1
    obtain ⟨σ1, e1⟩ : ∃ σ1 : SS2, σ1 = (σ.1, n, σ'.2.2) := ⟨_, rfl⟩
    have l1 : σ1.1 = σ.1 := by rw [e1]
    have l2 : σ1.2.1 = n := by rw [e1]
    have l3 : σ1.2.2.1 = σ.2.2.1 := by rw [e1]; exact s2
    rw [← e1] at Z1
    have hok1 : okS σ1 := by
      refine ⟨by rw [l1]; exact hok.1, by rw [l2]; exact hn, ?_, by rw [l3]; exact hok.2.2.2⟩
      rw [l1, l2]
      exact (indep_iff _ _).mpr hind
    have hz1 : rZw z1 σ := ⟨σ1, Z1, l1, l3⟩
    have few1 : few (nI (enM (n, h))).toNatClampNeg = nI di := by
      rw [nI_clamp (by omega)]
      exact (bg_fewi B).1
    have vin : vp_in (nI (enM (n, h))) 6144 := vp_in_nI hen (by decide)
    have b95 : (¬ (jn σ.1 d h = true ∧ n.testBit d = true)) → wp_X9_goOn_B95 (nI g) (nI (enM (n, h))) (nI h) (nI n) (nI d) (setW w z1 few line (nI c)) Q (wp_X9_goOn_L16 (nI g) (nI (enM (n, h))) (nI h) (nI n) Q (k + 1)) := by
      intro hno
      refine z_joins (v := setW w z1 few line (nI c)) Z1 hok1.1 hd10 hh ?_
      rw [l1]
      cases hj : jn σ.1 d h
      · refine ⟨fun _ => nxt _ _ _ _ Done hz1 B (fun t ht => ht) (fun t ht => ?_), fun y => absurd rfl y⟩
        have : jn σ.1 d h = true := ht.1
        rw [this] at hj; cases hj
      · have hnb : n.testBit d = false := by
          cases hb : n.testBit d with
          | false => rfl
          | true => exact absurd ⟨hj, hb⟩ hno
        refine ⟨fun y => absurd y one0, fun _ => z_hasKey (v := setW w z1 few line (nI c)) Z1 hok1 hg hd10 ?_⟩
        rw [l3]
        cases hk : (σ.2.2.1.2.1 g).testBit d
        · refine ⟨fun _ => nxt _ _ _ _ Done hz1 B (fun t ht => ht) (fun t ht => ?_), fun y => absurd rfl y⟩
          obtain ⟨-, ht | ht⟩ := ht
          · have : n.testBit d = true := ht.1
            rw [this] at hnb; cases hnb
          · have := ht.2.1
            rw [this] at hk; cases hk
        · refine ⟨fun y => absurd y one0, fun _ => z_reason (v := setW w z1 few line (nI c)) Z1 hok1.1 hd10 ?_⟩
          rw [l1, l2]
          have h7 := rsn_lt σ.1 n d
          rw [l0, q_eq (by omega) (by decide)]
          refine ⟨fun y => nxt _ _ _ _ Done hz1 B (fun t ht => ht) (fun t ht => ?_), fun y => ?_⟩
          · obtain ⟨-, ht | ht⟩ := ht
            · have : n.testBit d = true := ht.1
              rw [this] at hnb; cases hnb
            · have a3 : (held σ.1 n).testBit d = false := ht.2.2.1
              refine absurd ?_ y
              unfold rsn
              rw [hnb, a3]; rfl
          · have hhd : (held σ.1 n).testBit d = false := by
              unfold rsn at y
              rw [hnb] at y
              cases hx : (held σ.1 n).testBit d with
              | false => rfl
              | true => rw [hx] at y; cases y
            have hE : EdD σ.1 (σ.2.2.1.2.1 g) d (n, h) (afterO σ.1 n d, h) := ⟨hj, Or.inr ⟨hnb, hk, hhd, rfl⟩⟩
            have hop : σ1.2.1 < 1024 := hok1.2.1
            have hz2 : ∀ z2, rZ z2 (opS σ1 d) → rZw z2 σ := fun z2 h2 => ⟨_, h2, l1, l3⟩
            have eO : (opS σ1 d).2.1 = afterO σ.1 n d := by
              show afterO σ1.1 σ1.2.1 d = _
              rw [l1, l2]
            refine z_opens (v := setW w z1 few line (nI c)) Z1 hok1.1 hop hd10 (fun z2 Z2 => ?_)
            refine z_openSet (v := setW w z2 few line (nI c)) Z2 (by rw [eO]; exact afterO_lt _ hn hd10) ?_
            rw [eO]
            refine ⟨vin, ?_⟩
            show wp_X9_reach (setW w z2 few line (nI c)) ((1024 : Int32) * nI h + nI (afterO σ.1 n d)) (few (nI (enM (n, h))).toNatClampNeg + 1) _
            rw [few1, nI_s, l1km, nI_add]
            refine z_reachW (s := (afterO σ.1 n d, h)) B (EdD_ok hok.1 hd10 hsi hE) ⟨d, hd10, hE⟩ (fun few' line' c' B' => nxt _ _ _ _ _ (hz2 z2 Z2) B' (fun t ht => Or.inl ht) (fun t ht => ?_))
            obtain ⟨-, ht | ht⟩ := ht
            · have : n.testBit d = true := ht.1
              rw [this] at hnb; cases hnb
            · exact Or.inr ht.2.2.2
    refine z_joins (v := setW w z1 few line (nI c)) Z1 hok1.1 hd10 hh ?_
    rw [l1]
    cases hj : jn σ.1 d h
    · exact ⟨fun _ => b95 (fun y => by rw [hj] at y; cases y.1), fun y => absurd rfl y⟩
    · refine ⟨fun y => absurd y one0, fun _ => z_isOpen (v := setW w z1 few line (nI c)) Z1 hd10 ?_⟩
      rw [l2]
      cases hb : n.testBit d
      · exact ⟨fun _ => b95 (fun y => by rw [hb] at y; cases y.2), fun y => absurd rfl y⟩
      · refine ⟨fun y => absurd y one0, fun _ => z_across (v := setW w z1 few line (nI c)) Z1 hok1.1 hd10 hh ?_⟩
        rw [l1]
        have hE1 : EdD σ.1 (σ.2.2.1.2.1 g) d (n, h) (n, acr σ.1 d h) := ⟨hj, Or.inl ⟨hb, Or.inl rfl⟩⟩
        have hE2 : EdD σ.1 (σ.2.2.1.2.1 g) d (n, h) (dif n (2 ^ d), h) := ⟨hj, Or.inl ⟨hb, Or.inr rfl⟩⟩
        refine ⟨vin, ?_⟩
        show wp_X9_reach (setW w z1 few line (nI c)) ((1024 : Int32) * nI (acr σ.1 d h) + nI n) (few (nI (enM (n, h))).toNatClampNeg + 1) _
        rw [few1, nI_s, l1km, nI_add]
        refine z_reachW (s := (n, acr σ.1 d h)) B (EdD_ok hok.1 hd10 hsi hE1) ⟨d, hd10, hE1⟩ (fun few' line' c' B' => ⟨vin, ?_⟩)
        have few2 : few' (nI (enM (n, h))).toNatClampNeg = nI di := by
          rw [nI_clamp (by omega)]
          exact (bg_fewi B').1
        show wp_X9_reach (setW w z1 few' line' (nI c')) (nI (enM (n, h)) - ((1 : Int32) <<< (nI d &&& 31))) (few' (nI (enM (n, h))).toNatClampNeg + 1) _
        have hda := dif_add n hn d hd10 hb
        have e3 : enM (n, h) - 2 ^ d = enM (dif n (2 ^ d), h) := by
          show 1024 * h + n - 2 ^ d = 1024 * h + dif n (2 ^ d)
          omega
        rw [few2, nI_s, q_sh1 (by omega), pk_sub (by show 2 ^ d ≤ 1024 * h + n; omega), e3]
        refine z_reachW (s := (dif n (2 ^ d), h)) B' (EdD_ok hok.1 hd10 hsi hE2) ⟨d, hd10, hE2⟩ (fun few'' line'' c'' B'' => nxt _ _ _ _ _ hz1 B'' (fun t ht => Or.inl (Or.inl ht)) (fun t ht => ?_))
        obtain ⟨-, ht | ht⟩ := ht
        · rcases ht.2 with rfl | rfl
          · exact Or.inl (Or.inr rfl)
          · exact Or.inr rfl
        · have : n.testBit d = false := ht.1
          rw [this] at hb; cases hb
theorem z_goOn {n h : Nat} (hok : okS σ) (hg : g < 3) (hsi : okP σ.1 (n, h)) {z few line : Nat → Int32} {c : Nat} {Done : Sp → Prop} {Q : ModV → Prop} (hz : rZw z σ) (B : BG σ.1 (σ.2.2.1.2.1 g) goal st enM (-4) i (n, h) di few line c Done) (hQ : ∀ z' few' line' c' Done', rZw z' σ → BG σ.1 (σ.2.2.1.2.1 g) goal st enM (-4) i (n, h) di few' line' c' Done' → (∀ t, Ed σ.1 (σ.2.2.1.2.1 g) (n, h) t → Done' t) → Q (setW w z' few' line' (nI c'))) : wp_X9_goOn (setW w z few line (nI c)) (nI g) (nI (enM (n, h))) Q := by
  obtain ⟨hn, hh, hind⟩ := id hsi
  have hn : n < 1024 := hn
  have hh : h < 6 := hh
  have hen : enM (n, h) < 6144 := (EN_M σ.1).1 _ hsi
  have ee : enM (n, h) = 1024 * h + n := rfl
  have e1 : enM (n, h) / 1024 = h := by omega
  have e2 : enM (n, h) % 1024 = n := by omega
  unfold wp_X9_goOn
  rw [q_mod1k _ (by omega), q_div1k (by omega), e1, e2]
  rintro _ rfl _ rfl
  exact ⟨11, z_go16 hok hg hsi hQ 10 0 z few line c Done rfl hz B (fun e he => absurd he (Nat.not_lt_zero e))⟩
end WaysZ
