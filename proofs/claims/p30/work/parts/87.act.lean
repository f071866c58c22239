/-! PURE: the law's changes -/
def refd (σ : SS2) : Int32 := σ.2.2.2.2.2.2.2.2.2
theorem pc_dif {a b : Nat} (hs : ∀ x, a.testBit x = true → b.testBit x = true) : pc b = pc a + pc (dif b a) := by
  have e : b = a ||| dif b a := bits_eq (fun x => by
    rw [Nat.testBit_or, dif_bit]
    have := hs x
    cases h1 : a.testBit x <;> cases h2 : b.testBit x <;> simp_all)
  have h1 : pc (a ||| dif b a) = pc a + pc (dif b a) := pc_or (fun i => by
    rw [dif_bit]
    cases a.testBit i <;> simp)
  rw [← e] at h1
  exact h1
theorem op_count {σ : SS2} {d : Nat} (hok : okS σ) (hd : d < 10) (hr : rsn σ.1 σ.2.1 d = 0) : opA σ d + pc (afterO σ.1 σ.2.1 d) = 11 + pc σ.2.1 := by
  have hnd : σ.2.1.testBit d = false := by
    unfold rsn at hr
    cases hb : σ.2.1.testBit d with
    | false => rfl
    | true => rw [hb, if_pos rfl] at hr; exact absurd hr (by decide)
  have htd : (tg σ.1 d).testBit d = false := by
    have hk := hok.1.1 d hd
    rw [tg_bit]
    have y1 : (σ.1.1 d == d) = false := by simpa using hk.2.2.1
    have y2 : (σ.1.2.1 d == d) = false := by simpa using hk.2.2.2.1
    rw [y1, y2]; rfl
  have hsub : ∀ e, (afterO σ.1 σ.2.1 d).testBit e = true → (afterC σ.1 σ.2.1 d).testBit e = true := fun e h => drF_sub σ.1 d _ 6 e h
  have h1 := pc_dif hsub
  have h2 : pc (σ.2.1 ||| 2 ^ d) = pc (afterC σ.1 σ.2.1 d) + pc (dif (σ.2.1 ||| 2 ^ d) (afterC σ.1 σ.2.1 d)) := pc_dif (fun x hx => by
    rw [afterC_bit, Bool.and_eq_true] at hx
    rw [Nat.testBit_or, Nat.testBit_two_pow]
    exact hx.1)
  have h3 : pc (σ.2.1 ||| 2 ^ d) = pc σ.2.1 + pc (2 ^ d) := pc_or (fun i => by
    rw [Nat.testBit_two_pow, decide_eq_true_eq]
    rintro ⟨z, rfl⟩
    rw [hnd] at z; cases z)
  have h4 : dif (σ.2.1 ||| 2 ^ d) (afterC σ.1 σ.2.1 d) = dif σ.2.1 (afterC σ.1 σ.2.1 d) := bits_eq (fun x => by
    rw [dif_bit, dif_bit, Nat.testBit_or, Nat.testBit_two_pow]
    by_cases hx : d = x
    · subst hx
      have hC : (afterC σ.1 σ.2.1 d).testBit d = true := by
        rw [afterC_bit, htd]; simp
      rw [hC]; simp
    · simp [hx])
  have h5 : pc (dif σ.2.1 (afterC σ.1 σ.2.1 d) ||| dif (afterC σ.1 σ.2.1 d) (afterO σ.1 σ.2.1 d)) = pc (dif σ.2.1 (afterC σ.1 σ.2.1 d)) + pc (dif (afterC σ.1 σ.2.1 d) (afterO σ.1 σ.2.1 d)) := pc_or (fun i => by
    rw [dif_bit, dif_bit]
    cases (afterC σ.1 σ.2.1 d).testBit i <;> simp)
  rw [pc_2 d hd] at h3
  rw [h4] at h2
  unfold opA
  omega
theorem dif_sub : ∀ d, d < 10 → ∀ n, n < 1024 → n.testBit d = true → dif n (2 ^ d) + 2 ^ d = n := by decide +kernel
section Act
variable {v : CDV} {σ : SS2} {hs : Nat → SS2} {k d g n m y : Nat} {sn : Option SS2} {Q : Int32 → CDV → Prop}
/-- what is asked of a change -/
def AQ (σ : SS2) (hs : Nat → SS2) (k : Nat) (sn : Option SS2) (n : Nat) (deed : Prop) (Q : Int32 → CDV → Prop) : Prop :=
  ∀ v' σ' (a : Nat), RC v' σ' (pushH hs k σ) (pushK k) sn → GI σ' (n + 1) → a < 2000 → (a < 10 → deed → refd σ' = refd σ + 1) → (¬ (a < 10 ∧ deed) → refd σ' = refd σ) → Q (nI a) v'
theorem oA_lt (σ : SS2) (r d : Nat) (hr : r < 7) : oA σ r d < 2000 := by
  unfold oA opA
  have := pc_le (dif σ.2.1 (afterC σ.1 σ.2.1 d) ||| dif (afterC σ.1 σ.2.1 d) (afterO σ.1 σ.2.1 d))
  split <;> omega
theorem ac185 {deed : Prop} (hdeed : deed) {v' : CDV} {r : Nat} (R : RC v σ hs k sn) (G : GI σ n) (hd : d < 10) (hr : r < 7) (h0 : r = 0 → rsn σ.1 σ.2.1 d = 0) (R' : RC v' (oU σ r d) (pushH hs k σ) (pushK k) sn) (hQ : AQ σ hs k sn n deed Q) : wp_L_act_B185 (nI σ.2.1) (nI r) (nI (if rsn σ.1 σ.2.1 d = 0 then afterO σ.1 σ.2.1 d else σ.2.1)) (nI (oA σ r d)) v' Q := by
  have hok := R.1.1
  have hop := hok.2.1
  have hO := afterO_lt σ.1 hop hd
  have G' := GI_mono (GI_oU (r := r) G hok hd h0) (Nat.le_succ n)
  have hlt := oA_lt σ r d hr
  unfold wp_L_act_B185
  rw [l0, q_le (by omega) (by decide)]
  refine ⟨fun z => ?_, fun z => ?_⟩
  · have z0 : r = 0 := by omega
    have hr0 := h0 z0
    rw [if_pos hr0]
    refine t_size hop (t_size hO ?_)
    have eA : oA σ r d = opA σ d := if_pos z0
    have eU : oU σ r d = opS σ d := if_pos z0
    have hc := op_count hok hd hr0
    have p1 := pc_le (afterO σ.1 σ.2.1 d)
    have p2 := pc_le σ.2.1
    refine ⟨fun x => absurd ?_ x, fun _ => t_count (w := 0) R'.1 (by decide) ⟨fun _ => ⟨fun x => absurd ?_ x, fun _ => ?_⟩, fun x => absurd ?_ x⟩⟩
    · rw [eA, show (11 : Int32) = nI 11 from rfl, nI_add, pk_sub (by omega)]
      congr 1
      omega
    · rw [eU]; rfl
    · refine hQ _ _ _ R' G' hlt (fun x => ?_) (fun _ => ?_)
      · rw [eA] at x
        unfold opA at x
        omega
      · rw [eU]; rfl
    · rw [z0]; exact ge_self _
  · have z0 : ¬ r = 0 := by omega
    have eA : oA σ r d = r := if_neg z0
    have eU : oU σ r d = reS σ := if_neg z0
    refine ⟨fun x => absurd ?_ x, fun _ => t_count (w := 0) R'.1 (by decide) ⟨fun x => absurd x ?_, fun _ => ⟨fun x => absurd ?_ x, fun _ => ?_⟩⟩⟩
    · rw [eA]
    · rw [l0, q_le (by omega) (by decide)]
      exact z
    · rw [eU]; rfl
    · refine hQ _ _ _ R' G' hlt (fun _ _ => ?_) (fun x => absurd ⟨?_, hdeed⟩ x)
      · rw [eU]; rfl
      · rw [eA]; omega
theorem ac152s {deed : Prop} (hdeed : deed) (R : RC v σ hs k sn) (G : GI σ n) (hd : d < 10) (hQ : AQ σ hs k sn n deed Q) : wp_L_act_B152 (nI d) (nI g) (nI σ.2.1) 1 (nI (rsn σ.1 σ.2.1 d)) v Q :=
  t_ifOpened R.1 hd ⟨fun z => absurd z one0, fun _ => t_open R hd (fun _ R' => ac185 hdeed R G hd (rsn_lt _ _ _) id R' hQ)⟩
theorem ac152g {deed : Prop} (hdeed : deed) (R : RC v σ hs k sn) (G : GI σ n) (hg : g < 3) (hd : d < 10) (hQ : AQ σ hs k sn n deed Q) : wp_L_act_B152 (nI d) (nI g) (nI σ.2.1) 0 (nI (rsnG σ g d)) v Q :=
  t_ifOpened R.1 hd ⟨fun _ => t_guestOpens R hg hd (fun _ R' => ac185 hdeed R G hd (rsnG_lt _ _ _) rsnG_0 R' hQ), fun z => absurd rfl z⟩
def jb (σ : SS2) (g d : Nat) : Int32 := if jn σ.1 d (σ.2.2.1.1 g) then 1 else 0
theorem ac105s {deed : Prop} (hdeed : deed) (R : RC v σ hs k sn) (G : GI σ n) (hd : d < 10) (hQ : AQ σ hs k sn n deed Q) : wp_L_act_B105 (nI d) (nI g) (jb σ g d) (nI σ.2.1) 1 v Q :=
  ⟨fun _ => ⟨fun _ => t_whyNot R.1 hd (ac152s hdeed R G hd hQ), fun z => absurd z one0⟩, fun z => absurd z one0⟩
theorem ac105g {deed : Prop} (hdeed : deed) (R : RC v σ hs k sn) (G : GI σ n) (hg : g < 3) (hd : d < 10) (hQ : AQ σ hs k sn n deed Q) : wp_L_act_B105 (nI d) (nI g) (jb σ g d) (nI σ.2.1) 0 v Q := by
  have h := ac152g hdeed R G hg hd hQ
  have hk := (R.1.1.2.2.2 g hg).2
  unfold rsnG at h
  unfold jb
  cases hj : jn σ.1 d (σ.2.2.1.1 g) <;> rw [hj] at h
  · exact ⟨fun z => absurd rfl z, fun _ => ⟨fun z => absurd rfl z, fun _ => h⟩⟩
  · refine ⟨fun z => absurd rfl z, fun _ => ⟨fun _ => ⟨fun z => absurd rfl z, fun _ => t_guest (w := 1) R.1 hg (by decide) ?_⟩, fun z => absurd z one0⟩⟩
    have e1 : guestA σ g 1 = nI (σ.2.2.1.2.1 g) := rfl
    rw [e1, q_has (by omega) (by omega)]
    cases hb : (σ.2.2.1.2.1 g).testBit d <;> rw [hb] at h
    · exact ⟨fun z => absurd rfl z, fun _ => h⟩
    · exact ⟨fun _ => t_whyNot R.1 hd h, fun z => absurd z (by decide)⟩
theorem ac311 {deed : Prop} (hdeed : deed) {v' : CDV} {r : Nat} (R : RC v σ hs k sn) (G : GI σ n) (hd : d < 10) (hr : r < 7) (h0 : r = 0 → σ.2.1.testBit d = true) (R' : RC v' (sU σ r d) (pushH hs k σ) (pushK k) sn) (hQ : AQ σ hs k sn n deed Q) : wp_L_act_B311 (nI d) (nI σ.2.1) (nI r) (nI (sA r)) v' Q := by
  have hop := R.1.1.2.1
  have G' := GI_mono (GI_sU (r := r) G hd h0) (Nat.le_succ n)
  have eq0 : (nI r ≤ (0 : Int32)) = (r ≤ 0) := by rw [l0, q_le (by omega) (by decide)]
  unfold wp_L_act_B311 wp_L_act_B327
  rw [eq0]
  refine ⟨fun z => ?_, fun z => ?_⟩
  · have z0 : r = 0 := by omega
    have eA : sA r = 10 := if_pos z0
    have eU : sU σ r d = shS σ d := if_pos z0
    have hs1 := dif_sub d hd σ.2.1 hop (h0 z0)
    refine ⟨fun x => absurd ?_ x, fun _ => t_count (w := 0) R'.1 (by decide) ⟨fun _ => ⟨fun x => absurd ?_ x, fun _ => ?_⟩, fun x => absurd z x⟩⟩
    · rw [eA]; rfl
    · rw [eU, q_sh1 (by omega), pk_sub (by omega)]
      show nI (dif σ.2.1 (2 ^ d)) = _
      congr 1
      omega
    · rw [eA]
      refine hQ _ _ 10 R' G' (by decide) (fun x => absurd x (by decide)) (fun _ => ?_)
      rw [eU]; rfl
  · have z0 : ¬ r = 0 := by omega
    have eA : sA r = r := if_neg z0
    have eU : sU σ r d = reS σ := if_neg z0
    refine ⟨fun x => absurd ?_ x, fun _ => t_count (w := 0) R'.1 (by decide) ⟨fun x => absurd x z, fun _ => ⟨fun x => absurd ?_ x, fun _ => ?_⟩⟩⟩
    · rw [eA]
    · rw [eU]; rfl
    · refine hQ _ _ _ R' G' (by omega) (fun _ _ => ?_) (fun x => absurd ⟨by omega, hdeed⟩ x)
      rw [eU]; rfl
theorem ac287s {deed : Prop} (hdeed : deed) (R : RC v σ hs k sn) (G : GI σ n) (hd : d < 10) (hQ : AQ σ hs k sn n deed Q) : wp_L_act_B287 (nI d) (nI g) (nI σ.2.1) 1 (nI (if σ.2.1.testBit d then 0 else 3)) v Q :=
  ⟨fun z => absurd z one0, fun _ => t_shut R hd (fun _ R' => ac311 hdeed R G hd (by split <;> decide) (fun z => by
    cases hb : σ.2.1.testBit d with
    | true => rfl
    | false => rw [hb] at z; exact absurd z (by decide)) R' hQ)⟩
theorem rsnU_0 {g d : Nat} (h : rsnU σ g d = 0) : jn σ.1 d (σ.2.2.1.1 g) = true ∧ σ.2.1.testBit d = true := by
  unfold rsnU at h
  cases hj : jn σ.1 d (σ.2.2.1.1 g) <;> cases hb : σ.2.1.testBit d <;> rw [hj, hb] at h
  · exact absurd h (by decide)
  · exact absurd h (by decide)
  · exact absurd h (by decide)
  · exact ⟨rfl, rfl⟩
theorem ac287g {deed : Prop} (hdeed : deed) (R : RC v σ hs k sn) (G : GI σ n) (hg : g < 3) (hd : d < 10) (hQ : AQ σ hs k sn n deed Q) : wp_L_act_B287 (nI d) (nI g) (nI σ.2.1) 0 (nI (rsnU σ g d)) v Q :=
  ⟨fun _ => t_guestShuts R hg hd (fun _ R' => ac311 hdeed R G hd (rsnU_lt _ _ _) (fun z => (rsnU_0 z).2) R' hQ), fun z => absurd rfl z⟩
theorem ac261s {deed : Prop} (hdeed : deed) (R : RC v σ hs k sn) (G : GI σ n) (hd : d < 10) (hQ : AQ σ hs k sn n deed Q) : wp_L_act_B261 (nI d) (nI g) (jb σ g d) (obA σ d) (nI σ.2.1) 1 v Q := by
  have h := ac287s (g := g) hdeed R G hd hQ
  refine ⟨fun _ => ?_, fun z => absurd z one0⟩
  cases hb : σ.2.1.testBit d <;> rw [hb] at h
  · rw [ob_f hb]; exact ⟨fun _ => h, fun z => absurd rfl z⟩
  · rw [ob_t hb]; exact ⟨fun z => absurd z one0, fun _ => h⟩
theorem ac261g {deed : Prop} (hdeed : deed) (R : RC v σ hs k sn) (G : GI σ n) (hg : g < 3) (hd : d < 10) (hQ : AQ σ hs k sn n deed Q) : wp_L_act_B261 (nI d) (nI g) (jb σ g d) (obA σ d) (nI σ.2.1) 0 v Q := by
  have h := ac287g hdeed R G hg hd hQ
  unfold rsnU at h
  unfold jb
  cases hj : jn σ.1 d (σ.2.2.1.1 g) <;> rw [hj] at h
  · exact ⟨fun z => absurd rfl z, fun _ => ⟨fun z => absurd rfl z, fun _ => h⟩⟩
  · refine ⟨fun z => absurd rfl z, fun _ => ⟨fun _ => ?_, fun z => absurd z one0⟩⟩
    cases hb : σ.2.1.testBit d <;> rw [hb] at h
    · rw [ob_f hb]; exact ⟨fun _ => h, fun z => absurd rfl z⟩
    · rw [ob_t hb]; exact ⟨fun z => absurd z one0, fun _ => h⟩
theorem mm_acr {L : LoS} {d h : Nat} (hj : jn L d h = true) : min (L.2.2.1 d) (L.2.2.2.1 d) + max (L.2.2.1 d) (L.2.2.2.1 d) - h = acr L d h ∧ h ≤ min (L.2.2.1 d) (L.2.2.2.1 d) + max (L.2.2.1 d) (L.2.2.2.1 d) := by
  unfold jn at hj
  rw [Bool.or_eq_true, beq_iff_eq, beq_iff_eq] at hj
  unfold acr
  split <;> omega
theorem ac417 {deed : Prop} (hdeed : deed) {x10 : Int32} (R : RC v σ hs k sn) (G : GI σ n) (hg : g < 3) (hd : d < 10) (hx : rsnU σ g d = 0 → x10 = nI (acr σ.1 d (σ.2.2.1.1 g))) (hQ : AQ σ hs k sn n deed Q) : wp_L_act_B417 (nI d) (nI g) (nI (σ.2.2.1.1 g)) x10 (σ.2.2.1.2.2 g) (nI (rsnU σ g d)) v Q := by
  have hok := R.1.1
  have hr := rsnU_lt σ g d
  have ha := acr_lt hok.1 hd (σ.2.2.1.1 g)
  refine t_walk R hg hd (fun v' R' => ?_)
  have G' := GI_wU (d := d) G hg
  have eq0 : (nI (rsnU σ g d) ≤ (0 : Int32)) = (rsnU σ g d ≤ 0) := by rw [l0, q_le (by omega) (by decide)]
  unfold wp_L_act_B446 wp_L_act_B468
  rw [eq0]
  refine ⟨fun z => ?_, fun z => ?_⟩
  · have z0 : rsnU σ g d = 0 := by omega
    have eA : wA σ g d = 10 + acr σ.1 d (σ.2.2.1.1 g) := if_pos z0
    have eU : wU σ g d = wkS σ g d := if_pos z0
    rw [hx z0]
    refine ⟨fun x => absurd ?_ x, fun _ => t_guest (w := 0) R'.1 hg (by decide) ⟨fun _ => ⟨fun x => absurd ?_ x, fun _ => t_guest (w := 3) R'.1 hg (by decide) ⟨fun _ => ⟨fun x => absurd ?_ x, fun _ => ?_⟩, fun x => absurd z x⟩⟩, fun x => absurd z x⟩⟩
    · rw [eA, l10, nI_add]
    · rw [eU]
      show nI (updN σ.2.2.1.1 g (acr σ.1 d (σ.2.2.1.1 g)) g) = _
      unfold updN
      rw [if_pos rfl]
    · rw [eU]
      show upd σ.2.2.1.2.2 g (σ.2.2.1.2.2 g + 1) g = _
      rw [updS]
    · refine hQ _ _ _ R' G' (by omega) (fun x => ?_) (fun _ => ?_)
      · omega
      · rw [eU]; rfl
  · have z0 : ¬ rsnU σ g d = 0 := by omega
    have eA : wA σ g d = rsnU σ g d := if_neg z0
    have eU : wU σ g d = reS σ := if_neg z0
    refine ⟨fun x => absurd ?_ x, fun _ => t_guest (w := 0) R'.1 hg (by decide) ⟨fun x => absurd x z, fun _ => ⟨fun x => absurd ?_ x, fun _ => t_guest (w := 3) R'.1 hg (by decide) ⟨fun x => absurd x z, fun _ => ⟨fun x => absurd ?_ x, fun _ => ?_⟩⟩⟩⟩⟩
    · rw [eA]
    · rw [eU]; rfl
    · rw [eU]
      show σ.2.2.1.2.2 g = σ.2.2.1.2.2 g + 0
      rw [Int32.add_zero]
    · refine hQ _ _ _ R' G' (by omega) (fun _ _ => ?_) (fun x => absurd ⟨by omega, hdeed⟩ x)
      rw [eU]; rfl
theorem ac623e {o : Nat} {b x12 x13 : Int32} (R : RC v σ hs k sn) (hd : d < 10) (ho : o ≤ 10) (he : o = d ∨ (¬ o = 10 ∧ (if b = 0 then σ.1.2.1 d else σ.1.1 d) = o)) (h12 : x12 = if b = 0 then cdv (σ.1.2.1 d) else cdv (σ.1.1 d)) (h13 : x13 = if b = 0 then cdv (σ.1.1 d) else cdv (σ.1.2.1 d)) (hE : Q (-1) v) : wp_L_act_B623 (nI d) b (nI o) x12 x13 (-1) v Q := by
  refine t_cord R hd ho (fun _ => ⟨fun z => absurd rfl z, fun _ => ?_⟩) (fun z => absurd he z)
  have h3 : doorA σ d 3 = cdv (σ.1.1 d) := rfl
  have h4 : doorA σ d 4 = cdv (σ.1.2.1 d) := rfl
  refine ⟨fun hb => ?_, fun hb => ?_⟩
  · rw [if_pos hb] at h12 h13
    refine t_door (w := 3) R.1 hd (by decide) ⟨fun z => absurd z (by decide), fun _ => ⟨fun z => absurd ?_ z, fun _ => ⟨fun _ => t_door (w := 4) R.1 hd (by decide) ⟨fun z => absurd ?_ z, fun _ => hE⟩, fun z => absurd hb z⟩⟩⟩
    · rw [h3, h13]
    · rw [h4, h12]
  · rw [if_neg hb] at h12 h13
    refine t_door (w := 4) R.1 hd (by decide) ⟨fun z => absurd z (by decide), fun _ => ⟨fun z => absurd ?_ z, fun _ => ⟨fun z => absurd z hb, fun _ => t_door (w := 3) R.1 hd (by decide) ⟨fun z => absurd ?_ z, fun _ => hE⟩⟩⟩⟩
    · rw [h4, h13]
    · rw [h3, h12]
theorem ac623 {deed : Prop} (hdeed : deed) {o : Nat} {b x12 x13 : Int32} (R : RC v σ hs k sn) (G : GI σ n) (hd : d < 10) (ho : o ≤ 10) (he : ¬ (o = d ∨ (¬ o = 10 ∧ (if b = 0 then σ.1.2.1 d else σ.1.1 d) = o))) (h12 : x12 = if b = 0 then cdv (σ.1.2.1 d) else cdv (σ.1.1 d)) (h13 : x13 = if b = 0 then cdv (σ.1.1 d) else cdv (σ.1.2.1 d)) (hQ : AQ σ hs k sn n deed Q) : wp_L_act_B623 (nI d) b (nI o) x12 x13 (nI (lcA σ d o)) v Q := by
  have hA : lcA σ d o = 4 ∨ lcA σ d o = 10 := by unfold lcA; split <;> simp
  refine t_cord R hd ho (fun z => absurd z he) (fun _ v' R' => ⟨fun z => absurd rfl z, fun _ => ?_⟩)
  have G' := GI_mono (GI_lc (d := d) (o := o) (b := decide (¬ b = 0)) G) (Nat.le_succ n)
  have fin : Q (nI (lcA σ d o)) v' := by
    refine hQ _ _ _ R' G' (by omega) (fun x _ => ?_) (fun x => ?_)
    · have hl : lcR σ d o = true := by
        cases h : lcR σ d o with
        | true => rfl
        | false => unfold lcA at x; rw [h] at x; exact absurd x (by decide)
      unfold lcS
      rw [hl]; rfl
    · have hl : lcR σ d o = false := by
        cases h : lcR σ d o with
        | false => rfl
        | true => exact absurd ⟨by unfold lcA; rw [h]; decide, hdeed⟩ x
      unfold lcS
      rw [hl]; rfl
  -- what the two cords are now
  have c1 : ∀ σ' : SS2, doorA σ' d 3 = cdv (σ'.1.1 d) := fun _ => rfl
  have c2 : ∀ σ' : SS2, doorA σ' d 4 = cdv (σ'.1.2.1 d) := fun _ => rfl
  cases hl : lcR σ d o
  · have eS : lcS σ d (decide (¬ b = 0)) o = (setC σ.1 d (decide (¬ b = 0)) o, σ.2.1, σ.2.2) := by unfold lcS; rw [hl]; rfl
    have eA : lcA σ d o = 10 := by unfold lcA; rw [hl]; rfl
    have hco : (¬ nI o = (10 : Int32) → cdv o = nI o) ∧ (nI o = (10 : Int32) → cdv o = -4) := by
      rw [l10, q_eq (by omega) (by decide)]
      exact ⟨fun z => if_neg z, fun z => if_pos z⟩
    rw [eA] at fin ⊢
    rw [eS] at R'
    refine ⟨fun hb => ?_, fun hb => ?_⟩
    · rw [if_pos hb] at h12 h13
      have e1 : doorA (setC σ.1 d (decide (¬ b = 0)) o, σ.2.1, σ.2.2) d 3 = cdv o := by
        rw [c1]
        simp only [setC, hb, not_true_eq_false, decide_false, Bool.false_eq_true, if_false]
        unfold updN
        rw [if_pos rfl]
      have e2 : doorA (setC σ.1 d (decide (¬ b = 0)) o, σ.2.1, σ.2.2) d 4 = x12 := by
        rw [c2, h12]
        simp only [setC, hb, not_true_eq_false, decide_false, Bool.false_eq_true, if_false]
      have tail : wp_L_act_B686 (nI d) b x12 (nI 10) (cdv o) (cdv o) v' Q := ⟨fun z => absurd rfl z, fun _ => ⟨fun _ => t_door (w := 4) R'.1 hd (by decide) ⟨fun z => absurd e2 z, fun _ => fin⟩, fun z => absurd hb z⟩⟩
      refine t_door (w := 3) R'.1 hd (by decide) ⟨fun _ => ⟨fun z => ?_, fun z => ?_⟩, fun z => absurd (ge_self _) z⟩
      · rw [e1]
        have := hco.1 z
        rw [← this]
        exact tail
      · rw [e1]
        have := hco.2 z
        rw [this] at tail ⊢
        exact tail
    · rw [if_neg hb] at h12 h13
      have e1 : doorA (setC σ.1 d (decide (¬ b = 0)) o, σ.2.1, σ.2.2) d 4 = cdv o := by
        rw [c2]
        simp only [setC, hb, not_false_eq_true, decide_true, if_true]
        unfold updN
        rw [if_pos rfl]
      have e2 : doorA (setC σ.1 d (decide (¬ b = 0)) o, σ.2.1, σ.2.2) d 3 = x12 := by
        rw [c1, h12]
        simp only [setC, hb, not_false_eq_true, decide_true, if_true]
      have tail : wp_L_act_B686 (nI d) b x12 (nI 10) (cdv o) (cdv o) v' Q := ⟨fun z => absurd rfl z, fun _ => ⟨fun z => absurd z hb, fun _ => t_door (w := 3) R'.1 hd (by decide) ⟨fun z => absurd e2 z, fun _ => fin⟩⟩⟩
      refine t_door (w := 4) R'.1 hd (by decide) ⟨fun _ => ⟨fun z => ?_, fun z => ?_⟩, fun z => absurd (ge_self _) z⟩
      · rw [e1]
        have := hco.1 z
        rw [← this]
        exact tail
      · rw [e1]
        have := hco.2 z
        rw [this] at tail ⊢
        exact tail
  · have eS : lcS σ d (decide (¬ b = 0)) o = reS σ := by unfold lcS; rw [hl]; rfl
    have eA : lcA σ d o = 4 := by unfold lcA; rw [hl]; rfl
    rw [eA] at fin ⊢
    rw [eS] at R'
    have e3 : doorA (reS σ) d 3 = cdv (σ.1.1 d) := rfl
    have e4 : doorA (reS σ) d 4 = cdv (σ.1.2.1 d) := rfl
    refine ⟨fun hb => ?_, fun hb => ?_⟩
    · rw [if_pos hb] at h12 h13
      refine t_door (w := 3) R'.1 hd (by decide) ⟨fun z => absurd z (by decide), fun _ => ⟨fun z => absurd ?_ z, fun _ => ⟨fun _ => t_door (w := 4) R'.1 hd (by decide) ⟨fun z => absurd ?_ z, fun _ => fin⟩, fun z => absurd hb z⟩⟩⟩
      · rw [e3, h13]
      · rw [e4, h12]
    · rw [if_neg hb] at h12 h13
      refine t_door (w := 4) R'.1 hd (by decide) ⟨fun z => absurd z (by decide), fun _ => ⟨fun z => absurd ?_ z, fun _ => ⟨fun z => absurd z hb, fun _ => t_door (w := 3) R'.1 hd (by decide) ⟨fun z => absurd ?_ z, fun _ => fin⟩⟩⟩⟩
      · rw [e4, h13]
      · rw [e3, h12]
theorem ac564 {deed : Prop} (hdeed : deed) {o : Nat} {b x12 x13 : Int32} (R : RC v σ hs k sn) (G : GI σ n) (hd : d < 10) (ho : o ≤ 10) (h12 : x12 = if b = 0 then cdv (σ.1.2.1 d) else cdv (σ.1.1 d)) (h13 : x13 = if b = 0 then cdv (σ.1.1 d) else cdv (σ.1.2.1 d)) (hE : Q (-1) v) (hQ : AQ σ hs k sn n deed Q) : ((nI o = nI d) → wp_L_act_B590 (nI d) b (nI o) x12 x13 v Q) ∧ ((¬ nI o = nI d) → (((10 : Int32) ≤ nI o) → wp_L_act_B594 (nI d) (obA σ d) b (nI o) x12 x13 v Q) ∧ ((¬ (10 : Int32) ≤ nI o) → ((¬ nI o = x12) → wp_L_act_B594 (nI d) (obA σ d) b (nI o) x12 x13 v Q) ∧ ((nI o = x12) → wp_L_act_B590 (nI d) b (nI o) x12 x13 v Q))) := by
  have hcd := R.1.1.1.1 d hd
  have b594 : ¬ (o = d ∨ (¬ o = 10 ∧ (if b = 0 then σ.1.2.1 d else σ.1.1 d) = o)) → wp_L_act_B594 (nI d) (obA σ d) b (nI o) x12 x13 v Q := by
    intro he
    have h := ac623 hdeed R G hd ho he h12 h13 hQ
    have t10 : lcR σ d o = false → wp_L_act_B621 (nI d) b (nI o) x12 x13 v Q := by
      intro hl
      have eA : lcA σ d o = 10 := by unfold lcA; rw [hl]; rfl
      rw [eA] at h
      exact h
    unfold wp_L_act_B594
    rw [l10, q_le (by decide) (by omega)]
    refine ⟨fun z => t10 ?_, fun z => ⟨fun y => t10 ?_, fun y => t_door (w := 0) R.1 (by omega) (by decide) ?_⟩⟩
    · have : o = 10 := by omega
      unfold lcR; simp [this]
    · have hb : σ.2.1.testBit d = false := by
        cases h : σ.2.1.testBit d with
        | false => rfl
        | true => rw [ob_t h] at y; exact absurd y one0
      unfold lcR; simp [hb]
    · have hb : σ.2.1.testBit d = true := by
        cases h : σ.2.1.testBit d with
        | true => rfl
        | false => exact absurd (ob_f h) y
      rw [doorA0]
      cases hb2 : σ.2.1.testBit o
      · rw [ob_f hb2]
        exact ⟨fun _ => t10 (by unfold lcR; simp [hb2]), fun z => absurd z (by decide)⟩
      · rw [ob_t hb2]
        have hl : lcR σ d o = true := by unfold lcR; simp [hb, hb2]; omega
        have eA : lcA σ d o = 4 := by unfold lcA; rw [hl]; rfl
        rw [eA] at h
        exact ⟨fun z => absurd rfl z, fun _ => h⟩
  have b590 : (o = d ∨ (¬ o = 10 ∧ (if b = 0 then σ.1.2.1 d else σ.1.1 d) = o)) → wp_L_act_B590 (nI d) b (nI o) x12 x13 v Q := fun he => ac623e R hd ho he h12 h13 hE
  have ex : ¬ 10 ≤ o → (nI o = x12 ↔ (if b = 0 then σ.1.2.1 d else σ.1.1 d) = o) := by
    intro hx
    by_cases hb : b = 0
    · rw [if_pos hb] at h12 ⊢
      rw [h12]
      constructor
      · intro z
        have z := z.symm
        rw [cdv_eq (by omega) (by omega)] at z
        exact z
      · intro z
        rw [z]; exact (if_neg (by omega)).symm
    · rw [if_neg hb] at h12 ⊢
      rw [h12]
      constructor
      · intro z
        have z := z.symm
        rw [cdv_eq (by omega) (by omega)] at z
        exact z
      · intro z
        rw [z]; exact (if_neg (by omega)).symm
  rw [q_eq (by omega) (by omega), l10, q_le (by decide) (by omega)]
  refine ⟨fun z => b590 (Or.inl z), fun z => ⟨fun x => b594 ?_, fun x => ⟨fun y => b594 ?_, fun y => b590 (Or.inr ⟨by omega, (ex x).mp y⟩)⟩⟩⟩
  · rintro (h | h)
    · exact z h
    · omega
  · rintro (h | h)
    · exact z h
    · exact y ((ex x).mpr h.2)
theorem ac522 {deed : Prop} (hdeed : deed) {b : Int32} (hy : y < 2 ^ 31) (R : RC v σ hs k sn) (G : GI σ n) (hd : d < 10) (hE : Q (-1) v) (hQ : AQ σ hs k sn n deed Q) : wp_L_act_B522 (nI y) (nI d) (obA σ d) b v Q := by
  have e : (nI y / (20 : Int32)) - (nI y / (20 : Int32)) / (11 : Int32) * (11 : Int32) = nI (y / 20 % 11) := by
    rw [show nI y / (20 : Int32) = nI (y / 20) from pk_div (d := 20) hy (by decide) (by decide)]
    exact pk_rem (by omega) (by decide) (by decide)
  have ho : y / 20 % 11 ≤ 10 := by omega
  have h3 : doorA σ d 3 = cdv (σ.1.1 d) := rfl
  have h4 : doorA σ d 4 = cdv (σ.1.2.1 d) := rfl
  rintro _ rfl
  rw [e]
  refine ⟨fun hb => t_door (w := 4) R.1 hd (by decide) ⟨fun _ => t_door (w := 3) R.1 hd (by decide) ?_, fun z => absurd hb z⟩, fun hb => t_door (w := 3) R.1 hd (by decide) ⟨fun z => absurd z hb, fun _ => t_door (w := 4) R.1 hd (by decide) ?_⟩⟩
  · rw [h3, h4]
    exact ac564 hdeed R G hd ho (by rw [if_pos hb]) (by rw [if_pos hb]) hE hQ
  · rw [h3, h4]
    exact ac564 hdeed R G hd ho (by rw [if_neg hb]) (by rw [if_neg hb]) hE hQ
end Act
