/-! PURE: the law -/
theorem law_main (xs : Nat → Int32) (L : Nat) (hL : L ≤ 2048) : wp_L_law xs L True := by
  refine p_init (fun v hv => hv _ (fun w hw => ?_))
  have key : ∀ k j v w, RR v w → L ≤ 4 * j + k → 4 * j ≤ 2052 → wp_L_law_L18 xs L True (k + 1) (nI (4 * j)) v w := by
    intro k
    induction k with
    | zero =>
      intro j v w hR hk hj
      refine ⟨fun _ => trivial, fun z => absurd ?_ z⟩
      by_cases h4 : 4 ≤ L
      · rw [show Int32.ofNat L - (4 : Int32) = nI (L - 4) from pk_sub (b := 4) h4]
        exact nI_lt (by omega) (by omega)
      · have h0 : nI L - nI 4 < 0 := pk_sneg (by decide) (by omega)
        exact Int32.lt_of_lt_of_le h0 (nI_pos' (by omega))
    | succ k ih =>
      intro j v w hR hk hj
      refine ⟨fun _ => trivial, fun z => ?_⟩
      have h4 : 4 ≤ L ∧ 4 * j + 4 ≤ L := by
        by_cases h4 : 4 ≤ L
        · rw [show Int32.ofNat L - (4 : Int32) = nI (L - 4) from pk_sub (b := 4) h4, q_lt (by omega) (by omega)] at z
          omega
        · have h0 : nI L - nI 4 < 0 := pk_sneg (by decide) (by omega)
          exact absurd (Int32.lt_of_lt_of_le h0 (nI_pos' (n := 4 * j) (by omega))) z
      have v0 : vp_in (nI (4 * j)) L := vp_in_nI (by omega) (by omega)
      have v1 : vp_in (nI (4 * j) + (1 : Int32)) L := by rw [nI_s]; exact vp_in_nI (by omega) (by omega)
      have v2 : vp_in (nI (4 * j) + (2 : Int32)) L := by rw [nI_a2]; exact vp_in_nI (by omega) (by omega)
      have v3 : vp_in (nI (4 * j) + (3 : Int32)) L := by rw [nI_a3]; exact vp_in_nI (by omega) (by omega)
      have fin : ∀ v' w', RR v' w' → ∀ z : Int32, z = nI (4 * j) + (4 : Int32) → wp_L_law_L18 xs L True (k + 1) z v' w' := by
        rintro v' w' hR' _ rfl
        rw [show nI (4 * j) + (4 : Int32) = nI (4 * (j + 1)) from nI_add (4 * j) 4]
        exact ih (j + 1) v' w' hR' (by omega) (by omega)
      have nxt : ∀ (r : Int32) v' w', RR v' w' → ((r = r → ∀ z : Int32, z = nI (4 * j) + (4 : Int32) → wp_L_law_L18 xs L True (k + 1) z v' w') ∧ (¬ r = r → False)) := fun r v' w' h => ⟨fun _ => fin v' w' h, fun x => x rfl⟩
      refine ⟨v0, ?_⟩
      intro z11 _
      refine ⟨?_, ?_, ?_, ?_, ?_, ?_, ?_, ?_, ?_, ?_, ?_, ?_, ?_, ?_, ?_, ?_, ?_, ?_, ?_, ?_, ?_, ?_, ?_, ?_, ?_, ?_, ?_, ?_⟩
      · exact fun _ => ⟨v1, p_open hR (fun r v' h => ⟨v1, h _ (fun w' h' => nxt r v' w' h')⟩)⟩
      · exact fun _ => ⟨v1, p_shut hR (fun r v' h => ⟨v1, h _ (fun w' h' => nxt r v' w' h')⟩)⟩
      · have c : ∀ b : Int32, (b = 0 ∧ xs (nI (4 * j) + (2 : Int32)).toNatClampNeg = 0 ∨ b = 1 ∧ ¬ xs (nI (4 * j) + (2 : Int32)).toNatClampNeg = 0) → wp_L_law_B221 xs L (nI (4 * j)) (xs (nI (4 * j) + (1 : Int32)).toNatClampNeg) b v w True (wp_L_law_L18 xs L True (k + 1)) := by
          rintro b hb
          refine ⟨v3, p_cord hR (fun r v' h => ⟨v1, v2, fun y => ?_, fun y => ?_⟩)⟩
          · rcases hb with ⟨rfl, _⟩ | ⟨_, hb⟩
            · exact ⟨v3, h _ (fun w' h' => nxt r v' w' h')⟩
            · exact absurd y hb
          · rcases hb with ⟨_, hb⟩ | ⟨rfl, _⟩
            · exact absurd hb y
            · exact ⟨v3, h _ (fun w' h' => nxt r v' w' h')⟩
        exact fun _ => ⟨v1, v2, fun y => c 0 (Or.inl ⟨rfl, y⟩), fun y => c 1 (Or.inr ⟨rfl, y⟩)⟩
      · exact fun _ => ⟨v1, v2, v3, p_join hR (fun r v' h => ⟨v1, v2, v3, h _ (fun w' h' => nxt r v' w' h')⟩)⟩
      · exact fun _ => ⟨v1, v2, p_keys hR (fun r v' h => ⟨v1, v2, h _ (fun w' h' => nxt r v' w' h')⟩)⟩
      · exact fun _ => ⟨v1, p_draft hR (fun r v' h => ⟨v1, h _ (fun w' h' => nxt r v' w' h')⟩)⟩
      · exact fun _ => ⟨v1, v2, p_guestOpens hR (fun r v' h => ⟨v1, v2, h _ (fun w' h' => nxt r v' w' h')⟩)⟩
      · exact fun _ => ⟨v1, v2, p_guestShuts hR (fun r v' h => ⟨v1, v2, h _ (fun w' h' => nxt r v' w' h')⟩)⟩
      · exact fun _ => ⟨v1, v2, p_walk hR (fun r v' h => ⟨v1, v2, h _ (fun w' h' => nxt r v' w' h')⟩)⟩
      · exact fun _ => ⟨v1, p_append hR (fun r v' h => ⟨v1, h _ (fun w' h' => nxt r v' w' h')⟩)⟩
      · exact fun _ => p_clear hR (fun r v' h => h _ (fun w' h' => nxt r v' w' h'))
      · exact fun _ => p_fault hR (fun r h => h _ (fun w' h' => nxt r v w' h'))
      · exact fun _ => p_run hR (fun r v' h => h _ (fun w' h' => nxt r v' w' h'))
      · exact fun _ => ⟨v1, p_why hR (fun r h => ⟨v1, h _ (nxt r v w hR)⟩)⟩
      · exact fun _ => ⟨v1, v2, p_door hR (fun r h => ⟨v1, v2, h _ (nxt r v w hR)⟩)⟩
      · exact fun _ => ⟨v1, v2, p_hall hR (fun r h => ⟨v1, v2, h _ (nxt r v w hR)⟩)⟩
      · exact fun _ => ⟨v1, v2, p_guest hR (fun r h => ⟨v1, v2, h _ (nxt r v w hR)⟩)⟩
      · exact fun _ => ⟨v1, p_whyNot hR (fun r h => ⟨v1, h _ (nxt r v w hR)⟩)⟩
      · exact fun _ => ⟨v1, p_together hR (fun r h => ⟨v1, h _ (nxt r v w hR)⟩)⟩
      · exact fun _ => ⟨v1, p_can hR (fun r h => ⟨v1, h _ (nxt r v w hR)⟩)⟩
      · exact fun _ => ⟨v1, v2, v3, p_deeds hR (fun r v' h => ⟨v1, v2, v3, h _ (fun w' h' => nxt r v' w' h')⟩)⟩
      · exact fun _ => ⟨v1, p_count hR (fun r h => ⟨v1, h _ (nxt r v w hR)⟩)⟩
      · refine fun _ => p_tight hR (fun r h => ?_)
        rintro _ rfl
        refine h _ ?_
        rintro _ rfl
        exact ⟨fun _ => fin v w hR, fun y => ⟨fun x => absurd x y, fun _ => ⟨fun _ => fin v w hR, fun x => absurd x y⟩⟩⟩
      · exact fun _ => ⟨v1, v2, p_ifOpened hR (fun r h => ⟨v1, v2, h _ (fun w' h' => nxt r v w' h')⟩)⟩
      · exact fun _ => p_undo hR (fun r v' h => h _ (fun w' h' => nxt r v' w' h'))
      · exact fun _ => p_save hR (fun r v' h => h _ (fun w' h' => nxt r v' w' h'))
      · exact fun _ => p_restore hR (fun r v' h => h _ (fun w' h' => nxt r v' w' h'))
      · exact fun _ _ _ _ _ _ _ _ _ _ _ _ _ _ _ _ _ _ _ _ _ _ _ _ _ _ _ => fin v w hR
  exact ⟨L + 1, key L 0 v w hw (by omega) (by omega)⟩
