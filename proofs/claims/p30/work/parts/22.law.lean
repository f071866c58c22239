set_option maxHeartbeats 8000000 in
set_option maxRecDepth 100000 in
theorem law_V {p : Program} {e : Env} {s : State} {m : MethodId} {below : List Frame} {meth : Method} {c : Code} (l : Launch) {b L : Nat} {xs : Nat → Int32} (G : GG) (S : Fx p m c code 20 s #[Value.ref b] RL meth ret G (fun q : Nat => s.heap.size ≤ q)) (hX : va_X b L xs s s.heap) (hbl : b < s.heap.size) (Q : Prop) (hw : wp_L_law xs L Q) : V p l e room_1 s m #[Value.ref b] below meth c G (fun q : Nat => s.heap.size ≤ q) 20 0 0 (lw_Z below #[Value.ref b] s) [] 0 [(0, .ref b)] [] := by
  have B414 : ∀ (a0 : CDA) (x3 : Int64) (x5 : Int32) (x6 : Int32) (x14 : Int64) (x16 : Int32) (t0 : Int32) (t1 : Int32) (w0 : CDV) (K84 : Int32 → Int64 → Int32 → Int32 → CDV → Prop) (hK84 : ∀ (y0 : Int32) (y1 : Int64) (y2 : Int32) (y3 : Int32) (y4 : CDV), K84 y0 y1 y2 y3 y4 → V p l e room_1 s m #[Value.ref b] below meth c G (fun q : Nat => s.heap.size ≤ q) 20 600000 7302250 (lw_Z below #[Value.ref b] s) (wCD G a0 y4.1 y4.2.1 y4.2.2.1 y4.2.2.2.1 y4.2.2.2.2.1 y4.2.2.2.2.2.1 y4.2.2.2.2.2.2) 84 [(0, .ref b), (1, .ref a0.1), (2, .int y0), (3, .long y1), (5, .int y2), (6, .int y3)] []), wp_L_law_B414 xs L x3 x5 x6 x14 x16 t0 t1 w0 Q K84 → V p l e room_1 s m #[Value.ref b] below meth c G (fun q : Nat => s.heap.size ≤ q) 20 600000 7302250 (lw_Z below #[Value.ref b] s) (wCD G a0 w0.1 w0.2.1 w0.2.2.1 w0.2.2.2.1 w0.2.2.2.2.1 w0.2.2.2.2.2.1 w0.2.2.2.2.2.2) 414 [(0, .ref b), (1, .ref a0.1), (3, .long x3), (5, .int x5), (6, .int x6), (14, .long x14), (16, .int x16)] [.int t1, .int t0] := by
    intro a0 x3 x5 x6 x14 x16 t0 t1 w0 K84 hK84 hw
    refine v_icmp_ne (pc2 := 417) (tgt := 474) S dL_law_414 (by decide) rfl (fun c50 => ?_) (fun c50 => ?_)
    · have hw := hw.1 c50
      refine v_iconst (v := 0) (pc2 := 475) S dL_law_474 (by decide) rfl ?_
      refine v_istore_n (lv2 := [(0, .ref b), (1, .ref a0.1), (2, .int (0 : Int32)), (3, .long x3), (5, .int x5), (6, .int x6), (14, .long x14), (16, .int x16)]) (pc2 := 476) S dL_law_475 rfl (by decide) [1, 2, 0, 3, 4, 5, 6, 7] rfl rfl ?_
      refine v_lload (pc2 := 478) S 6 dL_law_476 rfl rfl ?_
      refine v_nml (fun z51 ez51 => ?_)
      have hw := hw z51 ez51
      refine v_lstore_n (lv2 := [(0, .ref b), (1, .ref a0.1), (2, .int (0 : Int32)), (3, .long z51), (5, .int x5), (6, .int x6), (14, .long x14), (16, .int x16)]) (pc2 := 479) S dL_law_478 rfl (by decide) [1, 2, 3, 0, 4, 5, 6, 7] rfl rfl ?_
      refine v_iload (pc2 := 481) S 7 dL_law_479 rfl rfl ?_
      refine v_istore (lv2 := [(0, .ref b), (1, .ref a0.1), (2, .int (0 : Int32)), (3, .long z51), (5, .int x16), (6, .int x6), (14, .long x14), (16, .int x16)]) (pc2 := 483) S dL_law_481 (by decide) [1, 2, 3, 4, 0, 5, 6, 7] rfl rfl ?_
      obtain ⟨z52, ez52⟩ : ∃ y : Int32, y = x6 + (1 : Int32) := ⟨_, rfl⟩
      have hw := hw z52 ez52
      refine v_iinc (v := z52) (lv2 := [(0, .ref b), (1, .ref a0.1), (2, .int (0 : Int32)), (3, .long z51), (5, .int x16), (6, .int z52), (14, .long x14), (16, .int x16)]) (pc2 := 486) S 5 dL_law_483 rfl (by rw [ez52]; rfl) (by decide) [1, 2, 3, 4, 5, 0, 6, 7] rfl rfl ?_
      refine v_goto (tgt := 84) S dL_law_486 (by decide) ?_
      refine v_lv [(0, .ref b), (1, .ref a0.1), (2, .int (0 : Int32)), (3, .long z51), (5, .int x16), (6, .int z52)] [0, 1, 2, 3, 4, 5] rfl ?_
      exact hK84 (0 : Int32) z51 x16 z52 w0 hw
    · have hw := hw.2 c50
      refine v_aload_n (pc2 := 418) S 1 dL_law_417 rfl rfl rfl ?_
      refine v_iconst (v := 0) (pc2 := 419) S dL_law_418 (by decide) rfl ?_
      refine v_callV (pc2 := 422) (As := [.int (0 : Int32)]) (rest := []) S (c_X8_can l G a0 w0 (0 : Int32) _ hw) mf_X8_can u_295 u_296 u_297 0 8 rfl rfl rfl rfl ⟨rfl, rfl⟩ ⟨Nat.le_of_ble_eq_true rfl, Nat.le_of_ble_eq_true rfl⟩ ⟨Nat.le_of_ble_eq_true rfl, Nat.le_of_ble_eq_true rfl⟩ (Nat.le_of_ble_eq_true rfl) dL_law_419 (frW _) rfl (pi (fun r53 u54 hw => ?_))
      refine v_to (wCD G a0 w0.1 w0.2.1 w0.2.2.1 w0.2.2.2.1 w0.2.2.2.2.1 w0.2.2.2.2.2.1 w0.2.2.2.2.2.2) 422 [(0, .ref b), (1, .ref a0.1), (3, .long x3), (5, .int x5), (6, .int x6), (14, .long x14), (16, .int x16)] _ [.int r53] rfl rfl rfl rfl ?_
      refine v_iconst (v := 1) (pc2 := 423) S dL_law_422 (by decide) rfl ?_
      refine v_icmp_ne (pc2 := 426) (tgt := 474) S dL_law_423 (by decide) rfl (fun c55 => ?_) (fun c55 => ?_)
      · have hw := hw.1 c55
        refine v_iconst (v := 0) (pc2 := 475) S dL_law_474 (by decide) rfl ?_
        refine v_istore_n (lv2 := [(0, .ref b), (1, .ref a0.1), (2, .int (0 : Int32)), (3, .long x3), (5, .int x5), (6, .int x6), (14, .long x14), (16, .int x16)]) (pc2 := 476) S dL_law_475 rfl (by decide) [1, 2, 0, 3, 4, 5, 6, 7] rfl rfl ?_
        refine v_lload (pc2 := 478) S 6 dL_law_476 rfl rfl ?_
        refine v_nml (fun z56 ez56 => ?_)
        have hw := hw z56 ez56
        refine v_lstore_n (lv2 := [(0, .ref b), (1, .ref a0.1), (2, .int (0 : Int32)), (3, .long z56), (5, .int x5), (6, .int x6), (14, .long x14), (16, .int x16)]) (pc2 := 479) S dL_law_478 rfl (by decide) [1, 2, 3, 0, 4, 5, 6, 7] rfl rfl ?_
        refine v_iload (pc2 := 481) S 7 dL_law_479 rfl rfl ?_
        refine v_istore (lv2 := [(0, .ref b), (1, .ref a0.1), (2, .int (0 : Int32)), (3, .long z56), (5, .int x16), (6, .int x6), (14, .long x14), (16, .int x16)]) (pc2 := 483) S dL_law_481 (by decide) [1, 2, 3, 4, 0, 5, 6, 7] rfl rfl ?_
        obtain ⟨z57, ez57⟩ : ∃ y : Int32, y = x6 + (1 : Int32) := ⟨_, rfl⟩
        have hw := hw z57 ez57
        refine v_iinc (v := z57) (lv2 := [(0, .ref b), (1, .ref a0.1), (2, .int (0 : Int32)), (3, .long z56), (5, .int x16), (6, .int z57), (14, .long x14), (16, .int x16)]) (pc2 := 486) S 5 dL_law_483 rfl (by rw [ez57]; rfl) (by decide) [1, 2, 3, 4, 5, 0, 6, 7] rfl rfl ?_
        refine v_goto (tgt := 84) S dL_law_486 (by decide) ?_
        refine v_lv [(0, .ref b), (1, .ref a0.1), (2, .int (0 : Int32)), (3, .long z56), (5, .int x16), (6, .int z57)] [0, 1, 2, 3, 4, 5] rfl ?_
        exact hK84 (0 : Int32) z56 x16 z57 w0 hw
      · have hw := hw.2 c55
        refine v_aload_n (pc2 := 427) S 1 dL_law_426 rfl rfl rfl ?_
        refine v_callV (pc2 := 430) (As := []) (rest := []) S (c_X8_restore l G a0 w0 _ hw) mf_X8_restore u_465 u_466 u_467 0 8 rfl rfl rfl rfl ⟨rfl, rfl⟩ ⟨Nat.le_of_ble_eq_true rfl, Nat.le_of_ble_eq_true rfl⟩ ⟨Nat.le_of_ble_eq_true rfl, Nat.le_of_ble_eq_true rfl⟩ (Nat.le_of_ble_eq_true rfl) dL_law_427 (frW _) rfl (pi (fun r58 u59 hw => ?_))
        refine v_to (wCD G a0 u59.1 u59.2.1 u59.2.2.1 u59.2.2.2.1 u59.2.2.2.2.1 u59.2.2.2.2.2.1 u59.2.2.2.2.2.2) 430 [(0, .ref b), (1, .ref a0.1), (3, .long x3), (5, .int x5), (6, .int x6), (14, .long x14), (16, .int x16)] _ [.int r58] rfl rfl rfl rfl ?_
        refine v_iload (pc2 := 432) S 3 dL_law_430 rfl rfl ?_
        refine v_icmp_ne (pc2 := 435) (tgt := 474) S dL_law_432 (by decide) rfl (fun c60 => ?_) (fun c60 => ?_)
        · have hw := hw.1 c60
          refine v_iconst (v := 0) (pc2 := 475) S dL_law_474 (by decide) rfl ?_
          refine v_istore_n (lv2 := [(0, .ref b), (1, .ref a0.1), (2, .int (0 : Int32)), (3, .long x3), (5, .int x5), (6, .int x6), (14, .long x14), (16, .int x16)]) (pc2 := 476) S dL_law_475 rfl (by decide) [1, 2, 0, 3, 4, 5, 6, 7] rfl rfl ?_
          refine v_lload (pc2 := 478) S 6 dL_law_476 rfl rfl ?_
          refine v_nml (fun z61 ez61 => ?_)
          have hw := hw z61 ez61
          refine v_lstore_n (lv2 := [(0, .ref b), (1, .ref a0.1), (2, .int (0 : Int32)), (3, .long z61), (5, .int x5), (6, .int x6), (14, .long x14), (16, .int x16)]) (pc2 := 479) S dL_law_478 rfl (by decide) [1, 2, 3, 0, 4, 5, 6, 7] rfl rfl ?_
          refine v_iload (pc2 := 481) S 7 dL_law_479 rfl rfl ?_
          refine v_istore (lv2 := [(0, .ref b), (1, .ref a0.1), (2, .int (0 : Int32)), (3, .long z61), (5, .int x16), (6, .int x6), (14, .long x14), (16, .int x16)]) (pc2 := 483) S dL_law_481 (by decide) [1, 2, 3, 4, 0, 5, 6, 7] rfl rfl ?_
          obtain ⟨z62, ez62⟩ : ∃ y : Int32, y = x6 + (1 : Int32) := ⟨_, rfl⟩
          have hw := hw z62 ez62
          refine v_iinc (v := z62) (lv2 := [(0, .ref b), (1, .ref a0.1), (2, .int (0 : Int32)), (3, .long z61), (5, .int x16), (6, .int z62), (14, .long x14), (16, .int x16)]) (pc2 := 486) S 5 dL_law_483 rfl (by rw [ez62]; rfl) (by decide) [1, 2, 3, 4, 5, 0, 6, 7] rfl rfl ?_
          refine v_goto (tgt := 84) S dL_law_486 (by decide) ?_
          refine v_lv [(0, .ref b), (1, .ref a0.1), (2, .int (0 : Int32)), (3, .long z61), (5, .int x16), (6, .int z62)] [0, 1, 2, 3, 4, 5] rfl ?_
          exact hK84 (0 : Int32) z61 x16 z62 u59 hw
        · have hw := hw.2 c60
          refine v_aload_n (pc2 := 436) S 1 dL_law_435 rfl rfl rfl ?_
          refine v_callS (pc2 := 439) (As := [.ref a0.1]) (rest := []) S (c_L_seen l G a0 u59 _ hw) mf_L_seen u_479 u_480 rfl rfl ⟨rfl, rfl⟩ ⟨Nat.le_of_ble_eq_true rfl, Nat.le_of_ble_eq_true rfl⟩ ⟨Nat.le_of_ble_eq_true rfl, Nat.le_of_ble_eq_true rfl⟩ (Nat.le_of_ble_eq_true rfl) dL_law_436 (frW _) rfl (pl (fun r63 u64 hw => ?_))
          refine v_to (wCD G a0 u59.1 u59.2.1 u59.2.2.1 u59.2.2.2.1 u59.2.2.2.2.1 u59.2.2.2.2.2.1 u59.2.2.2.2.2.2) 439 [(0, .ref b), (1, .ref a0.1), (3, .long x3), (5, .int x5), (6, .int x6), (14, .long x14), (16, .int x16)] _ [.long r63] rfl rfl rfl rfl ?_
          refine v_lload_n (pc2 := 440) S 2 dL_law_439 rfl rfl rfl ?_
          refine v_lcmp (pc2 := 441) S dL_law_440 rfl ?_
          refine v_if_ne (pc2 := 444) (tgt := 474) S dL_law_441 (by decide) rfl (fun c65 => ?_) (fun c65 => ?_)
          · have hw := hw.1 c65
            refine v_iconst (v := 0) (pc2 := 475) S dL_law_474 (by decide) rfl ?_
            refine v_istore_n (lv2 := [(0, .ref b), (1, .ref a0.1), (2, .int (0 : Int32)), (3, .long x3), (5, .int x5), (6, .int x6), (14, .long x14), (16, .int x16)]) (pc2 := 476) S dL_law_475 rfl (by decide) [1, 2, 0, 3, 4, 5, 6, 7] rfl rfl ?_
            refine v_lload (pc2 := 478) S 6 dL_law_476 rfl rfl ?_
            refine v_nml (fun z66 ez66 => ?_)
            have hw := hw z66 ez66
            refine v_lstore_n (lv2 := [(0, .ref b), (1, .ref a0.1), (2, .int (0 : Int32)), (3, .long z66), (5, .int x5), (6, .int x6), (14, .long x14), (16, .int x16)]) (pc2 := 479) S dL_law_478 rfl (by decide) [1, 2, 3, 0, 4, 5, 6, 7] rfl rfl ?_
            refine v_iload (pc2 := 481) S 7 dL_law_479 rfl rfl ?_
            refine v_istore (lv2 := [(0, .ref b), (1, .ref a0.1), (2, .int (0 : Int32)), (3, .long z66), (5, .int x16), (6, .int x6), (14, .long x14), (16, .int x16)]) (pc2 := 483) S dL_law_481 (by decide) [1, 2, 3, 4, 0, 5, 6, 7] rfl rfl ?_
            obtain ⟨z67, ez67⟩ : ∃ y : Int32, y = x6 + (1 : Int32) := ⟨_, rfl⟩
            have hw := hw z67 ez67
            refine v_iinc (v := z67) (lv2 := [(0, .ref b), (1, .ref a0.1), (2, .int (0 : Int32)), (3, .long z66), (5, .int x16), (6, .int z67), (14, .long x14), (16, .int x16)]) (pc2 := 486) S 5 dL_law_483 rfl (by rw [ez67]; rfl) (by decide) [1, 2, 3, 4, 5, 0, 6, 7] rfl rfl ?_
            refine v_goto (tgt := 84) S dL_law_486 (by decide) ?_
            refine v_lv [(0, .ref b), (1, .ref a0.1), (2, .int (0 : Int32)), (3, .long z66), (5, .int x16), (6, .int z67)] [0, 1, 2, 3, 4, 5] rfl ?_
            exact hK84 (0 : Int32) z66 x16 z67 u59 hw
          · have hw := hw.2 c65
            refine v_aload_n (pc2 := 445) S 1 dL_law_444 rfl rfl rfl ?_
            refine v_callV (pc2 := 448) (As := []) (rest := []) S (c_X8_undo l G a0 u59 _ hw) mf_X8_undo u_424 u_425 u_426 0 8 rfl rfl rfl rfl ⟨rfl, rfl⟩ ⟨Nat.le_of_ble_eq_true rfl, Nat.le_of_ble_eq_true rfl⟩ ⟨Nat.le_of_ble_eq_true rfl, Nat.le_of_ble_eq_true rfl⟩ (Nat.le_of_ble_eq_true rfl) dL_law_445 (frW _) rfl (pi (fun r68 u69 hw => ?_))
            refine v_to (wCD G a0 u69.1 u69.2.1 u69.2.2.1 u69.2.2.2.1 u69.2.2.2.2.1 u69.2.2.2.2.2.1 u69.2.2.2.2.2.2) 448 [(0, .ref b), (1, .ref a0.1), (3, .long x3), (5, .int x5), (6, .int x6), (14, .long x14), (16, .int x16)] _ [.int r68] rfl rfl rfl rfl ?_
            refine v_if_lt (pc2 := 451) (tgt := 474) S dL_law_448 (by decide) rfl (fun c70 => ?_) (fun c70 => ?_)
            · have hw := hw.1 c70
              refine v_iconst (v := 0) (pc2 := 475) S dL_law_474 (by decide) rfl ?_
              refine v_istore_n (lv2 := [(0, .ref b), (1, .ref a0.1), (2, .int (0 : Int32)), (3, .long x3), (5, .int x5), (6, .int x6), (14, .long x14), (16, .int x16)]) (pc2 := 476) S dL_law_475 rfl (by decide) [1, 2, 0, 3, 4, 5, 6, 7] rfl rfl ?_
              refine v_lload (pc2 := 478) S 6 dL_law_476 rfl rfl ?_
              refine v_nml (fun z71 ez71 => ?_)
              have hw := hw z71 ez71
              refine v_lstore_n (lv2 := [(0, .ref b), (1, .ref a0.1), (2, .int (0 : Int32)), (3, .long z71), (5, .int x5), (6, .int x6), (14, .long x14), (16, .int x16)]) (pc2 := 479) S dL_law_478 rfl (by decide) [1, 2, 3, 0, 4, 5, 6, 7] rfl rfl ?_
              refine v_iload (pc2 := 481) S 7 dL_law_479 rfl rfl ?_
              refine v_istore (lv2 := [(0, .ref b), (1, .ref a0.1), (2, .int (0 : Int32)), (3, .long z71), (5, .int x16), (6, .int x6), (14, .long x14), (16, .int x16)]) (pc2 := 483) S dL_law_481 (by decide) [1, 2, 3, 4, 0, 5, 6, 7] rfl rfl ?_
              obtain ⟨z72, ez72⟩ : ∃ y : Int32, y = x6 + (1 : Int32) := ⟨_, rfl⟩
              have hw := hw z72 ez72
              refine v_iinc (v := z72) (lv2 := [(0, .ref b), (1, .ref a0.1), (2, .int (0 : Int32)), (3, .long z71), (5, .int x16), (6, .int z72), (14, .long x14), (16, .int x16)]) (pc2 := 486) S 5 dL_law_483 rfl (by rw [ez72]; rfl) (by decide) [1, 2, 3, 4, 5, 0, 6, 7] rfl rfl ?_
              refine v_goto (tgt := 84) S dL_law_486 (by decide) ?_
              refine v_lv [(0, .ref b), (1, .ref a0.1), (2, .int (0 : Int32)), (3, .long z71), (5, .int x16), (6, .int z72)] [0, 1, 2, 3, 4, 5] rfl ?_
              exact hK84 (0 : Int32) z71 x16 z72 u69 hw
            · have hw := hw.2 c70
              refine v_aload_n (pc2 := 452) S 1 dL_law_451 rfl rfl rfl ?_
              refine v_callS (pc2 := 455) (As := [.ref a0.1]) (rest := []) S (c_L_seen l G a0 u69 _ hw) mf_L_seen u_479 u_480 rfl rfl ⟨rfl, rfl⟩ ⟨Nat.le_of_ble_eq_true rfl, Nat.le_of_ble_eq_true rfl⟩ ⟨Nat.le_of_ble_eq_true rfl, Nat.le_of_ble_eq_true rfl⟩ (Nat.le_of_ble_eq_true rfl) dL_law_452 (frW _) rfl (pl (fun r73 u74 hw => ?_))
              refine v_to (wCD G a0 u69.1 u69.2.1 u69.2.2.1 u69.2.2.2.1 u69.2.2.2.2.1 u69.2.2.2.2.2.1 u69.2.2.2.2.2.2) 455 [(0, .ref b), (1, .ref a0.1), (3, .long x3), (5, .int x5), (6, .int x6), (14, .long x14), (16, .int x16)] _ [.long r73] rfl rfl rfl rfl ?_
              refine v_lload (pc2 := 457) S 5 dL_law_455 rfl rfl ?_
              refine v_lcmp (pc2 := 458) S dL_law_457 rfl ?_
              refine v_if_ne (pc2 := 461) (tgt := 474) S dL_law_458 (by decide) rfl (fun c75 => ?_) (fun c75 => ?_)
              · have hw := hw.1 c75
                refine v_iconst (v := 0) (pc2 := 475) S dL_law_474 (by decide) rfl ?_
                refine v_istore_n (lv2 := [(0, .ref b), (1, .ref a0.1), (2, .int (0 : Int32)), (3, .long x3), (5, .int x5), (6, .int x6), (14, .long x14), (16, .int x16)]) (pc2 := 476) S dL_law_475 rfl (by decide) [1, 2, 0, 3, 4, 5, 6, 7] rfl rfl ?_
                refine v_lload (pc2 := 478) S 6 dL_law_476 rfl rfl ?_
                refine v_nml (fun z76 ez76 => ?_)
                have hw := hw z76 ez76
                refine v_lstore_n (lv2 := [(0, .ref b), (1, .ref a0.1), (2, .int (0 : Int32)), (3, .long z76), (5, .int x5), (6, .int x6), (14, .long x14), (16, .int x16)]) (pc2 := 479) S dL_law_478 rfl (by decide) [1, 2, 3, 0, 4, 5, 6, 7] rfl rfl ?_
                refine v_iload (pc2 := 481) S 7 dL_law_479 rfl rfl ?_
                refine v_istore (lv2 := [(0, .ref b), (1, .ref a0.1), (2, .int (0 : Int32)), (3, .long z76), (5, .int x16), (6, .int x6), (14, .long x14), (16, .int x16)]) (pc2 := 483) S dL_law_481 (by decide) [1, 2, 3, 4, 0, 5, 6, 7] rfl rfl ?_
                obtain ⟨z77, ez77⟩ : ∃ y : Int32, y = x6 + (1 : Int32) := ⟨_, rfl⟩
                have hw := hw z77 ez77
                refine v_iinc (v := z77) (lv2 := [(0, .ref b), (1, .ref a0.1), (2, .int (0 : Int32)), (3, .long z76), (5, .int x16), (6, .int z77), (14, .long x14), (16, .int x16)]) (pc2 := 486) S 5 dL_law_483 rfl (by rw [ez77]; rfl) (by decide) [1, 2, 3, 4, 5, 0, 6, 7] rfl rfl ?_
                refine v_goto (tgt := 84) S dL_law_486 (by decide) ?_
                refine v_lv [(0, .ref b), (1, .ref a0.1), (2, .int (0 : Int32)), (3, .long z76), (5, .int x16), (6, .int z77)] [0, 1, 2, 3, 4, 5] rfl ?_
                exact hK84 (0 : Int32) z76 x16 z77 u69 hw
              · have hw := hw.2 c75
                refine v_aload_n (pc2 := 462) S 1 dL_law_461 rfl rfl rfl ?_
                refine v_callV (pc2 := 465) (As := []) (rest := []) S (c_X8_save l G a0 u69 _ hw) mf_X8_save u_460 u_461 u_462 0 8 rfl rfl rfl rfl ⟨rfl, rfl⟩ ⟨Nat.le_of_ble_eq_true rfl, Nat.le_of_ble_eq_true rfl⟩ ⟨Nat.le_of_ble_eq_true rfl, Nat.le_of_ble_eq_true rfl⟩ (Nat.le_of_ble_eq_true rfl) dL_law_462 (frW _) rfl (pi (fun r78 u79 hw => ?_))
                refine v_to (wCD G a0 u79.1 u79.2.1 u79.2.2.1 u79.2.2.2.1 u79.2.2.2.2.1 u79.2.2.2.2.2.1 u79.2.2.2.2.2.2) 465 [(0, .ref b), (1, .ref a0.1), (3, .long x3), (5, .int x5), (6, .int x6), (14, .long x14), (16, .int x16)] _ [.int r78] rfl rfl rfl rfl ?_
                refine v_iload (pc2 := 467) S 6 dL_law_465 rfl rfl ?_
                refine v_icmp_ne (pc2 := 470) (tgt := 474) S dL_law_467 (by decide) rfl (fun c80 => ?_) (fun c80 => ?_)
                · have hw := hw.1 c80
                  refine v_iconst (v := 0) (pc2 := 475) S dL_law_474 (by decide) rfl ?_
                  refine v_istore_n (lv2 := [(0, .ref b), (1, .ref a0.1), (2, .int (0 : Int32)), (3, .long x3), (5, .int x5), (6, .int x6), (14, .long x14), (16, .int x16)]) (pc2 := 476) S dL_law_475 rfl (by decide) [1, 2, 0, 3, 4, 5, 6, 7] rfl rfl ?_
                  refine v_lload (pc2 := 478) S 6 dL_law_476 rfl rfl ?_
                  refine v_nml (fun z81 ez81 => ?_)
                  have hw := hw z81 ez81
                  refine v_lstore_n (lv2 := [(0, .ref b), (1, .ref a0.1), (2, .int (0 : Int32)), (3, .long z81), (5, .int x5), (6, .int x6), (14, .long x14), (16, .int x16)]) (pc2 := 479) S dL_law_478 rfl (by decide) [1, 2, 3, 0, 4, 5, 6, 7] rfl rfl ?_
                  refine v_iload (pc2 := 481) S 7 dL_law_479 rfl rfl ?_
                  refine v_istore (lv2 := [(0, .ref b), (1, .ref a0.1), (2, .int (0 : Int32)), (3, .long z81), (5, .int x16), (6, .int x6), (14, .long x14), (16, .int x16)]) (pc2 := 483) S dL_law_481 (by decide) [1, 2, 3, 4, 0, 5, 6, 7] rfl rfl ?_
                  obtain ⟨z82, ez82⟩ : ∃ y : Int32, y = x6 + (1 : Int32) := ⟨_, rfl⟩
                  have hw := hw z82 ez82
                  refine v_iinc (v := z82) (lv2 := [(0, .ref b), (1, .ref a0.1), (2, .int (0 : Int32)), (3, .long z81), (5, .int x16), (6, .int z82), (14, .long x14), (16, .int x16)]) (pc2 := 486) S 5 dL_law_483 rfl (by rw [ez82]; rfl) (by decide) [1, 2, 3, 4, 5, 0, 6, 7] rfl rfl ?_
                  refine v_goto (tgt := 84) S dL_law_486 (by decide) ?_
                  refine v_lv [(0, .ref b), (1, .ref a0.1), (2, .int (0 : Int32)), (3, .long z81), (5, .int x16), (6, .int z82)] [0, 1, 2, 3, 4, 5] rfl ?_
                  exact hK84 (0 : Int32) z81 x16 z82 u79 hw
                · have hw := hw.2 c80
                  refine v_iconst (v := 1) (pc2 := 471) S dL_law_470 (by decide) rfl ?_
                  refine v_goto (tgt := 475) S dL_law_471 (by decide) ?_
                  refine v_istore_n (lv2 := [(0, .ref b), (1, .ref a0.1), (2, .int (1 : Int32)), (3, .long x3), (5, .int x5), (6, .int x6), (14, .long x14), (16, .int x16)]) (pc2 := 476) S dL_law_475 rfl (by decide) [1, 2, 0, 3, 4, 5, 6, 7] rfl rfl ?_
                  refine v_lload (pc2 := 478) S 6 dL_law_476 rfl rfl ?_
                  refine v_nml (fun z83 ez83 => ?_)
                  have hw := hw z83 ez83
                  refine v_lstore_n (lv2 := [(0, .ref b), (1, .ref a0.1), (2, .int (1 : Int32)), (3, .long z83), (5, .int x5), (6, .int x6), (14, .long x14), (16, .int x16)]) (pc2 := 479) S dL_law_478 rfl (by decide) [1, 2, 3, 0, 4, 5, 6, 7] rfl rfl ?_
                  refine v_iload (pc2 := 481) S 7 dL_law_479 rfl rfl ?_
                  refine v_istore (lv2 := [(0, .ref b), (1, .ref a0.1), (2, .int (1 : Int32)), (3, .long z83), (5, .int x16), (6, .int x6), (14, .long x14), (16, .int x16)]) (pc2 := 483) S dL_law_481 (by decide) [1, 2, 3, 4, 0, 5, 6, 7] rfl rfl ?_
                  obtain ⟨z84, ez84⟩ : ∃ y : Int32, y = x6 + (1 : Int32) := ⟨_, rfl⟩
                  have hw := hw z84 ez84
                  refine v_iinc (v := z84) (lv2 := [(0, .ref b), (1, .ref a0.1), (2, .int (1 : Int32)), (3, .long z83), (5, .int x16), (6, .int z84), (14, .long x14), (16, .int x16)]) (pc2 := 486) S 5 dL_law_483 rfl (by rw [ez84]; rfl) (by decide) [1, 2, 3, 4, 5, 0, 6, 7] rfl rfl ?_
                  refine v_goto (tgt := 84) S dL_law_486 (by decide) ?_
                  refine v_lv [(0, .ref b), (1, .ref a0.1), (2, .int (1 : Int32)), (3, .long z83), (5, .int x16), (6, .int z84)] [0, 1, 2, 3, 4, 5] rfl ?_
                  exact hK84 (1 : Int32) z83 x16 z84 u79 hw
  have B397 : ∀ (a0 : CDA) (x3 : Int64) (x5 : Int32) (x6 : Int32) (x14 : Int64) (x16 : Int32) (x17 : Int32) (x18 : Int32) (t0 : Int32) (w0 : CDV) (K84 : Int32 → Int64 → Int32 → Int32 → CDV → Prop) (hK84 : ∀ (y0 : Int32) (y1 : Int64) (y2 : Int32) (y3 : Int32) (y4 : CDV), K84 y0 y1 y2 y3 y4 → V p l e room_1 s m #[Value.ref b] below meth c G (fun q : Nat => s.heap.size ≤ q) 20 600000 7302250 (lw_Z below #[Value.ref b] s) (wCD G a0 y4.1 y4.2.1 y4.2.2.1 y4.2.2.2.1 y4.2.2.2.2.1 y4.2.2.2.2.2.1 y4.2.2.2.2.2.2) 84 [(0, .ref b), (1, .ref a0.1), (2, .int y0), (3, .long y1), (5, .int y2), (6, .int y3)] []), wp_L_law_B397 xs L x3 x5 x6 x14 x16 x17 x18 t0 w0 Q K84 → V p l e room_1 s m #[Value.ref b] below meth c G (fun q : Nat => s.heap.size ≤ q) 20 600000 7302250 (lw_Z below #[Value.ref b] s) (wCD G a0 w0.1 w0.2.1 w0.2.2.1 w0.2.2.2.1 w0.2.2.2.2.1 w0.2.2.2.2.2.1 w0.2.2.2.2.2.2) 397 [(0, .ref b), (1, .ref a0.1), (3, .long x3), (5, .int x5), (6, .int x6), (14, .long x14), (16, .int x16), (17, .int x17), (18, .int x18)] [.int t0] := by
    intro a0 x3 x5 x6 x14 x16 x17 x18 t0 w0 K84 hK84 hw
    refine v_aload_n (pc2 := 398) S 1 dL_law_397 rfl rfl rfl ?_
    refine v_iload (pc2 := 400) S 7 dL_law_398 rfl rfl ?_
    refine v_iconst (v := 0) (pc2 := 401) S dL_law_400 (by decide) rfl ?_
    refine v_callV (pc2 := 404) (As := [.int x17, .int (0 : Int32)]) (rest := [.int t0]) S (c_X8_guest l G a0 w0 x17 (0 : Int32) _ hw) mf_X8_guest u_252 u_253 u_254 0 8 rfl rfl rfl rfl ⟨rfl, rfl⟩ ⟨Nat.le_of_ble_eq_true rfl, Nat.le_of_ble_eq_true rfl⟩ ⟨Nat.le_of_ble_eq_true rfl, Nat.le_of_ble_eq_true rfl⟩ (Nat.le_of_ble_eq_true rfl) dL_law_401 (frW _) rfl (pi (fun r47 u48 hw => ?_))
    refine v_to (wCD G a0 w0.1 w0.2.1 w0.2.2.1 w0.2.2.2.1 w0.2.2.2.2.1 w0.2.2.2.2.2.1 w0.2.2.2.2.2.2) 404 [(0, .ref b), (1, .ref a0.1), (3, .long x3), (5, .int x5), (6, .int x6), (14, .long x14), (16, .int x16), (17, .int x17), (18, .int x18)] _ [.int r47, .int t0] rfl rfl rfl rfl ?_
    refine v_iload (pc2 := 406) S 8 dL_law_404 rfl rfl ?_
    refine v_icmp_ne (pc2 := 409) (tgt := 413) S dL_law_406 (by decide) rfl (fun c49 => ?_) (fun c49 => ?_)
    · have hw := hw.1 c49
      refine v_iconst (v := 0) (pc2 := 414) S dL_law_413 (by decide) rfl ?_
      refine v_lv [(0, .ref b), (1, .ref a0.1), (3, .long x3), (5, .int x5), (6, .int x6), (14, .long x14), (16, .int x16)] [0, 1, 2, 3, 4, 5, 6] rfl ?_
      exact B414 a0 x3 x5 x6 x14 x16 t0 (0 : Int32) w0 K84 hK84 hw
    · have hw := hw.2 c49
      refine v_iconst (v := 1) (pc2 := 410) S dL_law_409 (by decide) rfl ?_
      refine v_goto (tgt := 414) S dL_law_410 (by decide) ?_
      refine v_lv [(0, .ref b), (1, .ref a0.1), (3, .long x3), (5, .int x5), (6, .int x6), (14, .long x14), (16, .int x16)] [0, 1, 2, 3, 4, 5, 6] rfl ?_
      exact B414 a0 x3 x5 x6 x14 x16 t0 (1 : Int32) w0 K84 hK84 hw
  have B320 : ∀ (a0 : CDA) (x2 : Int32) (x3 : Int64) (x5 : Int32) (x6 : Int32) (x7 : Int32) (w0 : CDV) (K84 : Int32 → Int64 → Int32 → Int32 → CDV → Prop) (hK84 : ∀ (y0 : Int32) (y1 : Int64) (y2 : Int32) (y3 : Int32) (y4 : CDV), K84 y0 y1 y2 y3 y4 → V p l e room_1 s m #[Value.ref b] below meth c G (fun q : Nat => s.heap.size ≤ q) 20 600000 7302250 (lw_Z below #[Value.ref b] s) (wCD G a0 y4.1 y4.2.1 y4.2.2.1 y4.2.2.2.1 y4.2.2.2.2.1 y4.2.2.2.2.2.1 y4.2.2.2.2.2.2) 84 [(0, .ref b), (1, .ref a0.1), (2, .int y0), (3, .long y1), (5, .int y2), (6, .int y3)] []), wp_L_law_B320 xs L x2 x3 x5 x6 x7 w0 Q K84 → V p l e room_1 s m #[Value.ref b] below meth c G (fun q : Nat => s.heap.size ≤ q) 20 600000 7302250 (lw_Z below #[Value.ref b] s) (wCD G a0 w0.1 w0.2.1 w0.2.2.1 w0.2.2.2.1 w0.2.2.2.2.1 w0.2.2.2.2.2.1 w0.2.2.2.2.2.2) 320 [(0, .ref b), (1, .ref a0.1), (2, .int x2), (3, .long x3), (5, .int x5), (6, .int x6), (7, .int x7)] [] := by
    intro a0 x2 x3 x5 x6 x7 w0 K84 hK84 hw
    refine v_iload_n (pc2 := 321) S 2 dL_law_320 rfl rfl rfl ?_
    refine v_if_eq (pc2 := 324) (tgt := 483) S dL_law_321 (by decide) rfl (fun c28 => ?_) (fun c28 => ?_)
    · have hw := hw.1 c28
      obtain ⟨z29, ez29⟩ : ∃ y : Int32, y = x6 + (1 : Int32) := ⟨_, rfl⟩
      have hw := hw z29 ez29
      refine v_iinc (v := z29) (lv2 := [(0, .ref b), (1, .ref a0.1), (2, .int x2), (3, .long x3), (5, .int x5), (6, .int z29), (7, .int x7)]) (pc2 := 486) S 5 dL_law_483 rfl (by rw [ez29]; rfl) (by decide) [1, 2, 3, 4, 5, 0, 6] rfl rfl ?_
      refine v_goto (tgt := 84) S dL_law_486 (by decide) ?_
      refine v_lv [(0, .ref b), (1, .ref a0.1), (2, .int x2), (3, .long x3), (5, .int x5), (6, .int z29)] [0, 1, 2, 3, 4, 5] rfl ?_
      exact hK84 x2 x3 x5 z29 w0 hw
    · have hw := hw.2 c28
      refine v_iload (pc2 := 326) S 5 dL_law_324 rfl rfl ?_
      refine v_bipush (v := 15) (pc2 := 328) S dL_law_326 (by decide) rfl ?_
      refine v_irem (pc2 := 329) S (by decide) dL_law_328 rfl ?_
      refine v_bipush (v := 14) (pc2 := 331) S dL_law_329 (by decide) rfl ?_
      refine v_icmp_ne (pc2 := 334) (tgt := 483) S dL_law_331 (by decide) rfl (fun c30 => ?_) (fun c30 => ?_)
      · have hw := hw.1 c30
        obtain ⟨z31, ez31⟩ : ∃ y : Int32, y = x6 + (1 : Int32) := ⟨_, rfl⟩
        have hw := hw z31 ez31
        refine v_iinc (v := z31) (lv2 := [(0, .ref b), (1, .ref a0.1), (2, .int x2), (3, .long x3), (5, .int x5), (6, .int z31), (7, .int x7)]) (pc2 := 486) S 5 dL_law_483 rfl (by rw [ez31]; rfl) (by decide) [1, 2, 3, 4, 5, 0, 6] rfl rfl ?_
        refine v_goto (tgt := 84) S dL_law_486 (by decide) ?_
        refine v_lv [(0, .ref b), (1, .ref a0.1), (2, .int x2), (3, .long x3), (5, .int x5), (6, .int z31)] [0, 1, 2, 3, 4, 5] rfl ?_
        exact hK84 x2 x3 x5 z31 w0 hw
      · have hw := hw.2 c30
        refine v_aload_n (pc2 := 335) S 1 dL_law_334 rfl rfl rfl ?_
        refine v_callS (pc2 := 338) (As := [.ref a0.1]) (rest := []) S (c_L_seen l G a0 w0 _ hw) mf_L_seen u_479 u_480 rfl rfl ⟨rfl, rfl⟩ ⟨Nat.le_of_ble_eq_true rfl, Nat.le_of_ble_eq_true rfl⟩ ⟨Nat.le_of_ble_eq_true rfl, Nat.le_of_ble_eq_true rfl⟩ (Nat.le_of_ble_eq_true rfl) dL_law_335 (frW _) rfl (pl (fun r32 u33 hw => ?_))
        refine v_to (wCD G a0 w0.1 w0.2.1 w0.2.2.1 w0.2.2.2.1 w0.2.2.2.2.1 w0.2.2.2.2.2.1 w0.2.2.2.2.2.2) 338 [(0, .ref b), (1, .ref a0.1), (2, .int x2), (3, .long x3), (5, .int x5), (6, .int x6), (7, .int x7)] _ [.long r32] rfl rfl rfl rfl ?_
        refine v_nml (fun z34 ez34 => ?_)
        have hw := hw z34 ez34
        refine v_lstore (lv2 := [(0, .ref b), (1, .ref a0.1), (2, .int x2), (3, .long x3), (5, .int x5), (6, .int x6), (7, .int x7), (14, .long z34)]) (pc2 := 340) S dL_law_338 (by decide) [1, 2, 3, 4, 5, 6, 7, 0] rfl rfl ?_
        refine v_aload_n (pc2 := 341) S 1 dL_law_340 rfl rfl rfl ?_
        refine v_iconst (v := 0) (pc2 := 342) S dL_law_341 (by decide) rfl ?_
        refine v_callV (pc2 := 345) (As := [.int (0 : Int32)]) (rest := []) S (c_X8_count l G a0 w0 (0 : Int32) _ hw) mf_X8_count u_398 u_399 u_400 0 8 rfl rfl rfl rfl ⟨rfl, rfl⟩ ⟨Nat.le_of_ble_eq_true rfl, Nat.le_of_ble_eq_true rfl⟩ ⟨Nat.le_of_ble_eq_true rfl, Nat.le_of_ble_eq_true rfl⟩ (Nat.le_of_ble_eq_true rfl) dL_law_342 (frW _) rfl (pi (fun r35 u36 hw => ?_))
        refine v_to (wCD G a0 w0.1 w0.2.1 w0.2.2.1 w0.2.2.2.1 w0.2.2.2.2.1 w0.2.2.2.2.2.1 w0.2.2.2.2.2.2) 345 [(0, .ref b), (1, .ref a0.1), (2, .int x2), (3, .long x3), (5, .int x5), (6, .int x6), (7, .int x7), (14, .long z34)] _ [.int r35] rfl rfl rfl rfl ?_
        refine v_istore (lv2 := [(0, .ref b), (1, .ref a0.1), (2, .int x2), (3, .long x3), (5, .int x5), (6, .int x6), (7, .int x7), (14, .long z34), (16, .int r35)]) (pc2 := 347) S dL_law_345 (by decide) [1, 2, 3, 4, 5, 6, 7, 8, 0] rfl rfl ?_
        refine v_iload (pc2 := 349) S 6 dL_law_347 rfl rfl ?_
        refine v_iconst (v := 3) (pc2 := 350) S dL_law_349 (by decide) rfl ?_
        refine v_irem (pc2 := 351) S (by decide) dL_law_350 rfl ?_
        refine v_nm (fun z37 ez37 => ?_)
        have hw := hw z37 ez37
        refine v_istore (lv2 := [(0, .ref b), (1, .ref a0.1), (2, .int x2), (3, .long x3), (5, .int x5), (6, .int x6), (7, .int x7), (14, .long z34), (16, .int r35), (17, .int z37)]) (pc2 := 353) S dL_law_351 (by decide) [1, 2, 3, 4, 5, 6, 7, 8, 9, 0] rfl rfl ?_
        refine v_iload (pc2 := 355) S 6 dL_law_353 rfl rfl ?_
        refine v_iconst (v := 3) (pc2 := 356) S dL_law_355 (by decide) rfl ?_
        refine v_idiv (pc2 := 357) S (by decide) dL_law_356 rfl ?_
        refine v_bipush (v := 6) (pc2 := 359) S dL_law_357 (by decide) rfl ?_
        refine v_irem (pc2 := 360) S (by decide) dL_law_359 rfl ?_
        refine v_nm (fun z38 ez38 => ?_)
        have hw := hw z38 ez38
        refine v_istore (lv2 := [(0, .ref b), (1, .ref a0.1), (2, .int x2), (3, .long x3), (5, .int x5), (6, .int x6), (7, .int x7), (14, .long z34), (16, .int r35), (17, .int z37), (18, .int z38)]) (pc2 := 362) S dL_law_360 (by decide) [1, 2, 3, 4, 5, 6, 7, 8, 9, 10, 0] rfl rfl ?_
        refine v_aload_n (pc2 := 363) S 1 dL_law_362 rfl rfl rfl ?_
        refine v_iload (pc2 := 365) S 9 dL_law_363 rfl rfl ?_
        refine v_iload (pc2 := 367) S 10 dL_law_365 rfl rfl ?_
        refine v_iconst (v := 0) (pc2 := 368) S dL_law_367 (by decide) rfl ?_
        refine v_callV (pc2 := 371) (As := [.int z37, .int z38, .int (0 : Int32)]) (rest := []) S (c_X8_deeds l G a0 w0 z37 z38 (0 : Int32) _ hw) mf_X8_deeds u_317 u_318 u_319 0 8 rfl rfl rfl rfl ⟨rfl, rfl⟩ ⟨Nat.le_of_ble_eq_true rfl, Nat.le_of_ble_eq_true rfl⟩ ⟨Nat.le_of_ble_eq_true rfl, Nat.le_of_ble_eq_true rfl⟩ (Nat.le_of_ble_eq_true rfl) dL_law_368 (frW _) rfl (pi (fun r39 u40 hw => ?_))
        refine v_to (wCD G a0 u40.1 u40.2.1 u40.2.2.1 u40.2.2.2.1 u40.2.2.2.2.1 u40.2.2.2.2.2.1 u40.2.2.2.2.2.2) 371 [(0, .ref b), (1, .ref a0.1), (2, .int x2), (3, .long x3), (5, .int x5), (6, .int x6), (7, .int x7), (14, .long z34), (16, .int r35), (17, .int z37), (18, .int z38)] _ [.int r39] rfl rfl rfl rfl ?_
        refine v_istore (lv2 := [(0, .ref b), (1, .ref a0.1), (2, .int x2), (3, .long x3), (5, .int x5), (6, .int x6), (7, .int x7), (14, .long z34), (16, .int r35), (17, .int z37), (18, .int z38), (19, .int r39)]) (pc2 := 373) S dL_law_371 (by decide) [1, 2, 3, 4, 5, 6, 7, 8, 9, 10, 11, 0] rfl rfl ?_
        refine v_aload_n (pc2 := 374) S 1 dL_law_373 rfl rfl rfl ?_
        refine v_iload (pc2 := 376) S 9 dL_law_374 rfl rfl ?_
        refine v_iload (pc2 := 378) S 10 dL_law_376 rfl rfl ?_
        refine v_iconst (v := 1) (pc2 := 379) S dL_law_378 (by decide) rfl ?_
        refine v_callV (pc2 := 382) (As := [.int z37, .int z38, .int (1 : Int32)]) (rest := []) S (c_X8_deeds l G a0 u40 z37 z38 (1 : Int32) _ hw) mf_X8_deeds u_317 u_318 u_319 0 8 rfl rfl rfl rfl ⟨rfl, rfl⟩ ⟨Nat.le_of_ble_eq_true rfl, Nat.le_of_ble_eq_true rfl⟩ ⟨Nat.le_of_ble_eq_true rfl, Nat.le_of_ble_eq_true rfl⟩ (Nat.le_of_ble_eq_true rfl) dL_law_379 (frW _) rfl (pi (fun r41 u42 hw => ?_))
        refine v_to (wCD G a0 u42.1 u42.2.1 u42.2.2.1 u42.2.2.2.1 u42.2.2.2.2.1 u42.2.2.2.2.2.1 u42.2.2.2.2.2.2) 382 [(0, .ref b), (1, .ref a0.1), (2, .int x2), (3, .long x3), (5, .int x5), (6, .int x6), (7, .int x7), (14, .long z34), (16, .int r35), (17, .int z37), (18, .int z38), (19, .int r39)] _ [.int r41] rfl rfl rfl rfl ?_
        refine v_iload (pc2 := 384) S 11 dL_law_382 rfl rfl ?_
        refine v_icmp_ne (pc2 := 387) (tgt := 474) S dL_law_384 (by decide) rfl (fun c43 => ?_) (fun c43 => ?_)
        · have hw := hw.1 c43
          refine v_iconst (v := 0) (pc2 := 475) S dL_law_474 (by decide) rfl ?_
          refine v_istore_n (lv2 := [(0, .ref b), (1, .ref a0.1), (2, .int (0 : Int32)), (3, .long x3), (5, .int x5), (6, .int x6), (7, .int x7), (14, .long z34), (16, .int r35), (17, .int z37), (18, .int z38), (19, .int r39)]) (pc2 := 476) S dL_law_475 rfl (by decide) [1, 2, 0, 3, 4, 5, 6, 7, 8, 9, 10, 11] rfl rfl ?_
          refine v_lload (pc2 := 478) S 7 dL_law_476 rfl rfl ?_
          refine v_nml (fun z44 ez44 => ?_)
          have hw := hw z44 ez44
          refine v_lstore_n (lv2 := [(0, .ref b), (1, .ref a0.1), (2, .int (0 : Int32)), (3, .long z44), (5, .int x5), (6, .int x6), (7, .int x7), (14, .long z34), (16, .int r35), (17, .int z37), (18, .int z38), (19, .int r39)]) (pc2 := 479) S dL_law_478 rfl (by decide) [1, 2, 3, 0, 4, 5, 6, 7, 8, 9, 10, 11] rfl rfl ?_
          refine v_iload (pc2 := 481) S 8 dL_law_479 rfl rfl ?_
          refine v_istore (lv2 := [(0, .ref b), (1, .ref a0.1), (2, .int (0 : Int32)), (3, .long z44), (5, .int r35), (6, .int x6), (7, .int x7), (14, .long z34), (16, .int r35), (17, .int z37), (18, .int z38), (19, .int r39)]) (pc2 := 483) S dL_law_481 (by decide) [1, 2, 3, 4, 0, 5, 6, 7, 8, 9, 10, 11] rfl rfl ?_
          obtain ⟨z45, ez45⟩ : ∃ y : Int32, y = x6 + (1 : Int32) := ⟨_, rfl⟩
          have hw := hw z45 ez45
          refine v_iinc (v := z45) (lv2 := [(0, .ref b), (1, .ref a0.1), (2, .int (0 : Int32)), (3, .long z44), (5, .int r35), (6, .int z45), (7, .int x7), (14, .long z34), (16, .int r35), (17, .int z37), (18, .int z38), (19, .int r39)]) (pc2 := 486) S 5 dL_law_483 rfl (by rw [ez45]; rfl) (by decide) [1, 2, 3, 4, 5, 0, 6, 7, 8, 9, 10, 11] rfl rfl ?_
          refine v_goto (tgt := 84) S dL_law_486 (by decide) ?_
          refine v_lv [(0, .ref b), (1, .ref a0.1), (2, .int (0 : Int32)), (3, .long z44), (5, .int r35), (6, .int z45)] [0, 1, 2, 3, 4, 5] rfl ?_
          exact hK84 (0 : Int32) z44 r35 z45 u42 hw
        · have hw := hw.2 c43
          refine v_iload (pc2 := 389) S 11 dL_law_387 rfl rfl ?_
          refine v_if_ne (pc2 := 392) (tgt := 396) S dL_law_389 (by decide) rfl (fun c46 => ?_) (fun c46 => ?_)
          · have hw := hw.1 c46
            refine v_iconst (v := 0) (pc2 := 397) S dL_law_396 (by decide) rfl ?_
            refine v_lv [(0, .ref b), (1, .ref a0.1), (3, .long x3), (5, .int x5), (6, .int x6), (14, .long z34), (16, .int r35), (17, .int z37), (18, .int z38)] [0, 1, 3, 4, 5, 7, 8, 9, 10] rfl ?_
            exact B397 a0 x3 x5 x6 z34 r35 z37 z38 (0 : Int32) u42 K84 hK84 hw
          · have hw := hw.2 c46
            refine v_iconst (v := 1) (pc2 := 393) S dL_law_392 (by decide) rfl ?_
            refine v_goto (tgt := 397) S dL_law_393 (by decide) ?_
            refine v_lv [(0, .ref b), (1, .ref a0.1), (3, .long x3), (5, .int x5), (6, .int x6), (14, .long z34), (16, .int r35), (17, .int z37), (18, .int z38)] [0, 1, 3, 4, 5, 7, 8, 9, 10] rfl ?_
            exact B397 a0 x3 x5 x6 z34 r35 z37 z38 (1 : Int32) u42 K84 hK84 hw
  have B319 : ∀ (a0 : CDA) (x3 : Int64) (x5 : Int32) (x6 : Int32) (x7 : Int32) (t0 : Int32) (w0 : CDV) (K84 : Int32 → Int64 → Int32 → Int32 → CDV → Prop) (hK84 : ∀ (y0 : Int32) (y1 : Int64) (y2 : Int32) (y3 : Int32) (y4 : CDV), K84 y0 y1 y2 y3 y4 → V p l e room_1 s m #[Value.ref b] below meth c G (fun q : Nat => s.heap.size ≤ q) 20 600000 7302250 (lw_Z below #[Value.ref b] s) (wCD G a0 y4.1 y4.2.1 y4.2.2.1 y4.2.2.2.1 y4.2.2.2.2.1 y4.2.2.2.2.2.1 y4.2.2.2.2.2.2) 84 [(0, .ref b), (1, .ref a0.1), (2, .int y0), (3, .long y1), (5, .int y2), (6, .int y3)] []), wp_L_law_B319 xs L x3 x5 x6 x7 t0 w0 Q K84 → V p l e room_1 s m #[Value.ref b] below meth c G (fun q : Nat => s.heap.size ≤ q) 20 600000 7302250 (lw_Z below #[Value.ref b] s) (wCD G a0 w0.1 w0.2.1 w0.2.2.1 w0.2.2.2.1 w0.2.2.2.2.1 w0.2.2.2.2.2.1 w0.2.2.2.2.2.2) 319 [(0, .ref b), (1, .ref a0.1), (3, .long x3), (5, .int x5), (6, .int x6), (7, .int x7)] [.int t0] := by
    intro a0 x3 x5 x6 x7 t0 w0 K84 hK84 hw
    refine v_istore_n (lv2 := [(0, .ref b), (1, .ref a0.1), (2, .int t0), (3, .long x3), (5, .int x5), (6, .int x6), (7, .int x7)]) (pc2 := 320) S dL_law_319 rfl (by decide) [1, 2, 0, 3, 4, 5, 6] rfl rfl ?_
    exact B320 a0 t0 x3 x5 x6 x7 w0 K84 hK84 hw
  have B318 : ∀ (a0 : CDA) (x3 : Int64) (x5 : Int32) (x6 : Int32) (x7 : Int32) (w0 : CDV) (K84 : Int32 → Int64 → Int32 → Int32 → CDV → Prop) (hK84 : ∀ (y0 : Int32) (y1 : Int64) (y2 : Int32) (y3 : Int32) (y4 : CDV), K84 y0 y1 y2 y3 y4 → V p l e room_1 s m #[Value.ref b] below meth c G (fun q : Nat => s.heap.size ≤ q) 20 600000 7302250 (lw_Z below #[Value.ref b] s) (wCD G a0 y4.1 y4.2.1 y4.2.2.1 y4.2.2.2.1 y4.2.2.2.2.1 y4.2.2.2.2.2.1 y4.2.2.2.2.2.2) 84 [(0, .ref b), (1, .ref a0.1), (2, .int y0), (3, .long y1), (5, .int y2), (6, .int y3)] []), wp_L_law_B318 xs L x3 x5 x6 x7 w0 Q K84 → V p l e room_1 s m #[Value.ref b] below meth c G (fun q : Nat => s.heap.size ≤ q) 20 600000 7302250 (lw_Z below #[Value.ref b] s) (wCD G a0 w0.1 w0.2.1 w0.2.2.1 w0.2.2.2.1 w0.2.2.2.2.1 w0.2.2.2.2.2.1 w0.2.2.2.2.2.2) 318 [(0, .ref b), (1, .ref a0.1), (3, .long x3), (5, .int x5), (6, .int x6), (7, .int x7)] [] := by
    intro a0 x3 x5 x6 x7 w0 K84 hK84 hw
    refine v_iconst (v := 0) (pc2 := 319) S dL_law_318 (by decide) rfl ?_
    exact B319 a0 x3 x5 x6 x7 (0 : Int32) w0 K84 hK84 hw
  have B301 : ∀ (a0 : CDA) (x3 : Int64) (x5 : Int32) (x6 : Int32) (x7 : Int32) (x8 : Int64) (t0 : Int32) (t1 : Int32) (w0 : CDV) (K84 : Int32 → Int64 → Int32 → Int32 → CDV → Prop) (hK84 : ∀ (y0 : Int32) (y1 : Int64) (y2 : Int32) (y3 : Int32) (y4 : CDV), K84 y0 y1 y2 y3 y4 → V p l e room_1 s m #[Value.ref b] below meth c G (fun q : Nat => s.heap.size ≤ q) 20 600000 7302250 (lw_Z below #[Value.ref b] s) (wCD G a0 y4.1 y4.2.1 y4.2.2.1 y4.2.2.2.1 y4.2.2.2.2.1 y4.2.2.2.2.2.1 y4.2.2.2.2.2.2) 84 [(0, .ref b), (1, .ref a0.1), (2, .int y0), (3, .long y1), (5, .int y2), (6, .int y3)] []), wp_L_law_B301 xs L x3 x5 x6 x7 x8 t0 t1 w0 Q K84 → V p l e room_1 s m #[Value.ref b] below meth c G (fun q : Nat => s.heap.size ≤ q) 20 600000 7302250 (lw_Z below #[Value.ref b] s) (wCD G a0 w0.1 w0.2.1 w0.2.2.1 w0.2.2.2.1 w0.2.2.2.2.1 w0.2.2.2.2.2.1 w0.2.2.2.2.2.2) 301 [(0, .ref b), (1, .ref a0.1), (3, .long x3), (5, .int x5), (6, .int x6), (7, .int x7), (8, .long x8)] [.int t1, .int t0] := by
    intro a0 x3 x5 x6 x7 x8 t0 t1 w0 K84 hK84 hw
    refine v_icmp_ne (pc2 := 304) (tgt := 318) S dL_law_301 (by decide) rfl (fun c90 => ?_) (fun c90 => ?_)
    · have hw := hw.1 c90
      refine v_lv [(0, .ref b), (1, .ref a0.1), (3, .long x3), (5, .int x5), (6, .int x6), (7, .int x7)] [0, 1, 2, 3, 4, 5] rfl ?_
      exact B318 a0 x3 x5 x6 x7 w0 K84 hK84 hw
    · have hw := hw.2 c90
      refine v_aload_n (pc2 := 305) S 1 dL_law_304 rfl rfl rfl ?_
      refine v_callS (pc2 := 308) (As := [.ref a0.1]) (rest := []) S (c_L_seen l G a0 w0 _ hw) mf_L_seen u_479 u_480 rfl rfl ⟨rfl, rfl⟩ ⟨Nat.le_of_ble_eq_true rfl, Nat.le_of_ble_eq_true rfl⟩ ⟨Nat.le_of_ble_eq_true rfl, Nat.le_of_ble_eq_true rfl⟩ (Nat.le_of_ble_eq_true rfl) dL_law_305 (frW _) rfl (pl (fun r91 u92 hw => ?_))
      refine v_to (wCD G a0 w0.1 w0.2.1 w0.2.2.1 w0.2.2.2.1 w0.2.2.2.2.1 w0.2.2.2.2.2.1 w0.2.2.2.2.2.2) 308 [(0, .ref b), (1, .ref a0.1), (3, .long x3), (5, .int x5), (6, .int x6), (7, .int x7), (8, .long x8)] _ [.long r91] rfl rfl rfl rfl ?_
      refine v_lload (pc2 := 310) S 6 dL_law_308 rfl rfl ?_
      refine v_lcmp (pc2 := 311) S dL_law_310 rfl ?_
      refine v_if_ne (pc2 := 314) (tgt := 318) S dL_law_311 (by decide) rfl (fun c93 => ?_) (fun c93 => ?_)
      · have hw := hw.1 c93
        refine v_lv [(0, .ref b), (1, .ref a0.1), (3, .long x3), (5, .int x5), (6, .int x6), (7, .int x7)] [0, 1, 2, 3, 4, 5] rfl ?_
        exact B318 a0 x3 x5 x6 x7 w0 K84 hK84 hw
      · have hw := hw.2 c93
        refine v_iconst (v := 1) (pc2 := 315) S dL_law_314 (by decide) rfl ?_
        refine v_goto (tgt := 319) S dL_law_315 (by decide) ?_
        refine v_lv [(0, .ref b), (1, .ref a0.1), (3, .long x3), (5, .int x5), (6, .int x6), (7, .int x7)] [0, 1, 2, 3, 4, 5] rfl ?_
        exact B319 a0 x3 x5 x6 x7 (1 : Int32) w0 K84 hK84 hw
  have B265 : ∀ (a0 : CDA) (x3 : Int64) (x5 : Int32) (x6 : Int32) (x7 : Int32) (x8 : Int64) (x10 : Int32) (x12 : Int32) (t0 : Int32) (w0 : CDV) (K84 : Int32 → Int64 → Int32 → Int32 → CDV → Prop) (hK84 : ∀ (y0 : Int32) (y1 : Int64) (y2 : Int32) (y3 : Int32) (y4 : CDV), K84 y0 y1 y2 y3 y4 → V p l e room_1 s m #[Value.ref b] below meth c G (fun q : Nat => s.heap.size ≤ q) 20 600000 7302250 (lw_Z below #[Value.ref b] s) (wCD G a0 y4.1 y4.2.1 y4.2.2.1 y4.2.2.2.1 y4.2.2.2.2.1 y4.2.2.2.2.2.1 y4.2.2.2.2.2.2) 84 [(0, .ref b), (1, .ref a0.1), (2, .int y0), (3, .long y1), (5, .int y2), (6, .int y3)] []), wp_L_law_B265 xs L x3 x5 x6 x7 x8 x10 x12 t0 w0 Q K84 → V p l e room_1 s m #[Value.ref b] below meth c G (fun q : Nat => s.heap.size ≤ q) 20 600000 7302250 (lw_Z below #[Value.ref b] s) (wCD G a0 w0.1 w0.2.1 w0.2.2.1 w0.2.2.2.1 w0.2.2.2.2.1 w0.2.2.2.2.2.1 w0.2.2.2.2.2.2) 265 [(0, .ref b), (1, .ref a0.1), (3, .long x3), (5, .int x5), (6, .int x6), (7, .int x7), (8, .long x8), (10, .int x10), (12, .int x12)] [.int t0] := by
    intro a0 x3 x5 x6 x7 x8 x10 x12 t0 w0 K84 hK84 hw
    refine v_istore_n (lv2 := [(0, .ref b), (1, .ref a0.1), (2, .int t0), (3, .long x3), (5, .int x5), (6, .int x6), (7, .int x7), (8, .long x8), (10, .int x10), (12, .int x12)]) (pc2 := 266) S dL_law_265 rfl (by decide) [1, 2, 0, 3, 4, 5, 6, 7, 8, 9] rfl rfl ?_
    refine v_iload_n (pc2 := 267) S 2 dL_law_266 rfl rfl rfl ?_
    refine v_if_eq (pc2 := 270) (tgt := 320) S dL_law_267 (by decide) rfl (fun c27 => ?_) (fun c27 => ?_)
    · have hw := hw.1 c27
      refine v_lv [(0, .ref b), (1, .ref a0.1), (2, .int t0), (3, .long x3), (5, .int x5), (6, .int x6), (7, .int x7)] [0, 1, 2, 3, 4, 5, 6] rfl ?_
      exact B320 a0 t0 x3 x5 x6 x7 w0 K84 hK84 hw
    · have hw := hw.2 c27
      refine v_iload (pc2 := 272) S 9 dL_law_270 rfl rfl ?_
      refine v_if_lt (pc2 := 275) (tgt := 320) S dL_law_272 (by decide) rfl (fun c85 => ?_) (fun c85 => ?_)
      · have hw := hw.1 c85
        refine v_lv [(0, .ref b), (1, .ref a0.1), (2, .int t0), (3, .long x3), (5, .int x5), (6, .int x6), (7, .int x7)] [0, 1, 2, 3, 4, 5, 6] rfl ?_
        exact B320 a0 t0 x3 x5 x6 x7 w0 K84 hK84 hw
      · have hw := hw.2 c85
        refine v_iload (pc2 := 277) S 6 dL_law_275 rfl rfl ?_
        refine v_bipush (v := 17) (pc2 := 279) S dL_law_277 (by decide) rfl ?_
        refine v_idiv (pc2 := 280) S (by decide) dL_law_279 rfl ?_
        refine v_iconst (v := 4) (pc2 := 281) S dL_law_280 (by decide) rfl ?_
        refine v_irem (pc2 := 282) S (by decide) dL_law_281 rfl ?_
        refine v_if_ne (pc2 := 285) (tgt := 320) S dL_law_282 (by decide) rfl (fun c86 => ?_) (fun c86 => ?_)
        · have hw := hw.1 c86
          refine v_lv [(0, .ref b), (1, .ref a0.1), (2, .int t0), (3, .long x3), (5, .int x5), (6, .int x6), (7, .int x7)] [0, 1, 2, 3, 4, 5, 6] rfl ?_
          exact B320 a0 t0 x3 x5 x6 x7 w0 K84 hK84 hw
        · have hw := hw.2 c86
          refine v_aload_n (pc2 := 286) S 1 dL_law_285 rfl rfl rfl ?_
          refine v_callV (pc2 := 289) (As := []) (rest := []) S (c_X8_undo l G a0 w0 _ hw) mf_X8_undo u_424 u_425 u_426 0 8 rfl rfl rfl rfl ⟨rfl, rfl⟩ ⟨Nat.le_of_ble_eq_true rfl, Nat.le_of_ble_eq_true rfl⟩ ⟨Nat.le_of_ble_eq_true rfl, Nat.le_of_ble_eq_true rfl⟩ (Nat.le_of_ble_eq_true rfl) dL_law_286 (frW _) rfl (pi (fun r87 u88 hw => ?_))
          refine v_to (wCD G a0 u88.1 u88.2.1 u88.2.2.1 u88.2.2.2.1 u88.2.2.2.2.1 u88.2.2.2.2.2.1 u88.2.2.2.2.2.2) 289 [(0, .ref b), (1, .ref a0.1), (2, .int t0), (3, .long x3), (5, .int x5), (6, .int x6), (7, .int x7), (8, .long x8), (10, .int x10), (12, .int x12)] _ [.int r87] rfl rfl rfl rfl ?_
          refine v_iload (pc2 := 291) S 8 dL_law_289 rfl rfl ?_
          refine v_iconst (v := 4) (pc2 := 292) S dL_law_291 (by decide) rfl ?_
          refine v_icmp_ge (pc2 := 295) (tgt := 300) S dL_law_292 (by decide) rfl (fun c89 => ?_) (fun c89 => ?_)
          · have hw := hw.1 c89
            refine v_iconst (v := 3) (pc2 := 301) S dL_law_300 (by decide) rfl ?_
            refine v_lv [(0, .ref b), (1, .ref a0.1), (3, .long x3), (5, .int x5), (6, .int x6), (7, .int x7), (8, .long x8)] [0, 1, 3, 4, 5, 6, 7] rfl ?_
            exact B301 a0 x3 x5 x6 x7 x8 r87 (3 : Int32) u88 K84 hK84 hw
          · have hw := hw.2 c89
            refine v_iload (pc2 := 297) S 8 dL_law_295 rfl rfl ?_
            refine v_goto (tgt := 301) S dL_law_297 (by decide) ?_
            refine v_lv [(0, .ref b), (1, .ref a0.1), (3, .long x3), (5, .int x5), (6, .int x6), (7, .int x7), (8, .long x8)] [0, 1, 3, 4, 5, 6, 7] rfl ?_
            exact B301 a0 x3 x5 x6 x7 x8 r87 x10 u88 K84 hK84 hw
  have B264 : ∀ (a0 : CDA) (x3 : Int64) (x5 : Int32) (x6 : Int32) (x7 : Int32) (x8 : Int64) (x10 : Int32) (x12 : Int32) (w0 : CDV) (K84 : Int32 → Int64 → Int32 → Int32 → CDV → Prop) (hK84 : ∀ (y0 : Int32) (y1 : Int64) (y2 : Int32) (y3 : Int32) (y4 : CDV), K84 y0 y1 y2 y3 y4 → V p l e room_1 s m #[Value.ref b] below meth c G (fun q : Nat => s.heap.size ≤ q) 20 600000 7302250 (lw_Z below #[Value.ref b] s) (wCD G a0 y4.1 y4.2.1 y4.2.2.1 y4.2.2.2.1 y4.2.2.2.2.1 y4.2.2.2.2.2.1 y4.2.2.2.2.2.2) 84 [(0, .ref b), (1, .ref a0.1), (2, .int y0), (3, .long y1), (5, .int y2), (6, .int y3)] []), wp_L_law_B264 xs L x3 x5 x6 x7 x8 x10 x12 w0 Q K84 → V p l e room_1 s m #[Value.ref b] below meth c G (fun q : Nat => s.heap.size ≤ q) 20 600000 7302250 (lw_Z below #[Value.ref b] s) (wCD G a0 w0.1 w0.2.1 w0.2.2.1 w0.2.2.2.1 w0.2.2.2.2.1 w0.2.2.2.2.2.1 w0.2.2.2.2.2.2) 264 [(0, .ref b), (1, .ref a0.1), (3, .long x3), (5, .int x5), (6, .int x6), (7, .int x7), (8, .long x8), (10, .int x10), (12, .int x12)] [] := by
    intro a0 x3 x5 x6 x7 x8 x10 x12 w0 K84 hK84 hw
    refine v_iconst (v := 0) (pc2 := 265) S dL_law_264 (by decide) rfl ?_
    exact B265 a0 x3 x5 x6 x7 x8 x10 x12 (0 : Int32) w0 K84 hK84 hw
  have B260 : ∀ (a0 : CDA) (x3 : Int64) (x5 : Int32) (x6 : Int32) (x7 : Int32) (x8 : Int64) (x10 : Int32) (x12 : Int32) (w0 : CDV) (K84 : Int32 → Int64 → Int32 → Int32 → CDV → Prop) (hK84 : ∀ (y0 : Int32) (y1 : Int64) (y2 : Int32) (y3 : Int32) (y4 : CDV), K84 y0 y1 y2 y3 y4 → V p l e room_1 s m #[Value.ref b] below meth c G (fun q : Nat => s.heap.size ≤ q) 20 600000 7302250 (lw_Z below #[Value.ref b] s) (wCD G a0 y4.1 y4.2.1 y4.2.2.1 y4.2.2.2.1 y4.2.2.2.2.1 y4.2.2.2.2.2.1 y4.2.2.2.2.2.2) 84 [(0, .ref b), (1, .ref a0.1), (2, .int y0), (3, .long y1), (5, .int y2), (6, .int y3)] []), wp_L_law_B260 xs L x3 x5 x6 x7 x8 x10 x12 w0 Q K84 → V p l e room_1 s m #[Value.ref b] below meth c G (fun q : Nat => s.heap.size ≤ q) 20 600000 7302250 (lw_Z below #[Value.ref b] s) (wCD G a0 w0.1 w0.2.1 w0.2.2.1 w0.2.2.2.1 w0.2.2.2.2.1 w0.2.2.2.2.2.1 w0.2.2.2.2.2.2) 260 [(0, .ref b), (1, .ref a0.1), (3, .long x3), (5, .int x5), (6, .int x6), (7, .int x7), (8, .long x8), (10, .int x10), (12, .int x12)] [] := by
    intro a0 x3 x5 x6 x7 x8 x10 x12 w0 K84 hK84 hw
    refine v_iconst (v := 1) (pc2 := 261) S dL_law_260 (by decide) rfl ?_
    refine v_goto (tgt := 265) S dL_law_261 (by decide) ?_
    exact B265 a0 x3 x5 x6 x7 x8 x10 x12 (1 : Int32) w0 K84 hK84 hw
  have B224 : ∀ (a0 : CDA) (x3 : Int64) (x5 : Int32) (x6 : Int32) (x7 : Int32) (x8 : Int64) (x10 : Int32) (x12 : Int32) (w0 : CDV) (K84 : Int32 → Int64 → Int32 → Int32 → CDV → Prop) (hK84 : ∀ (y0 : Int32) (y1 : Int64) (y2 : Int32) (y3 : Int32) (y4 : CDV), K84 y0 y1 y2 y3 y4 → V p l e room_1 s m #[Value.ref b] below meth c G (fun q : Nat => s.heap.size ≤ q) 20 600000 7302250 (lw_Z below #[Value.ref b] s) (wCD G a0 y4.1 y4.2.1 y4.2.2.1 y4.2.2.2.1 y4.2.2.2.2.1 y4.2.2.2.2.2.1 y4.2.2.2.2.2.2) 84 [(0, .ref b), (1, .ref a0.1), (2, .int y0), (3, .long y1), (5, .int y2), (6, .int y3)] []), wp_L_law_B224 xs L x3 x5 x6 x7 x8 x10 x12 w0 Q K84 → V p l e room_1 s m #[Value.ref b] below meth c G (fun q : Nat => s.heap.size ≤ q) 20 600000 7302250 (lw_Z below #[Value.ref b] s) (wCD G a0 w0.1 w0.2.1 w0.2.2.1 w0.2.2.2.1 w0.2.2.2.2.1 w0.2.2.2.2.2.1 w0.2.2.2.2.2.2) 224 [(0, .ref b), (1, .ref a0.1), (3, .long x3), (5, .int x5), (6, .int x6), (7, .int x7), (8, .long x8), (10, .int x10), (12, .int x12)] [] := by
    intro a0 x3 x5 x6 x7 x8 x10 x12 w0 K84 hK84 hw
    refine v_aload_n (pc2 := 225) S 1 dL_law_224 rfl rfl rfl ?_
    refine v_callS (pc2 := 228) (As := [.ref a0.1]) (rest := []) S (c_L_areDoors l G a0 w0 _ hw) mf_L_areDoors u_506 u_507 rfl rfl ⟨rfl, rfl⟩ ⟨Nat.le_of_ble_eq_true rfl, Nat.le_of_ble_eq_true rfl⟩ ⟨Nat.le_of_ble_eq_true rfl, Nat.le_of_ble_eq_true rfl⟩ (Nat.le_of_ble_eq_true rfl) dL_law_225 (frW _) rfl (pb (fun r103 u104 br103 hw => ?_))
    refine v_to (wCD G a0 w0.1 w0.2.1 w0.2.2.1 w0.2.2.2.1 w0.2.2.2.2.1 w0.2.2.2.2.2.1 w0.2.2.2.2.2.2) 228 [(0, .ref b), (1, .ref a0.1), (3, .long x3), (5, .int x5), (6, .int x6), (7, .int x7), (8, .long x8), (10, .int x10), (12, .int x12)] _ [.int r103] rfl rfl rfl rfl ?_
    refine v_if_eq (pc2 := 231) (tgt := 264) S dL_law_228 (by decide) rfl (fun c105 => ?_) (fun c105 => ?_)
    · have hw := hw.1 c105
      exact B264 a0 x3 x5 x6 x7 x8 x10 x12 w0 K84 hK84 hw
    · have hw := hw.2 c105
      refine v_aload_n (pc2 := 232) S 1 dL_law_231 rfl rfl rfl ?_
      refine v_callS (pc2 := 235) (As := [.ref a0.1]) (rest := []) S (c_L_areHalls l G a0 w0 _ hw) mf_L_areHalls u_521 u_522 rfl rfl ⟨rfl, rfl⟩ ⟨Nat.le_of_ble_eq_true rfl, Nat.le_of_ble_eq_true rfl⟩ ⟨Nat.le_of_ble_eq_true rfl, Nat.le_of_ble_eq_true rfl⟩ (Nat.le_of_ble_eq_true rfl) dL_law_232 (frW _) rfl (pb (fun r106 u107 br106 hw => ?_))
      refine v_to (wCD G a0 w0.1 w0.2.1 w0.2.2.1 w0.2.2.2.1 w0.2.2.2.2.1 w0.2.2.2.2.2.1 w0.2.2.2.2.2.2) 235 [(0, .ref b), (1, .ref a0.1), (3, .long x3), (5, .int x5), (6, .int x6), (7, .int x7), (8, .long x8), (10, .int x10), (12, .int x12)] _ [.int r106] rfl rfl rfl rfl ?_
      refine v_if_eq (pc2 := 238) (tgt := 264) S dL_law_235 (by decide) rfl (fun c108 => ?_) (fun c108 => ?_)
      · have hw := hw.1 c108
        exact B264 a0 x3 x5 x6 x7 x8 x10 x12 w0 K84 hK84 hw
      · have hw := hw.2 c108
        refine v_iload (pc2 := 240) S 4 dL_law_238 rfl rfl ?_
        refine v_bipush (v := 8) (pc2 := 242) S dL_law_240 (by decide) rfl ?_
        refine v_irem (pc2 := 243) S (by decide) dL_law_242 rfl ?_
        refine v_bipush (v := 7) (pc2 := 245) S dL_law_243 (by decide) rfl ?_
        refine v_icmp_ne (pc2 := 248) (tgt := 260) S dL_law_245 (by decide) rfl (fun c109 => ?_) (fun c109 => ?_)
        · have hw := hw.1 c109
          exact B260 a0 x3 x5 x6 x7 x8 x10 x12 w0 K84 hK84 hw
        · have hw := hw.2 c109
          refine v_aload_n (pc2 := 249) S 1 dL_law_248 rfl rfl rfl ?_
          refine v_iload (pc2 := 251) S 5 dL_law_249 rfl rfl ?_
          refine v_bipush (v := 7) (pc2 := 253) S dL_law_251 (by decide) rfl ?_
          refine v_idiv (pc2 := 254) S (by decide) dL_law_253 rfl ?_
          refine v_callS (pc2 := 257) (As := [.ref a0.1, .int (x7 / (7 : Int32))]) (rest := []) S (c_L_refuses l G a0 w0 (x7 / (7 : Int32)) _ hw) mf_L_refuses u_537 u_538 rfl rfl ⟨rfl, rfl⟩ ⟨Nat.le_of_ble_eq_true rfl, Nat.le_of_ble_eq_true rfl⟩ ⟨Nat.le_of_ble_eq_true rfl, Nat.le_of_ble_eq_true rfl⟩ (Nat.le_of_ble_eq_true rfl) dL_law_254 (frW _) rfl (pb (fun r110 u111 br110 hw => ?_))
          refine v_to (wCD G a0 u111.1 u111.2.1 u111.2.2.1 u111.2.2.2.1 u111.2.2.2.2.1 u111.2.2.2.2.2.1 u111.2.2.2.2.2.2) 257 [(0, .ref b), (1, .ref a0.1), (3, .long x3), (5, .int x5), (6, .int x6), (7, .int x7), (8, .long x8), (10, .int x10), (12, .int x12)] _ [.int r110] rfl rfl rfl rfl ?_
          refine v_if_eq (pc2 := 260) (tgt := 264) S dL_law_257 (by decide) rfl (fun c112 => ?_) (fun c112 => ?_)
          · have hw := hw.1 c112
            exact B264 a0 x3 x5 x6 x7 x8 x10 x12 u111 K84 hK84 hw
          · have hw := hw.2 c112
            exact B260 a0 x3 x5 x6 x7 x8 x10 x12 u111 K84 hK84 hw
  have B220 : ∀ (a0 : CDA) (x3 : Int64) (x5 : Int32) (x6 : Int32) (x7 : Int32) (x8 : Int64) (x10 : Int32) (x12 : Int32) (t0 : Int32) (t1 : Int32) (t2 : Int32) (w0 : CDV) (K84 : Int32 → Int64 → Int32 → Int32 → CDV → Prop) (hK84 : ∀ (y0 : Int32) (y1 : Int64) (y2 : Int32) (y3 : Int32) (y4 : CDV), K84 y0 y1 y2 y3 y4 → V p l e room_1 s m #[Value.ref b] below meth c G (fun q : Nat => s.heap.size ≤ q) 20 600000 7302250 (lw_Z below #[Value.ref b] s) (wCD G a0 y4.1 y4.2.1 y4.2.2.1 y4.2.2.2.1 y4.2.2.2.2.1 y4.2.2.2.2.2.1 y4.2.2.2.2.2.2) 84 [(0, .ref b), (1, .ref a0.1), (2, .int y0), (3, .long y1), (5, .int y2), (6, .int y3)] []), wp_L_law_B220 xs L x3 x5 x6 x7 x8 x10 x12 t0 t1 t2 w0 Q K84 → V p l e room_1 s m #[Value.ref b] below meth c G (fun q : Nat => s.heap.size ≤ q) 20 600000 7302250 (lw_Z below #[Value.ref b] s) (wCD G a0 w0.1 w0.2.1 w0.2.2.1 w0.2.2.2.1 w0.2.2.2.2.1 w0.2.2.2.2.2.1 w0.2.2.2.2.2.2) 220 [(0, .ref b), (1, .ref a0.1), (3, .long x3), (5, .int x5), (6, .int x6), (7, .int x7), (8, .long x8), (10, .int x10), (12, .int x12)] [.int t2, .int t1, .int t0] := by
    intro a0 x3 x5 x6 x7 x8 x10 x12 t0 t1 t2 w0 K84 hK84 hw
    refine v_iadd (pc2 := 221) S dL_law_220 rfl ?_
    refine v_icmp_ne (pc2 := 224) (tgt := 264) S dL_law_221 (by decide) rfl (fun c102 => ?_) (fun c102 => ?_)
    · have hw := hw.1 c102
      exact B264 a0 x3 x5 x6 x7 x8 x10 x12 w0 K84 hK84 hw
    · have hw := hw.2 c102
      exact B224 a0 x3 x5 x6 x7 x8 x10 x12 w0 K84 hK84 hw
  have B219 : ∀ (a0 : CDA) (x3 : Int64) (x5 : Int32) (x6 : Int32) (x7 : Int32) (x8 : Int64) (x10 : Int32) (x12 : Int32) (t0 : Int32) (t1 : Int32) (w0 : CDV) (K84 : Int32 → Int64 → Int32 → Int32 → CDV → Prop) (hK84 : ∀ (y0 : Int32) (y1 : Int64) (y2 : Int32) (y3 : Int32) (y4 : CDV), K84 y0 y1 y2 y3 y4 → V p l e room_1 s m #[Value.ref b] below meth c G (fun q : Nat => s.heap.size ≤ q) 20 600000 7302250 (lw_Z below #[Value.ref b] s) (wCD G a0 y4.1 y4.2.1 y4.2.2.1 y4.2.2.2.1 y4.2.2.2.2.1 y4.2.2.2.2.2.1 y4.2.2.2.2.2.2) 84 [(0, .ref b), (1, .ref a0.1), (2, .int y0), (3, .long y1), (5, .int y2), (6, .int y3)] []), wp_L_law_B219 xs L x3 x5 x6 x7 x8 x10 x12 t0 t1 w0 Q K84 → V p l e room_1 s m #[Value.ref b] below meth c G (fun q : Nat => s.heap.size ≤ q) 20 600000 7302250 (lw_Z below #[Value.ref b] s) (wCD G a0 w0.1 w0.2.1 w0.2.2.1 w0.2.2.2.1 w0.2.2.2.2.1 w0.2.2.2.2.2.1 w0.2.2.2.2.2.2) 219 [(0, .ref b), (1, .ref a0.1), (3, .long x3), (5, .int x5), (6, .int x6), (7, .int x7), (8, .long x8), (10, .int x10), (12, .int x12)] [.int t1, .int t0] := by
    intro a0 x3 x5 x6 x7 x8 x10 x12 t0 t1 w0 K84 hK84 hw
    refine v_iconst (v := 0) (pc2 := 220) S dL_law_219 (by decide) rfl ?_
    exact B220 a0 x3 x5 x6 x7 x8 x10 x12 t0 t1 (0 : Int32) w0 K84 hK84 hw
  have B189 : ∀ (a0 : CDA) (x3 : Int64) (x5 : Int32) (x6 : Int32) (x7 : Int32) (x8 : Int64) (x10 : Int32) (x11 : Int32) (x12 : Int32) (t0 : Int32) (t1 : Int32) (w0 : CDV) (K84 : Int32 → Int64 → Int32 → Int32 → CDV → Prop) (hK84 : ∀ (y0 : Int32) (y1 : Int64) (y2 : Int32) (y3 : Int32) (y4 : CDV), K84 y0 y1 y2 y3 y4 → V p l e room_1 s m #[Value.ref b] below meth c G (fun q : Nat => s.heap.size ≤ q) 20 600000 7302250 (lw_Z below #[Value.ref b] s) (wCD G a0 y4.1 y4.2.1 y4.2.2.1 y4.2.2.2.1 y4.2.2.2.2.1 y4.2.2.2.2.2.1 y4.2.2.2.2.2.2) 84 [(0, .ref b), (1, .ref a0.1), (2, .int y0), (3, .long y1), (5, .int y2), (6, .int y3)] []), wp_L_law_B189 xs L x3 x5 x6 x7 x8 x10 x11 x12 t0 t1 w0 Q K84 → V p l e room_1 s m #[Value.ref b] below meth c G (fun q : Nat => s.heap.size ≤ q) 20 600000 7302250 (lw_Z below #[Value.ref b] s) (wCD G a0 w0.1 w0.2.1 w0.2.2.1 w0.2.2.2.1 w0.2.2.2.2.1 w0.2.2.2.2.2.1 w0.2.2.2.2.2.2) 189 [(0, .ref b), (1, .ref a0.1), (3, .long x3), (5, .int x5), (6, .int x6), (7, .int x7), (8, .long x8), (10, .int x10), (11, .int x11), (12, .int x12)] [.int t1, .int t0] := by
    intro a0 x3 x5 x6 x7 x8 x10 x11 x12 t0 t1 w0 K84 hK84 hw
    refine v_icmp_ne (pc2 := 192) (tgt := 264) S dL_law_189 (by decide) rfl (fun c96 => ?_) (fun c96 => ?_)
    · have hw := hw.1 c96
      refine v_lv [(0, .ref b), (1, .ref a0.1), (3, .long x3), (5, .int x5), (6, .int x6), (7, .int x7), (8, .long x8), (10, .int x10), (12, .int x12)] [0, 1, 2, 3, 4, 5, 6, 7, 9] rfl ?_
      exact B264 a0 x3 x5 x6 x7 x8 x10 x12 w0 K84 hK84 hw
    · have hw := hw.2 c96
      refine v_aload_n (pc2 := 193) S 1 dL_law_192 rfl rfl rfl ?_
      refine v_bipush (v := 11) (pc2 := 195) S dL_law_193 (by decide) rfl ?_
      refine v_callV (pc2 := 198) (As := [.int (11 : Int32)]) (rest := []) S (c_X8_count l G a0 w0 (11 : Int32) _ hw) mf_X8_count u_398 u_399 u_400 0 8 rfl rfl rfl rfl ⟨rfl, rfl⟩ ⟨Nat.le_of_ble_eq_true rfl, Nat.le_of_ble_eq_true rfl⟩ ⟨Nat.le_of_ble_eq_true rfl, Nat.le_of_ble_eq_true rfl⟩ (Nat.le_of_ble_eq_true rfl) dL_law_195 (frW _) rfl (pi (fun r97 u98 hw => ?_))
      refine v_to (wCD G a0 w0.1 w0.2.1 w0.2.2.1 w0.2.2.2.1 w0.2.2.2.2.1 w0.2.2.2.2.2.1 w0.2.2.2.2.2.2) 198 [(0, .ref b), (1, .ref a0.1), (3, .long x3), (5, .int x5), (6, .int x6), (7, .int x7), (8, .long x8), (10, .int x10), (11, .int x11), (12, .int x12)] _ [.int r97] rfl rfl rfl rfl ?_
      refine v_iload (pc2 := 200) S 8 dL_law_198 rfl rfl ?_
      refine v_iload (pc2 := 202) S 5 dL_law_200 rfl rfl ?_
      refine v_callS (pc2 := 205) (As := [.int x7]) (rest := [.int x11, .int r97]) S (c_L_isDeed l G x7 _ hw) mf_L_isDeed u_750 u_751 rfl rfl ⟨rfl, rfl⟩ ⟨Nat.le_of_ble_eq_true rfl, Nat.le_of_ble_eq_true rfl⟩ ⟨Nat.le_of_ble_eq_true rfl, Nat.le_of_ble_eq_true rfl⟩ (Nat.le_of_ble_eq_true rfl) dL_law_202 (frM [] [] _) rfl (pb (fun r99 u100 br99 hw => ?_))
      refine v_to (wCD G a0 w0.1 w0.2.1 w0.2.2.1 w0.2.2.2.1 w0.2.2.2.2.1 w0.2.2.2.2.2.1 w0.2.2.2.2.2.2) 205 [(0, .ref b), (1, .ref a0.1), (3, .long x3), (5, .int x5), (6, .int x6), (7, .int x7), (8, .long x8), (10, .int x10), (11, .int x11), (12, .int x12)] _ [.int r99, .int x11, .int r97] rfl rfl rfl rfl ?_
      refine v_if_eq (pc2 := 208) (tgt := 219) S dL_law_205 (by decide) rfl (fun c101 => ?_) (fun c101 => ?_)
      · have hw := hw.1 c101
        refine v_lv [(0, .ref b), (1, .ref a0.1), (3, .long x3), (5, .int x5), (6, .int x6), (7, .int x7), (8, .long x8), (10, .int x10), (12, .int x12)] [0, 1, 2, 3, 4, 5, 6, 7, 9] rfl ?_
        exact B219 a0 x3 x5 x6 x7 x8 x10 x12 r97 x11 w0 K84 hK84 hw
      · have hw := hw.2 c101
        refine v_iload (pc2 := 210) S 9 dL_law_208 rfl rfl ?_
        refine v_bipush (v := 10) (pc2 := 212) S dL_law_210 (by decide) rfl ?_
        refine v_icmp_ge (pc2 := 215) (tgt := 219) S dL_law_212 (by decide) rfl (fun c113 => ?_) (fun c113 => ?_)
        · have hw := hw.1 c113
          refine v_lv [(0, .ref b), (1, .ref a0.1), (3, .long x3), (5, .int x5), (6, .int x6), (7, .int x7), (8, .long x8), (10, .int x10), (12, .int x12)] [0, 1, 2, 3, 4, 5, 6, 7, 9] rfl ?_
          exact B219 a0 x3 x5 x6 x7 x8 x10 x12 r97 x11 w0 K84 hK84 hw
        · have hw := hw.2 c113
          refine v_iconst (v := 1) (pc2 := 216) S dL_law_215 (by decide) rfl ?_
          refine v_goto (tgt := 220) S dL_law_216 (by decide) ?_
          refine v_lv [(0, .ref b), (1, .ref a0.1), (3, .long x3), (5, .int x5), (6, .int x6), (7, .int x7), (8, .long x8), (10, .int x10), (12, .int x12)] [0, 1, 2, 3, 4, 5, 6, 7, 9] rfl ?_
          exact B220 a0 x3 x5 x6 x7 x8 x10 x12 r97 x11 (1 : Int32) w0 K84 hK84 hw
  have L84 : ∀ (a0 : CDA) (kk : Nat) (x2 : Int32) (x3 : Int64) (x5 : Int32) (x6 : Int32) (w0 : CDV), wp_L_law_L84 xs L Q kk x2 x3 x5 x6 w0 → V p l e room_1 s m #[Value.ref b] below meth c G (fun q : Nat => s.heap.size ≤ q) 20 600000 7302250 (lw_Z below #[Value.ref b] s) (wCD G a0 w0.1 w0.2.1 w0.2.2.1 w0.2.2.2.1 w0.2.2.2.2.1 w0.2.2.2.2.2.1 w0.2.2.2.2.2.2) 84 [(0, .ref b), (1, .ref a0.1), (2, .int x2), (3, .long x3), (5, .int x5), (6, .int x6)] [] := by
    intro a0 kk
    induction kk with
    | zero => intro x2 x3 x5 x6 w0 hw; exact hw.elim
    | succ n ih =>
      intro x2 x3 x5 x6 w0 hw
      refine v_iload (pc2 := 86) S 5 dL_law_84 rfl rfl ?_
      refine v_bipush (v := 60) (pc2 := 88) S dL_law_86 (by decide) rfl ?_
      refine v_icmp_ge (pc2 := 91) (tgt := 489) S dL_law_88 (by decide) rfl (fun c11 => ?_) (fun c11 => ?_)
      · have hw := hw.1 c11
        refine v_iload_n (pc2 := 490) S 2 dL_law_489 rfl rfl rfl ?_
        refine v_to _ _ _ _ [.int 1] rfl rfl rfl (congrArg (fun z : Int32 => [Value.int z]) hw) ?_
        exact v_law1 S dL_law_490
      · have hw := hw.2 c11
        refine v_iload_n (pc2 := 92) S 2 dL_law_91 rfl rfl rfl ?_
        refine v_if_eq (pc2 := 95) (tgt := 489) S dL_law_92 (by decide) rfl (fun c12 => ?_) (fun c12 => ?_)
        · have hw := hw.1 c12
          refine v_iload_n (pc2 := 490) S 2 dL_law_489 rfl rfl rfl ?_
          refine v_to _ _ _ _ [.int 1] rfl rfl rfl (congrArg (fun z : Int32 => [Value.int z]) hw) ?_
          exact v_law1 S dL_law_490
        · have hw := hw.2 c12
          refine v_aload_n (pc2 := 96) S 0 dL_law_95 rfl rfl rfl ?_
          refine v_iload (pc2 := 98) S 5 dL_law_96 rfl rfl ?_
          refine v_callX (pc2 := 101) (As := [.ref b, .int x6]) (rest := []) S hX hbl (Nat.not_le.mpr hbl) (c_L_cell l G b L xs x6 _ hw) mf_L_cell u_473 u_474 rfl rfl ⟨rfl, rfl⟩ ⟨Nat.le_of_ble_eq_true rfl, Nat.le_of_ble_eq_true rfl⟩ ⟨Nat.le_of_ble_eq_true rfl, Nat.le_of_ble_eq_true rfl⟩ (Nat.le_of_ble_eq_true rfl) dL_law_98 rfl (pi (fun r13 u14 hw => ?_))
          refine v_to (wCD G a0 w0.1 w0.2.1 w0.2.2.1 w0.2.2.2.1 w0.2.2.2.2.1 w0.2.2.2.2.2.1 w0.2.2.2.2.2.2) 101 [(0, .ref b), (1, .ref a0.1), (2, .int x2), (3, .long x3), (5, .int x5), (6, .int x6)] _ [.int r13] rfl rfl rfl rfl ?_
          refine v_istore (lv2 := [(0, .ref b), (1, .ref a0.1), (2, .int x2), (3, .long x3), (5, .int x5), (6, .int x6), (7, .int r13)]) (pc2 := 103) S dL_law_101 (by decide) [1, 2, 3, 4, 5, 6, 0] rfl rfl ?_
          refine v_aload_n (pc2 := 104) S 1 dL_law_103 rfl rfl rfl ?_
          refine v_callS (pc2 := 107) (As := [.ref a0.1]) (rest := []) S (c_L_seen l G a0 w0 _ hw) mf_L_seen u_479 u_480 rfl rfl ⟨rfl, rfl⟩ ⟨Nat.le_of_ble_eq_true rfl, Nat.le_of_ble_eq_true rfl⟩ ⟨Nat.le_of_ble_eq_true rfl, Nat.le_of_ble_eq_true rfl⟩ (Nat.le_of_ble_eq_true rfl) dL_law_104 (frW _) rfl (pl (fun r15 u16 hw => ?_))
          refine v_to (wCD G a0 w0.1 w0.2.1 w0.2.2.1 w0.2.2.2.1 w0.2.2.2.2.1 w0.2.2.2.2.2.1 w0.2.2.2.2.2.2) 107 [(0, .ref b), (1, .ref a0.1), (2, .int x2), (3, .long x3), (5, .int x5), (6, .int x6), (7, .int r13)] _ [.long r15] rfl rfl rfl rfl ?_
          refine v_nml (fun z17 ez17 => ?_)
          have hw := hw z17 ez17
          refine v_lstore (lv2 := [(0, .ref b), (1, .ref a0.1), (2, .int x2), (3, .long x3), (5, .int x5), (6, .int x6), (7, .int r13), (8, .long z17)]) (pc2 := 109) S dL_law_107 (by decide) [1, 2, 3, 4, 5, 6, 7, 0] rfl rfl ?_
          refine v_aload_n (pc2 := 110) S 1 dL_law_109 rfl rfl rfl ?_
          refine v_bipush (v := 14) (pc2 := 112) S dL_law_110 (by decide) rfl ?_
          refine v_callV (pc2 := 115) (As := [.int (14 : Int32)]) (rest := []) S (c_X8_count l G a0 w0 (14 : Int32) _ hw) mf_X8_count u_398 u_399 u_400 0 8 rfl rfl rfl rfl ⟨rfl, rfl⟩ ⟨Nat.le_of_ble_eq_true rfl, Nat.le_of_ble_eq_true rfl⟩ ⟨Nat.le_of_ble_eq_true rfl, Nat.le_of_ble_eq_true rfl⟩ (Nat.le_of_ble_eq_true rfl) dL_law_112 (frW _) rfl (pi (fun r18 u19 hw => ?_))
          refine v_to (wCD G a0 w0.1 w0.2.1 w0.2.2.1 w0.2.2.2.1 w0.2.2.2.2.1 w0.2.2.2.2.2.1 w0.2.2.2.2.2.2) 115 [(0, .ref b), (1, .ref a0.1), (2, .int x2), (3, .long x3), (5, .int x5), (6, .int x6), (7, .int r13), (8, .long z17)] _ [.int r18] rfl rfl rfl rfl ?_
          refine v_istore (lv2 := [(0, .ref b), (1, .ref a0.1), (2, .int x2), (3, .long x3), (5, .int x5), (6, .int x6), (7, .int r13), (8, .long z17), (10, .int r18)]) (pc2 := 117) S dL_law_115 (by decide) [1, 2, 3, 4, 5, 6, 7, 8, 0] rfl rfl ?_
          refine v_aload_n (pc2 := 118) S 1 dL_law_117 rfl rfl rfl ?_
          refine v_bipush (v := 11) (pc2 := 120) S dL_law_118 (by decide) rfl ?_
          refine v_callV (pc2 := 123) (As := [.int (11 : Int32)]) (rest := []) S (c_X8_count l G a0 w0 (11 : Int32) _ hw) mf_X8_count u_398 u_399 u_400 0 8 rfl rfl rfl rfl ⟨rfl, rfl⟩ ⟨Nat.le_of_ble_eq_true rfl, Nat.le_of_ble_eq_true rfl⟩ ⟨Nat.le_of_ble_eq_true rfl, Nat.le_of_ble_eq_true rfl⟩ (Nat.le_of_ble_eq_true rfl) dL_law_120 (frW _) rfl (pi (fun r20 u21 hw => ?_))
          refine v_to (wCD G a0 w0.1 w0.2.1 w0.2.2.1 w0.2.2.2.1 w0.2.2.2.2.1 w0.2.2.2.2.2.1 w0.2.2.2.2.2.2) 123 [(0, .ref b), (1, .ref a0.1), (2, .int x2), (3, .long x3), (5, .int x5), (6, .int x6), (7, .int r13), (8, .long z17), (10, .int r18)] _ [.int r20] rfl rfl rfl rfl ?_
          refine v_istore (lv2 := [(0, .ref b), (1, .ref a0.1), (2, .int x2), (3, .long x3), (5, .int x5), (6, .int x6), (7, .int r13), (8, .long z17), (10, .int r18), (11, .int r20)]) (pc2 := 125) S dL_law_123 (by decide) [1, 2, 3, 4, 5, 6, 7, 8, 9, 0] rfl rfl ?_
          refine v_aload_n (pc2 := 126) S 1 dL_law_125 rfl rfl rfl ?_
          refine v_iload (pc2 := 128) S 6 dL_law_126 rfl rfl ?_
          refine v_callS (pc2 := 131) (As := [.ref a0.1, .int r13]) (rest := []) S (c_L_act l G a0 w0 r13 _ hw) mf_L_act u_747 u_748 rfl rfl ⟨rfl, rfl⟩ ⟨Nat.le_of_ble_eq_true rfl, Nat.le_of_ble_eq_true rfl⟩ ⟨Nat.le_of_ble_eq_true rfl, Nat.le_of_ble_eq_true rfl⟩ (Nat.le_of_ble_eq_true rfl) dL_law_128 (frW _) rfl (pi (fun r22 u23 hw => ?_))
          refine v_to (wCD G a0 u23.1 u23.2.1 u23.2.2.1 u23.2.2.2.1 u23.2.2.2.2.1 u23.2.2.2.2.2.1 u23.2.2.2.2.2.2) 131 [(0, .ref b), (1, .ref a0.1), (2, .int x2), (3, .long x3), (5, .int x5), (6, .int x6), (7, .int r13), (8, .long z17), (10, .int r18), (11, .int r20)] _ [.int r22] rfl rfl rfl rfl ?_
          refine v_istore (lv2 := [(0, .ref b), (1, .ref a0.1), (2, .int x2), (3, .long x3), (5, .int x5), (6, .int x6), (7, .int r13), (8, .long z17), (10, .int r18), (11, .int r20), (12, .int r22)]) (pc2 := 133) S dL_law_131 (by decide) [1, 2, 3, 4, 5, 6, 7, 8, 9, 10, 0] rfl rfl ?_
          refine v_aload_n (pc2 := 134) S 1 dL_law_133 rfl rfl rfl ?_
          refine v_bipush (v := 14) (pc2 := 136) S dL_law_134 (by decide) rfl ?_
          refine v_callV (pc2 := 139) (As := [.int (14 : Int32)]) (rest := []) S (c_X8_count l G a0 u23 (14 : Int32) _ hw) mf_X8_count u_398 u_399 u_400 0 8 rfl rfl rfl rfl ⟨rfl, rfl⟩ ⟨Nat.le_of_ble_eq_true rfl, Nat.le_of_ble_eq_true rfl⟩ ⟨Nat.le_of_ble_eq_true rfl, Nat.le_of_ble_eq_true rfl⟩ (Nat.le_of_ble_eq_true rfl) dL_law_136 (frW _) rfl (pi (fun r24 u25 hw => ?_))
          refine v_to (wCD G a0 u23.1 u23.2.1 u23.2.2.1 u23.2.2.2.1 u23.2.2.2.2.1 u23.2.2.2.2.2.1 u23.2.2.2.2.2.2) 139 [(0, .ref b), (1, .ref a0.1), (2, .int x2), (3, .long x3), (5, .int x5), (6, .int x6), (7, .int r13), (8, .long z17), (10, .int r18), (11, .int r20), (12, .int r22)] _ [.int r24] rfl rfl rfl rfl ?_
          refine v_istore (lv2 := [(0, .ref b), (1, .ref a0.1), (2, .int x2), (3, .long x3), (5, .int x5), (6, .int x6), (7, .int r13), (8, .long z17), (10, .int r18), (11, .int r20), (12, .int r22), (13, .int r24)]) (pc2 := 141) S dL_law_139 (by decide) [1, 2, 3, 4, 5, 6, 7, 8, 9, 10, 11, 0] rfl rfl ?_
          refine v_iload (pc2 := 143) S 10 dL_law_141 rfl rfl ?_
          refine v_bipush (v := -9) (pc2 := 145) S dL_law_143 (by decide) rfl ?_
          refine v_icmp_eq (pc2 := 148) (tgt := 264) S dL_law_145 (by decide) rfl (fun c26 => ?_) (fun c26 => ?_)
          · have hw := hw.1 c26
            refine v_lv [(0, .ref b), (1, .ref a0.1), (3, .long x3), (5, .int x5), (6, .int x6), (7, .int r13), (8, .long z17), (10, .int r18), (12, .int r22)] [0, 1, 3, 4, 5, 6, 7, 8, 10] rfl ?_
            exact B264 a0 x3 x5 x6 r13 z17 r18 r22 u23 (wp_L_law_L84 xs L Q n) ih hw
          · have hw := hw.2 c26
            refine v_iload (pc2 := 150) S 10 dL_law_148 rfl rfl ?_
            refine v_if_ge (pc2 := 153) (tgt := 173) S dL_law_150 (by decide) rfl (fun c94 => ?_) (fun c94 => ?_)
            · have hw := hw.1 c94
              refine v_iload (pc2 := 175) S 11 dL_law_173 rfl rfl ?_
              refine v_iload (pc2 := 177) S 8 dL_law_175 rfl rfl ?_
              refine v_iconst (v := 4) (pc2 := 178) S dL_law_177 (by decide) rfl ?_
              refine v_icmp_ge (pc2 := 181) (tgt := 188) S dL_law_178 (by decide) rfl (fun c95 => ?_) (fun c95 => ?_)
              · have hw := hw.1 c95
                refine v_iconst (v := 4) (pc2 := 189) S dL_law_188 (by decide) rfl ?_
                refine v_lv [(0, .ref b), (1, .ref a0.1), (3, .long x3), (5, .int x5), (6, .int x6), (7, .int r13), (8, .long z17), (10, .int r18), (11, .int r20), (12, .int r22)] [0, 1, 3, 4, 5, 6, 7, 8, 9, 10] rfl ?_
                exact B189 a0 x3 x5 x6 r13 z17 r18 r20 r22 r24 (4 : Int32) u23 (wp_L_law_L84 xs L Q n) ih hw
              · have hw := hw.2 c95
                refine v_iload (pc2 := 183) S 8 dL_law_181 rfl rfl ?_
                refine v_iconst (v := 1) (pc2 := 184) S dL_law_183 (by decide) rfl ?_
                refine v_iadd (pc2 := 185) S dL_law_184 rfl ?_
                refine v_goto (tgt := 189) S dL_law_185 (by decide) ?_
                refine v_lv [(0, .ref b), (1, .ref a0.1), (3, .long x3), (5, .int x5), (6, .int x6), (7, .int r13), (8, .long z17), (10, .int r18), (11, .int r20), (12, .int r22)] [0, 1, 3, 4, 5, 6, 7, 8, 9, 10] rfl ?_
                exact B189 a0 x3 x5 x6 r13 z17 r18 r20 r22 r24 (r18 + (1 : Int32)) u23 (wp_L_law_L84 xs L Q n) ih hw
            · have hw := hw.2 c94
              refine v_iload (pc2 := 155) S 11 dL_law_153 rfl rfl ?_
              refine v_iload (pc2 := 157) S 8 dL_law_155 rfl rfl ?_
              refine v_icmp_ne (pc2 := 160) (tgt := 264) S dL_law_157 (by decide) rfl (fun c114 => ?_) (fun c114 => ?_)
              · have hw := hw.1 c114
                refine v_lv [(0, .ref b), (1, .ref a0.1), (3, .long x3), (5, .int x5), (6, .int x6), (7, .int r13), (8, .long z17), (10, .int r18), (12, .int r22)] [0, 1, 3, 4, 5, 6, 7, 8, 10] rfl ?_
                exact B264 a0 x3 x5 x6 r13 z17 r18 r22 u23 (wp_L_law_L84 xs L Q n) ih hw
              · have hw := hw.2 c114
                refine v_aload_n (pc2 := 161) S 1 dL_law_160 rfl rfl rfl ?_
                refine v_callS (pc2 := 164) (As := [.ref a0.1]) (rest := []) S (c_L_seen l G a0 u23 _ hw) mf_L_seen u_479 u_480 rfl rfl ⟨rfl, rfl⟩ ⟨Nat.le_of_ble_eq_true rfl, Nat.le_of_ble_eq_true rfl⟩ ⟨Nat.le_of_ble_eq_true rfl, Nat.le_of_ble_eq_true rfl⟩ (Nat.le_of_ble_eq_true rfl) dL_law_161 (frW _) rfl (pl (fun r115 u116 hw => ?_))
                refine v_to (wCD G a0 u23.1 u23.2.1 u23.2.2.1 u23.2.2.2.1 u23.2.2.2.2.1 u23.2.2.2.2.2.1 u23.2.2.2.2.2.2) 164 [(0, .ref b), (1, .ref a0.1), (2, .int x2), (3, .long x3), (5, .int x5), (6, .int x6), (7, .int r13), (8, .long z17), (10, .int r18), (11, .int r20), (12, .int r22), (13, .int r24)] _ [.long r115] rfl rfl rfl rfl ?_
                refine v_lload (pc2 := 166) S 7 dL_law_164 rfl rfl ?_
                refine v_lcmp (pc2 := 167) S dL_law_166 rfl ?_
                refine v_if_ne (pc2 := 170) (tgt := 264) S dL_law_167 (by decide) rfl (fun c117 => ?_) (fun c117 => ?_)
                · have hw := hw.1 c117
                  refine v_lv [(0, .ref b), (1, .ref a0.1), (3, .long x3), (5, .int x5), (6, .int x6), (7, .int r13), (8, .long z17), (10, .int r18), (12, .int r22)] [0, 1, 3, 4, 5, 6, 7, 8, 10] rfl ?_
                  exact B264 a0 x3 x5 x6 r13 z17 r18 r22 u23 (wp_L_law_L84 xs L Q n) ih hw
                · have hw := hw.2 c117
                  refine v_goto (tgt := 224) S dL_law_170 (by decide) ?_
                  refine v_lv [(0, .ref b), (1, .ref a0.1), (3, .long x3), (5, .int x5), (6, .int x6), (7, .int r13), (8, .long z17), (10, .int r18), (12, .int r22)] [0, 1, 3, 4, 5, 6, 7, 8, 10] rfl ?_
                  exact B224 a0 x3 x5 x6 r13 z17 r18 r22 u23 (wp_L_law_L84 xs L Q n) ih hw
  have B8 : ∀ (a0 : CDA) (w0 : CDV), wp_L_law_B8 xs L w0 Q → V p l e room_1 s m #[Value.ref b] below meth c G (fun q : Nat => s.heap.size ≤ q) 20 600000 7302250 (lw_Z below #[Value.ref b] s) (wCD G a0 w0.1 w0.2.1 w0.2.2.1 w0.2.2.2.1 w0.2.2.2.2.1 w0.2.2.2.2.2.1 w0.2.2.2.2.2.2) 8 [(0, .ref b), (1, .ref a0.1)] [] := by
    intro a0 w0 hw
    refine v_aload_n (pc2 := 9) S 1 dL_law_8 rfl rfl rfl ?_
    refine v_callV (pc2 := 12) (As := []) (rest := []) S (c_X8_undo l G a0 w0 _ hw) mf_X8_undo u_424 u_425 u_426 0 8 rfl rfl rfl rfl ⟨rfl, rfl⟩ ⟨Nat.le_of_ble_eq_true rfl, Nat.le_of_ble_eq_true rfl⟩ ⟨Nat.le_of_ble_eq_true rfl, Nat.le_of_ble_eq_true rfl⟩ (Nat.le_of_ble_eq_true rfl) dL_law_9 (frW _) rfl (pi (fun r5 u6 hw => ?_))
    refine v_to (wCD G a0 u6.1 u6.2.1 u6.2.2.1 u6.2.2.2.1 u6.2.2.2.2.1 u6.2.2.2.2.2.1 u6.2.2.2.2.2.2) 12 [(0, .ref b), (1, .ref a0.1)] _ [.int r5] rfl rfl rfl rfl ?_
    refine v_bipush (v := -2) (pc2 := 14) S dL_law_12 (by decide) rfl ?_
    refine v_icmp_ne (pc2 := 17) (tgt := 71) S dL_law_14 (by decide) rfl (fun c7 => ?_) (fun c7 => ?_)
    · have hw := hw.1 c7
      refine v_iconst (v := 0) (pc2 := 72) S dL_law_71 (by decide) rfl ?_
      refine v_istore_n (lv2 := [(0, .ref b), (1, .ref a0.1), (2, .int (0 : Int32))]) (pc2 := 73) S dL_law_72 rfl (by decide) [1, 2, 0] rfl rfl ?_
      refine v_aload_n (pc2 := 74) S 1 dL_law_73 rfl rfl rfl ?_
      refine v_callS (pc2 := 77) (As := [.ref a0.1]) (rest := []) S (c_L_seen l G a0 u6 _ hw) mf_L_seen u_479 u_480 rfl rfl ⟨rfl, rfl⟩ ⟨Nat.le_of_ble_eq_true rfl, Nat.le_of_ble_eq_true rfl⟩ ⟨Nat.le_of_ble_eq_true rfl, Nat.le_of_ble_eq_true rfl⟩ (Nat.le_of_ble_eq_true rfl) dL_law_74 (frW _) rfl (pl (fun r8 u9 hw => ?_))
      refine v_to (wCD G a0 u6.1 u6.2.1 u6.2.2.1 u6.2.2.2.1 u6.2.2.2.2.1 u6.2.2.2.2.2.1 u6.2.2.2.2.2.2) 77 [(0, .ref b), (1, .ref a0.1), (2, .int (0 : Int32))] _ [.long r8] rfl rfl rfl rfl ?_
      refine v_nml (fun z10 ez10 => ?_)
      have hw := hw z10 ez10
      refine v_lstore_n (lv2 := [(0, .ref b), (1, .ref a0.1), (2, .int (0 : Int32)), (3, .long z10)]) (pc2 := 78) S dL_law_77 rfl (by decide) [1, 2, 3, 0] rfl rfl ?_
      refine v_iconst (v := 0) (pc2 := 79) S dL_law_78 (by decide) rfl ?_
      refine v_istore (lv2 := [(0, .ref b), (1, .ref a0.1), (2, .int (0 : Int32)), (3, .long z10), (5, .int (0 : Int32))]) (pc2 := 81) S dL_law_79 (by decide) [1, 2, 3, 4, 0] rfl rfl ?_
      refine v_iconst (v := 0) (pc2 := 82) S dL_law_81 (by decide) rfl ?_
      refine v_istore (lv2 := [(0, .ref b), (1, .ref a0.1), (2, .int (0 : Int32)), (3, .long z10), (5, .int (0 : Int32)), (6, .int (0 : Int32))]) (pc2 := 84) S dL_law_82 (by decide) [1, 2, 3, 4, 5, 0] rfl rfl ?_
      obtain ⟨kk, hw⟩ := hw
      exact L84 a0 kk (0 : Int32) z10 (0 : Int32) (0 : Int32) u6 hw
    · have hw := hw.2 c7
      refine v_aload_n (pc2 := 18) S 1 dL_law_17 rfl rfl rfl ?_
      refine v_callV (pc2 := 21) (As := []) (rest := []) S (c_X8_restore l G a0 u6 _ hw) mf_X8_restore u_465 u_466 u_467 0 8 rfl rfl rfl rfl ⟨rfl, rfl⟩ ⟨Nat.le_of_ble_eq_true rfl, Nat.le_of_ble_eq_true rfl⟩ ⟨Nat.le_of_ble_eq_true rfl, Nat.le_of_ble_eq_true rfl⟩ (Nat.le_of_ble_eq_true rfl) dL_law_18 (frW _) rfl (pi (fun r118 u119 hw => ?_))
      refine v_to (wCD G a0 u119.1 u119.2.1 u119.2.2.1 u119.2.2.2.1 u119.2.2.2.2.1 u119.2.2.2.2.2.1 u119.2.2.2.2.2.2) 21 [(0, .ref b), (1, .ref a0.1)] _ [.int r118] rfl rfl rfl rfl ?_
      refine v_bipush (v := -2) (pc2 := 23) S dL_law_21 (by decide) rfl ?_
      refine v_icmp_ne (pc2 := 26) (tgt := 71) S dL_law_23 (by decide) rfl (fun c120 => ?_) (fun c120 => ?_)
      · have hw := hw.1 c120
        refine v_iconst (v := 0) (pc2 := 72) S dL_law_71 (by decide) rfl ?_
        refine v_istore_n (lv2 := [(0, .ref b), (1, .ref a0.1), (2, .int (0 : Int32))]) (pc2 := 73) S dL_law_72 rfl (by decide) [1, 2, 0] rfl rfl ?_
        refine v_aload_n (pc2 := 74) S 1 dL_law_73 rfl rfl rfl ?_
        refine v_callS (pc2 := 77) (As := [.ref a0.1]) (rest := []) S (c_L_seen l G a0 u119 _ hw) mf_L_seen u_479 u_480 rfl rfl ⟨rfl, rfl⟩ ⟨Nat.le_of_ble_eq_true rfl, Nat.le_of_ble_eq_true rfl⟩ ⟨Nat.le_of_ble_eq_true rfl, Nat.le_of_ble_eq_true rfl⟩ (Nat.le_of_ble_eq_true rfl) dL_law_74 (frW _) rfl (pl (fun r121 u122 hw => ?_))
        refine v_to (wCD G a0 u119.1 u119.2.1 u119.2.2.1 u119.2.2.2.1 u119.2.2.2.2.1 u119.2.2.2.2.2.1 u119.2.2.2.2.2.2) 77 [(0, .ref b), (1, .ref a0.1), (2, .int (0 : Int32))] _ [.long r121] rfl rfl rfl rfl ?_
        refine v_nml (fun z123 ez123 => ?_)
        have hw := hw z123 ez123
        refine v_lstore_n (lv2 := [(0, .ref b), (1, .ref a0.1), (2, .int (0 : Int32)), (3, .long z123)]) (pc2 := 78) S dL_law_77 rfl (by decide) [1, 2, 3, 0] rfl rfl ?_
        refine v_iconst (v := 0) (pc2 := 79) S dL_law_78 (by decide) rfl ?_
        refine v_istore (lv2 := [(0, .ref b), (1, .ref a0.1), (2, .int (0 : Int32)), (3, .long z123), (5, .int (0 : Int32))]) (pc2 := 81) S dL_law_79 (by decide) [1, 2, 3, 4, 0] rfl rfl ?_
        refine v_iconst (v := 0) (pc2 := 82) S dL_law_81 (by decide) rfl ?_
        refine v_istore (lv2 := [(0, .ref b), (1, .ref a0.1), (2, .int (0 : Int32)), (3, .long z123), (5, .int (0 : Int32)), (6, .int (0 : Int32))]) (pc2 := 84) S dL_law_82 (by decide) [1, 2, 3, 4, 5, 0] rfl rfl ?_
        obtain ⟨kk, hw⟩ := hw
        exact L84 a0 kk (0 : Int32) z123 (0 : Int32) (0 : Int32) u119 hw
      · have hw := hw.2 c120
        refine v_aload_n (pc2 := 27) S 1 dL_law_26 rfl rfl rfl ?_
        refine v_bipush (v := 12) (pc2 := 29) S dL_law_27 (by decide) rfl ?_
        refine v_callV (pc2 := 32) (As := [.int (12 : Int32)]) (rest := []) S (c_X8_count l G a0 u119 (12 : Int32) _ hw) mf_X8_count u_398 u_399 u_400 0 8 rfl rfl rfl rfl ⟨rfl, rfl⟩ ⟨Nat.le_of_ble_eq_true rfl, Nat.le_of_ble_eq_true rfl⟩ ⟨Nat.le_of_ble_eq_true rfl, Nat.le_of_ble_eq_true rfl⟩ (Nat.le_of_ble_eq_true rfl) dL_law_29 (frW _) rfl (pi (fun r124 u125 hw => ?_))
        refine v_to (wCD G a0 u119.1 u119.2.1 u119.2.2.1 u119.2.2.2.1 u119.2.2.2.2.1 u119.2.2.2.2.2.1 u119.2.2.2.2.2.2) 32 [(0, .ref b), (1, .ref a0.1)] _ [.int r124] rfl rfl rfl rfl ?_
        refine v_iconst (v := 3) (pc2 := 33) S dL_law_32 (by decide) rfl ?_
        refine v_icmp_ne (pc2 := 36) (tgt := 71) S dL_law_33 (by decide) rfl (fun c126 => ?_) (fun c126 => ?_)
        · have hw := hw.1 c126
          refine v_iconst (v := 0) (pc2 := 72) S dL_law_71 (by decide) rfl ?_
          refine v_istore_n (lv2 := [(0, .ref b), (1, .ref a0.1), (2, .int (0 : Int32))]) (pc2 := 73) S dL_law_72 rfl (by decide) [1, 2, 0] rfl rfl ?_
          refine v_aload_n (pc2 := 74) S 1 dL_law_73 rfl rfl rfl ?_
          refine v_callS (pc2 := 77) (As := [.ref a0.1]) (rest := []) S (c_L_seen l G a0 u119 _ hw) mf_L_seen u_479 u_480 rfl rfl ⟨rfl, rfl⟩ ⟨Nat.le_of_ble_eq_true rfl, Nat.le_of_ble_eq_true rfl⟩ ⟨Nat.le_of_ble_eq_true rfl, Nat.le_of_ble_eq_true rfl⟩ (Nat.le_of_ble_eq_true rfl) dL_law_74 (frW _) rfl (pl (fun r127 u128 hw => ?_))
          refine v_to (wCD G a0 u119.1 u119.2.1 u119.2.2.1 u119.2.2.2.1 u119.2.2.2.2.1 u119.2.2.2.2.2.1 u119.2.2.2.2.2.2) 77 [(0, .ref b), (1, .ref a0.1), (2, .int (0 : Int32))] _ [.long r127] rfl rfl rfl rfl ?_
          refine v_nml (fun z129 ez129 => ?_)
          have hw := hw z129 ez129
          refine v_lstore_n (lv2 := [(0, .ref b), (1, .ref a0.1), (2, .int (0 : Int32)), (3, .long z129)]) (pc2 := 78) S dL_law_77 rfl (by decide) [1, 2, 3, 0] rfl rfl ?_
          refine v_iconst (v := 0) (pc2 := 79) S dL_law_78 (by decide) rfl ?_
          refine v_istore (lv2 := [(0, .ref b), (1, .ref a0.1), (2, .int (0 : Int32)), (3, .long z129), (5, .int (0 : Int32))]) (pc2 := 81) S dL_law_79 (by decide) [1, 2, 3, 4, 0] rfl rfl ?_
          refine v_iconst (v := 0) (pc2 := 82) S dL_law_81 (by decide) rfl ?_
          refine v_istore (lv2 := [(0, .ref b), (1, .ref a0.1), (2, .int (0 : Int32)), (3, .long z129), (5, .int (0 : Int32)), (6, .int (0 : Int32))]) (pc2 := 84) S dL_law_82 (by decide) [1, 2, 3, 4, 5, 0] rfl rfl ?_
          obtain ⟨kk, hw⟩ := hw
          exact L84 a0 kk (0 : Int32) z129 (0 : Int32) (0 : Int32) u119 hw
        · have hw := hw.2 c126
          refine v_aload_n (pc2 := 37) S 1 dL_law_36 rfl rfl rfl ?_
          refine v_iconst (v := 0) (pc2 := 38) S dL_law_37 (by decide) rfl ?_
          refine v_callV (pc2 := 41) (As := [.int (0 : Int32)]) (rest := []) S (c_X8_count l G a0 u119 (0 : Int32) _ hw) mf_X8_count u_398 u_399 u_400 0 8 rfl rfl rfl rfl ⟨rfl, rfl⟩ ⟨Nat.le_of_ble_eq_true rfl, Nat.le_of_ble_eq_true rfl⟩ ⟨Nat.le_of_ble_eq_true rfl, Nat.le_of_ble_eq_true rfl⟩ (Nat.le_of_ble_eq_true rfl) dL_law_38 (frW _) rfl (pi (fun r130 u131 hw => ?_))
          refine v_to (wCD G a0 u119.1 u119.2.1 u119.2.2.1 u119.2.2.2.1 u119.2.2.2.2.1 u119.2.2.2.2.2.1 u119.2.2.2.2.2.2) 41 [(0, .ref b), (1, .ref a0.1)] _ [.int r130] rfl rfl rfl rfl ?_
          refine v_if_ne (pc2 := 44) (tgt := 71) S dL_law_41 (by decide) rfl (fun c132 => ?_) (fun c132 => ?_)
          · have hw := hw.1 c132
            refine v_iconst (v := 0) (pc2 := 72) S dL_law_71 (by decide) rfl ?_
            refine v_istore_n (lv2 := [(0, .ref b), (1, .ref a0.1), (2, .int (0 : Int32))]) (pc2 := 73) S dL_law_72 rfl (by decide) [1, 2, 0] rfl rfl ?_
            refine v_aload_n (pc2 := 74) S 1 dL_law_73 rfl rfl rfl ?_
            refine v_callS (pc2 := 77) (As := [.ref a0.1]) (rest := []) S (c_L_seen l G a0 u119 _ hw) mf_L_seen u_479 u_480 rfl rfl ⟨rfl, rfl⟩ ⟨Nat.le_of_ble_eq_true rfl, Nat.le_of_ble_eq_true rfl⟩ ⟨Nat.le_of_ble_eq_true rfl, Nat.le_of_ble_eq_true rfl⟩ (Nat.le_of_ble_eq_true rfl) dL_law_74 (frW _) rfl (pl (fun r133 u134 hw => ?_))
            refine v_to (wCD G a0 u119.1 u119.2.1 u119.2.2.1 u119.2.2.2.1 u119.2.2.2.2.1 u119.2.2.2.2.2.1 u119.2.2.2.2.2.2) 77 [(0, .ref b), (1, .ref a0.1), (2, .int (0 : Int32))] _ [.long r133] rfl rfl rfl rfl ?_
            refine v_nml (fun z135 ez135 => ?_)
            have hw := hw z135 ez135
            refine v_lstore_n (lv2 := [(0, .ref b), (1, .ref a0.1), (2, .int (0 : Int32)), (3, .long z135)]) (pc2 := 78) S dL_law_77 rfl (by decide) [1, 2, 3, 0] rfl rfl ?_
            refine v_iconst (v := 0) (pc2 := 79) S dL_law_78 (by decide) rfl ?_
            refine v_istore (lv2 := [(0, .ref b), (1, .ref a0.1), (2, .int (0 : Int32)), (3, .long z135), (5, .int (0 : Int32))]) (pc2 := 81) S dL_law_79 (by decide) [1, 2, 3, 4, 0] rfl rfl ?_
            refine v_iconst (v := 0) (pc2 := 82) S dL_law_81 (by decide) rfl ?_
            refine v_istore (lv2 := [(0, .ref b), (1, .ref a0.1), (2, .int (0 : Int32)), (3, .long z135), (5, .int (0 : Int32)), (6, .int (0 : Int32))]) (pc2 := 84) S dL_law_82 (by decide) [1, 2, 3, 4, 5, 0] rfl rfl ?_
            obtain ⟨kk, hw⟩ := hw
            exact L84 a0 kk (0 : Int32) z135 (0 : Int32) (0 : Int32) u119 hw
          · have hw := hw.2 c132
            refine v_aload_n (pc2 := 45) S 1 dL_law_44 rfl rfl rfl ?_
            refine v_iconst (v := 0) (pc2 := 46) S dL_law_45 (by decide) rfl ?_
            refine v_callS (pc2 := 49) (As := [.ref a0.1, .int (0 : Int32)]) (rest := []) S (c_L_refuses l G a0 u119 (0 : Int32) _ hw) mf_L_refuses u_537 u_538 rfl rfl ⟨rfl, rfl⟩ ⟨Nat.le_of_ble_eq_true rfl, Nat.le_of_ble_eq_true rfl⟩ ⟨Nat.le_of_ble_eq_true rfl, Nat.le_of_ble_eq_true rfl⟩ (Nat.le_of_ble_eq_true rfl) dL_law_46 (frW _) rfl (pb (fun r136 u137 br136 hw => ?_))
            refine v_to (wCD G a0 u137.1 u137.2.1 u137.2.2.1 u137.2.2.2.1 u137.2.2.2.2.1 u137.2.2.2.2.2.1 u137.2.2.2.2.2.2) 49 [(0, .ref b), (1, .ref a0.1)] _ [.int r136] rfl rfl rfl rfl ?_
            refine v_if_eq (pc2 := 52) (tgt := 71) S dL_law_49 (by decide) rfl (fun c138 => ?_) (fun c138 => ?_)
            · have hw := hw.1 c138
              refine v_iconst (v := 0) (pc2 := 72) S dL_law_71 (by decide) rfl ?_
              refine v_istore_n (lv2 := [(0, .ref b), (1, .ref a0.1), (2, .int (0 : Int32))]) (pc2 := 73) S dL_law_72 rfl (by decide) [1, 2, 0] rfl rfl ?_
              refine v_aload_n (pc2 := 74) S 1 dL_law_73 rfl rfl rfl ?_
              refine v_callS (pc2 := 77) (As := [.ref a0.1]) (rest := []) S (c_L_seen l G a0 u137 _ hw) mf_L_seen u_479 u_480 rfl rfl ⟨rfl, rfl⟩ ⟨Nat.le_of_ble_eq_true rfl, Nat.le_of_ble_eq_true rfl⟩ ⟨Nat.le_of_ble_eq_true rfl, Nat.le_of_ble_eq_true rfl⟩ (Nat.le_of_ble_eq_true rfl) dL_law_74 (frW _) rfl (pl (fun r139 u140 hw => ?_))
              refine v_to (wCD G a0 u137.1 u137.2.1 u137.2.2.1 u137.2.2.2.1 u137.2.2.2.2.1 u137.2.2.2.2.2.1 u137.2.2.2.2.2.2) 77 [(0, .ref b), (1, .ref a0.1), (2, .int (0 : Int32))] _ [.long r139] rfl rfl rfl rfl ?_
              refine v_nml (fun z141 ez141 => ?_)
              have hw := hw z141 ez141
              refine v_lstore_n (lv2 := [(0, .ref b), (1, .ref a0.1), (2, .int (0 : Int32)), (3, .long z141)]) (pc2 := 78) S dL_law_77 rfl (by decide) [1, 2, 3, 0] rfl rfl ?_
              refine v_iconst (v := 0) (pc2 := 79) S dL_law_78 (by decide) rfl ?_
              refine v_istore (lv2 := [(0, .ref b), (1, .ref a0.1), (2, .int (0 : Int32)), (3, .long z141), (5, .int (0 : Int32))]) (pc2 := 81) S dL_law_79 (by decide) [1, 2, 3, 4, 0] rfl rfl ?_
              refine v_iconst (v := 0) (pc2 := 82) S dL_law_81 (by decide) rfl ?_
              refine v_istore (lv2 := [(0, .ref b), (1, .ref a0.1), (2, .int (0 : Int32)), (3, .long z141), (5, .int (0 : Int32)), (6, .int (0 : Int32))]) (pc2 := 84) S dL_law_82 (by decide) [1, 2, 3, 4, 5, 0] rfl rfl ?_
              obtain ⟨kk, hw⟩ := hw
              exact L84 a0 kk (0 : Int32) z141 (0 : Int32) (0 : Int32) u137 hw
            · have hw := hw.2 c138
              refine v_aload_n (pc2 := 53) S 1 dL_law_52 rfl rfl rfl ?_
              refine v_iconst (v := 1) (pc2 := 54) S dL_law_53 (by decide) rfl ?_
              refine v_callS (pc2 := 57) (As := [.ref a0.1, .int (1 : Int32)]) (rest := []) S (c_L_refuses l G a0 u137 (1 : Int32) _ hw) mf_L_refuses u_537 u_538 rfl rfl ⟨rfl, rfl⟩ ⟨Nat.le_of_ble_eq_true rfl, Nat.le_of_ble_eq_true rfl⟩ ⟨Nat.le_of_ble_eq_true rfl, Nat.le_of_ble_eq_true rfl⟩ (Nat.le_of_ble_eq_true rfl) dL_law_54 (frW _) rfl (pb (fun r142 u143 br142 hw => ?_))
              refine v_to (wCD G a0 u143.1 u143.2.1 u143.2.2.1 u143.2.2.2.1 u143.2.2.2.2.1 u143.2.2.2.2.2.1 u143.2.2.2.2.2.2) 57 [(0, .ref b), (1, .ref a0.1)] _ [.int r142] rfl rfl rfl rfl ?_
              refine v_if_eq (pc2 := 60) (tgt := 71) S dL_law_57 (by decide) rfl (fun c144 => ?_) (fun c144 => ?_)
              · have hw := hw.1 c144
                refine v_iconst (v := 0) (pc2 := 72) S dL_law_71 (by decide) rfl ?_
                refine v_istore_n (lv2 := [(0, .ref b), (1, .ref a0.1), (2, .int (0 : Int32))]) (pc2 := 73) S dL_law_72 rfl (by decide) [1, 2, 0] rfl rfl ?_
                refine v_aload_n (pc2 := 74) S 1 dL_law_73 rfl rfl rfl ?_
                refine v_callS (pc2 := 77) (As := [.ref a0.1]) (rest := []) S (c_L_seen l G a0 u143 _ hw) mf_L_seen u_479 u_480 rfl rfl ⟨rfl, rfl⟩ ⟨Nat.le_of_ble_eq_true rfl, Nat.le_of_ble_eq_true rfl⟩ ⟨Nat.le_of_ble_eq_true rfl, Nat.le_of_ble_eq_true rfl⟩ (Nat.le_of_ble_eq_true rfl) dL_law_74 (frW _) rfl (pl (fun r145 u146 hw => ?_))
                refine v_to (wCD G a0 u143.1 u143.2.1 u143.2.2.1 u143.2.2.2.1 u143.2.2.2.2.1 u143.2.2.2.2.2.1 u143.2.2.2.2.2.2) 77 [(0, .ref b), (1, .ref a0.1), (2, .int (0 : Int32))] _ [.long r145] rfl rfl rfl rfl ?_
                refine v_nml (fun z147 ez147 => ?_)
                have hw := hw z147 ez147
                refine v_lstore_n (lv2 := [(0, .ref b), (1, .ref a0.1), (2, .int (0 : Int32)), (3, .long z147)]) (pc2 := 78) S dL_law_77 rfl (by decide) [1, 2, 3, 0] rfl rfl ?_
                refine v_iconst (v := 0) (pc2 := 79) S dL_law_78 (by decide) rfl ?_
                refine v_istore (lv2 := [(0, .ref b), (1, .ref a0.1), (2, .int (0 : Int32)), (3, .long z147), (5, .int (0 : Int32))]) (pc2 := 81) S dL_law_79 (by decide) [1, 2, 3, 4, 0] rfl rfl ?_
                refine v_iconst (v := 0) (pc2 := 82) S dL_law_81 (by decide) rfl ?_
                refine v_istore (lv2 := [(0, .ref b), (1, .ref a0.1), (2, .int (0 : Int32)), (3, .long z147), (5, .int (0 : Int32)), (6, .int (0 : Int32))]) (pc2 := 84) S dL_law_82 (by decide) [1, 2, 3, 4, 5, 0] rfl rfl ?_
                obtain ⟨kk, hw⟩ := hw
                exact L84 a0 kk (0 : Int32) z147 (0 : Int32) (0 : Int32) u143 hw
              · have hw := hw.2 c144
                refine v_aload_n (pc2 := 61) S 1 dL_law_60 rfl rfl rfl ?_
                refine v_callV (pc2 := 64) (As := []) (rest := []) S (c_X8_save l G a0 u143 _ hw) mf_X8_save u_460 u_461 u_462 0 8 rfl rfl rfl rfl ⟨rfl, rfl⟩ ⟨Nat.le_of_ble_eq_true rfl, Nat.le_of_ble_eq_true rfl⟩ ⟨Nat.le_of_ble_eq_true rfl, Nat.le_of_ble_eq_true rfl⟩ (Nat.le_of_ble_eq_true rfl) dL_law_61 (frW _) rfl (pi (fun r148 u149 hw => ?_))
                refine v_to (wCD G a0 u149.1 u149.2.1 u149.2.2.1 u149.2.2.2.1 u149.2.2.2.2.1 u149.2.2.2.2.2.1 u149.2.2.2.2.2.2) 64 [(0, .ref b), (1, .ref a0.1)] _ [.int r148] rfl rfl rfl rfl ?_
                refine v_if_ne (pc2 := 67) (tgt := 71) S dL_law_64 (by decide) rfl (fun c150 => ?_) (fun c150 => ?_)
                · have hw := hw.1 c150
                  refine v_iconst (v := 0) (pc2 := 72) S dL_law_71 (by decide) rfl ?_
                  refine v_istore_n (lv2 := [(0, .ref b), (1, .ref a0.1), (2, .int (0 : Int32))]) (pc2 := 73) S dL_law_72 rfl (by decide) [1, 2, 0] rfl rfl ?_
                  refine v_aload_n (pc2 := 74) S 1 dL_law_73 rfl rfl rfl ?_
                  refine v_callS (pc2 := 77) (As := [.ref a0.1]) (rest := []) S (c_L_seen l G a0 u149 _ hw) mf_L_seen u_479 u_480 rfl rfl ⟨rfl, rfl⟩ ⟨Nat.le_of_ble_eq_true rfl, Nat.le_of_ble_eq_true rfl⟩ ⟨Nat.le_of_ble_eq_true rfl, Nat.le_of_ble_eq_true rfl⟩ (Nat.le_of_ble_eq_true rfl) dL_law_74 (frW _) rfl (pl (fun r151 u152 hw => ?_))
                  refine v_to (wCD G a0 u149.1 u149.2.1 u149.2.2.1 u149.2.2.2.1 u149.2.2.2.2.1 u149.2.2.2.2.2.1 u149.2.2.2.2.2.2) 77 [(0, .ref b), (1, .ref a0.1), (2, .int (0 : Int32))] _ [.long r151] rfl rfl rfl rfl ?_
                  refine v_nml (fun z153 ez153 => ?_)
                  have hw := hw z153 ez153
                  refine v_lstore_n (lv2 := [(0, .ref b), (1, .ref a0.1), (2, .int (0 : Int32)), (3, .long z153)]) (pc2 := 78) S dL_law_77 rfl (by decide) [1, 2, 3, 0] rfl rfl ?_
                  refine v_iconst (v := 0) (pc2 := 79) S dL_law_78 (by decide) rfl ?_
                  refine v_istore (lv2 := [(0, .ref b), (1, .ref a0.1), (2, .int (0 : Int32)), (3, .long z153), (5, .int (0 : Int32))]) (pc2 := 81) S dL_law_79 (by decide) [1, 2, 3, 4, 0] rfl rfl ?_
                  refine v_iconst (v := 0) (pc2 := 82) S dL_law_81 (by decide) rfl ?_
                  refine v_istore (lv2 := [(0, .ref b), (1, .ref a0.1), (2, .int (0 : Int32)), (3, .long z153), (5, .int (0 : Int32)), (6, .int (0 : Int32))]) (pc2 := 84) S dL_law_82 (by decide) [1, 2, 3, 4, 5, 0] rfl rfl ?_
                  obtain ⟨kk, hw⟩ := hw
                  exact L84 a0 kk (0 : Int32) z153 (0 : Int32) (0 : Int32) u149 hw
                · have hw := hw.2 c150
                  refine v_iconst (v := 1) (pc2 := 68) S dL_law_67 (by decide) rfl ?_
                  refine v_goto (tgt := 72) S dL_law_68 (by decide) ?_
                  refine v_istore_n (lv2 := [(0, .ref b), (1, .ref a0.1), (2, .int (1 : Int32))]) (pc2 := 73) S dL_law_72 rfl (by decide) [1, 2, 0] rfl rfl ?_
                  refine v_aload_n (pc2 := 74) S 1 dL_law_73 rfl rfl rfl ?_
                  refine v_callS (pc2 := 77) (As := [.ref a0.1]) (rest := []) S (c_L_seen l G a0 u149 _ hw) mf_L_seen u_479 u_480 rfl rfl ⟨rfl, rfl⟩ ⟨Nat.le_of_ble_eq_true rfl, Nat.le_of_ble_eq_true rfl⟩ ⟨Nat.le_of_ble_eq_true rfl, Nat.le_of_ble_eq_true rfl⟩ (Nat.le_of_ble_eq_true rfl) dL_law_74 (frW _) rfl (pl (fun r154 u155 hw => ?_))
                  refine v_to (wCD G a0 u149.1 u149.2.1 u149.2.2.1 u149.2.2.2.1 u149.2.2.2.2.1 u149.2.2.2.2.2.1 u149.2.2.2.2.2.2) 77 [(0, .ref b), (1, .ref a0.1), (2, .int (1 : Int32))] _ [.long r154] rfl rfl rfl rfl ?_
                  refine v_nml (fun z156 ez156 => ?_)
                  have hw := hw z156 ez156
                  refine v_lstore_n (lv2 := [(0, .ref b), (1, .ref a0.1), (2, .int (1 : Int32)), (3, .long z156)]) (pc2 := 78) S dL_law_77 rfl (by decide) [1, 2, 3, 0] rfl rfl ?_
                  refine v_iconst (v := 0) (pc2 := 79) S dL_law_78 (by decide) rfl ?_
                  refine v_istore (lv2 := [(0, .ref b), (1, .ref a0.1), (2, .int (1 : Int32)), (3, .long z156), (5, .int (0 : Int32))]) (pc2 := 81) S dL_law_79 (by decide) [1, 2, 3, 4, 0] rfl rfl ?_
                  refine v_iconst (v := 0) (pc2 := 82) S dL_law_81 (by decide) rfl ?_
                  refine v_istore (lv2 := [(0, .ref b), (1, .ref a0.1), (2, .int (1 : Int32)), (3, .long z156), (5, .int (0 : Int32)), (6, .int (0 : Int32))]) (pc2 := 84) S dL_law_82 (by decide) [1, 2, 3, 4, 5, 0] rfl rfl ?_
                  obtain ⟨kk, hw⟩ := hw
                  exact L84 a0 kk (1 : Int32) z156 (0 : Int32) (0 : Int32) u149 hw
  refine v_new (a := 0) (ci := 8) (N := 7) (C := RX8) (T := TX8) (fs := [.null, .null, .null, .int 0, .null, .null, .null]) (pc2 := 3) S tyX8 tyX8_ok rfl inX8 u_33 u_34 u_20 (fun j hj => by match j, hj with | 0, _ => rfl | 1, _ => rfl | 2, _ => rfl | 3, _ => rfl | 4, _ => rfl | 5, _ => rfl | 6, _ => rfl) (Nat.le_of_ble_eq_true rfl) (Nat.le_of_ble_eq_true rfl) dL_law_0 rfl (fun q1 => ?_)
  refine v_to ([(q1, .inr (8, [.null, .null, .null, .int 0, .null, .null, .null]))]) 3 [(0, .ref b)] _ [.ref q1] rfl rfl rfl rfl ?_
  refine v_dup (pc2 := 4) S dL_law_3 rfl rfl ?_
  refine v_callI (rt2 := none) (pc2 := 7) (As := []) (rest := [.ref q1]) S (c_X8_init l G q1 _ hw) mf_X8_init u_35 u_36 rfl rfl rfl ⟨rfl, rfl⟩ ⟨Nat.le_of_ble_eq_true rfl, Nat.le_of_ble_eq_true rfl⟩ ⟨Nat.le_of_ble_eq_true rfl, Nat.le_of_ble_eq_true rfl⟩ (Nat.le_of_ble_eq_true rfl) dL_law_4 (frM ([]) [(q1, .inr (8, [.null, .null, .null, .int 0, .null, .null, .null]))] []) rfl (pv (fun u2 hw => ?_))
  obtain ⟨⟨b3, b3r⟩, v4⟩ := u2
  obtain ⟨hq, hw⟩ := hw
  have hq : b3 = q1 := hq
  subst b3
  refine v_to (wCD G (q1, b3r) v4.1 v4.2.1 v4.2.2.1 v4.2.2.2.1 v4.2.2.2.2.1 v4.2.2.2.2.2.1 v4.2.2.2.2.2.2) 7 [(0, .ref b)] _ [.ref q1] rfl rfl rfl rfl ?_
  refine v_astore_n (lv2 := [(0, .ref b), (1, .ref q1)]) (pc2 := 8) S dL_law_7 rfl (by decide) [1, 0] rfl rfl ?_
  refine v_widen (k2 := 600000) (n2 := 7302250) (Nat.le_of_ble_eq_true rfl) (Nat.le_of_ble_eq_true rfl) ?_
  exact B8 (q1, b3r) v4 hw
