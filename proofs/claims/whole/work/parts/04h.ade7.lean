set_option maxRecDepth 100000 in
set_option maxHeartbeats 4000000 in
theorem aX7_dimension (l : Launch) (G : gG) {F : Nat} {v0 : Nat} {v1 : Int32} {v2 : Int32} {w : gW} {res : Int32 × gW} (h : mX7_dimension F v0 v1 v2 w = some res) : gM l yX7_dimension cX7_dimension 3 (some .int) rmX7_dimension G w (gTs [.inr (.inr (some v0)), .inl v1, .inl v2]) (some (.int res.1)) res.2 := by
  refine gM_of (y := yX7_dimension) (by decide +kernel) (Nat.le_of_ble_eq_true rfl) ?_
  intro X ok hl hG hres hnm
  subst hl; subst hG
  unfold mX7_dimension at h
  show Wx X w 0 0 0 [(0, .inr (.inr (some v0))), (1, .inl v1), (2, .inl v2)] []
  refine Wx.run ok kX7_dimension 0 2 (lv' := [(0, .inr (.inr (some v0))), (1, .inl v1), (2, .inl v2)]) (st' := [.inl v1, .inr (.inr (some v0))]) (pc' := 2) rfl ?_
  obtain ⟨a2, ha2, h⟩ := gob h
  obtain ⟨q2, hq2, h⟩ := gob h
  refine Wx.callV ok kX7_dimension 2 rfl lm_RX7_190 cd_X7_isModule ha2 [.inl v1] (some (.inl q2.1)) (aX7_isModule _ _ hq2) (by decide) rfl (Nat.le_of_ble_eq_true rfl) rfl rfl ?_
  refine Wx.if_eq ok kX7_dimension 3 (tgt := 20) rfl (by decide) h (fun hc5 h => ?_) (fun hc5 h => ?_)
  · refine Wx.run ok kX7_dimension 10 1 (lv' := [(0, .inr (.inr (some v0))), (1, .inl v1), (2, .inl v2)]) (st' := [.inl (-1 : Int32)]) (pc' := 21) rfl ?_
    exact Wx.ireturn ok kX7_dimension 11 rfl hres h (by decide)
  · refine Wx.run ok kX7_dimension 4 3 (lv' := [(0, .inr (.inr (some v0))), (1, .inl v1), (2, .inl v2)]) (st' := [.inr (.inl (0 : Int64)), .inr (.inl ((v2).toInt64))]) (pc' := 11) rfl ?_
    refine Wx.ldc2 ok kX7_dimension 7 rfl gw_980 ?_
    obtain ⟨q14, hq14, h⟩ := gob h
    refine Wx.callS ok kX7_dimension 8 rfl lm_RX7_100 cd_X7_in [.inr (.inl ((v2).toInt64)), .inr (.inl (0 : Int64)), .inr (.inl (6 : Int64))] (some (.inl q14.1)) (aX7_in _ _ hq14) (by decide) rfl (Nat.le_of_ble_eq_true rfl) rfl rfl ?_
    refine Wx.if_ne ok kX7_dimension 9 (tgt := 22) rfl (by decide) h (fun hc17 h => ?_) (fun hc17 h => ?_)
    · refine Wx.run ok kX7_dimension 10 1 (lv' := [(0, .inr (.inr (some v0))), (1, .inl v1), (2, .inl v2)]) (st' := [.inl (-1 : Int32)]) (pc' := 21) rfl ?_
      exact Wx.ireturn ok kX7_dimension 11 rfl hres h (by decide)
    · refine Wx.run ok kX7_dimension 12 2 (lv' := [(0, .inr (.inr (some v0))), (1, .inl v1), (2, .inl v2)]) (st' := [.inl v1, .inr (.inr (some v0))]) (pc' := 24) rfl ?_
      obtain ⟨a24, ha24, h⟩ := gob h
      obtain ⟨q24, hq24, h⟩ := gob h
      refine Wx.callV ok kX7_dimension 14 rfl lm_RX7_260 cd_X7_sound ha24 [.inl v1] (some (.inl q24.1)) (aX7_sound _ _ hq24) (by decide) rfl (Nat.le_of_ble_eq_true rfl) rfl rfl ?_
      refine Wx.if_eq ok kX7_dimension 15 (tgt := 33) rfl (by decide) h (fun hc27 h => ?_) (fun hc27 h => ?_)
      · refine Wx.run ok kX7_dimension 18 2 (lv' := [(0, .inr (.inr (some v0))), (1, .inl v1), (2, .inl v2)]) (st' := [.inl v1, .inr (.inr (some v0))]) (pc' := 35) rfl ?_
        obtain ⟨a35, ha35, h⟩ := gob h
        obtain ⟨q35, hq35, h⟩ := gob h
        refine Wx.callV ok kX7_dimension 20 rfl lm_RX7_263 cd_X7_know ha35 [.inl v1] none (aX7_know _ _ hq35) (by decide) rfl (Nat.le_of_ble_eq_true rfl) rfl rfl ?_
        refine Wx.run ok kX7_dimension 21 2 (lv' := [(0, .inr (.inr (some v0))), (1, .inl v1), (2, .inl v2)]) (st' := [.inl (5 : Int32), .inl v2]) (pc' := 40) rfl ?_
        refine Wx.icmp_ge ok kX7_dimension 23 (tgt := 52) rfl (by decide) h (fun hc40 h => ?_) (fun hc40 h => ?_)
        · refine Wx.run ok kX7_dimension 29 2 (lv' := [(0, .inr (.inr (some v0))), (1, .inl v1), (2, .inl v2)]) (st' := [.inl (5 : Int32), .inl v2]) (pc' := 54) rfl ?_
          refine Wx.icmp_ne ok kX7_dimension 31 (tgt := 64) rfl (by decide) h (fun hc54 h => ?_) (fun hc54 h => ?_)
          · refine Wx.run ok kX7_dimension 32 1 (lv' := [(0, .inr (.inr (some v0))), (1, .inl v1), (2, .inl v2)]) (st' := [.inr (.inr (some v0))]) (pc' := 58) rfl ?_
            refine Wx.getI ok kX7_dimension 33 rfl lk_RX7_255_0 h (fun t58 h => ?_)
            refine Wx.jump ok kX7_dimension 34 (tgt := 77) rfl (by decide) ?_
            exact Wx.ireturn ok kX7_dimension 44 rfl hres h (by decide)
          · refine Wx.run ok kX7_dimension 35 1 (lv' := [(0, .inr (.inr (some v0))), (1, .inl v1), (2, .inl v2)]) (st' := [.inr (.inr (some v0))]) (pc' := 65) rfl ?_
            refine Wx.getR ok kX7_dimension 36 rfl lk_RX7_80_0 h (fun t65 h => ?_)
            refine Wx.run ok kX7_dimension 37 1 (lv' := [(0, .inr (.inr (some v0))), (1, .inl v1), (2, .inl v2)]) (st' := [.inl (1 : Int32), .inr (.inr t65)]) (pc' := 69) rfl ?_
            refine Wx.iald ok kX7_dimension 38 rfl h (fun t69 h => ?_)
            refine Wx.run ok kX7_dimension 39 1 (lv' := [(0, .inr (.inr (some v0))), (1, .inl v1), (2, .inl v2)]) (st' := [.inr (.inr (some v0)), .inl t69]) (pc' := 71) rfl ?_
            refine Wx.getR ok kX7_dimension 40 rfl lk_RX7_80_0 h (fun t71 h => ?_)
            refine Wx.run ok kX7_dimension 41 1 (lv' := [(0, .inr (.inr (some v0))), (1, .inl v1), (2, .inl v2)]) (st' := [.inl (2 : Int32), .inr (.inr t71), .inl t69]) (pc' := 75) rfl ?_
            refine Wx.iald ok kX7_dimension 42 rfl h (fun t75 h => ?_)
            refine Wx.run ok kX7_dimension 43 1 (lv' := [(0, .inr (.inr (some v0))), (1, .inl v1), (2, .inl v2)]) (st' := [.inl (t69 - t75)]) (pc' := 77) rfl ?_
            exact Wx.ireturn ok kX7_dimension 44 rfl hres h (by decide)
        · refine Wx.run ok kX7_dimension 24 1 (lv' := [(0, .inr (.inr (some v0))), (1, .inl v1), (2, .inl v2)]) (st' := [.inr (.inr (some v0))]) (pc' := 44) rfl ?_
          refine Wx.getR ok kX7_dimension 25 rfl lk_RX7_80_0 h (fun t44 h => ?_)
          refine Wx.run ok kX7_dimension 26 1 (lv' := [(0, .inr (.inr (some v0))), (1, .inl v1), (2, .inl v2)]) (st' := [.inl v2, .inr (.inr t44)]) (pc' := 48) rfl ?_
          refine Wx.iald ok kX7_dimension 27 rfl h (fun t48 h => ?_)
          refine Wx.jump ok kX7_dimension 28 (tgt := 77) rfl (by decide) ?_
          exact Wx.ireturn ok kX7_dimension 44 rfl hres h (by decide)
      · refine Wx.run ok kX7_dimension 16 1 (lv' := [(0, .inr (.inr (some v0))), (1, .inl v1), (2, .inl v2)]) (st' := [.inl (-2 : Int32)]) (pc' := 32) rfl ?_
        exact Wx.ireturn ok kX7_dimension 17 rfl hres h (by decide)
set_option maxRecDepth 100000 in
set_option maxHeartbeats 4000000 in
theorem aX7_lacks (l : Launch) (G : gG) {F : Nat} {v0 : Nat} {v1 : Int32} {v2 : Int32} {w : gW} {res : Int32 × gW} (h : mX7_lacks F v0 v1 v2 w = some res) : gM l yX7_lacks cX7_lacks 3 (some .int) rmX7_lacks G w (gTs [.inr (.inr (some v0)), .inl v1, .inl v2]) (some (.int res.1)) res.2 := by
  refine gM_of (y := yX7_lacks) (by decide +kernel) (Nat.le_of_ble_eq_true rfl) ?_
  intro X ok hl hG hres hnm
  subst hl; subst hG
  unfold mX7_lacks at h
  show Wx X w 0 0 0 [(0, .inr (.inr (some v0))), (1, .inl v1), (2, .inl v2)] []
  refine Wx.run ok kX7_lacks 0 2 (lv' := [(0, .inr (.inr (some v0))), (1, .inl v1), (2, .inl v2)]) (st' := [.inl v1, .inr (.inr (some v0))]) (pc' := 2) rfl ?_
  obtain ⟨a2, ha2, h⟩ := gob h
  obtain ⟨q2, hq2, h⟩ := gob h
  refine Wx.callV ok kX7_lacks 2 rfl lm_RX7_190 cd_X7_isModule ha2 [.inl v1] (some (.inl q2.1)) (aX7_isModule _ _ hq2) (by decide) rfl (Nat.le_of_ble_eq_true rfl) rfl rfl ?_
  refine Wx.if_eq ok kX7_lacks 3 (tgt := 12) rfl (by decide) h (fun hc5 h => ?_) (fun hc5 h => ?_)
  · refine Wx.run ok kX7_lacks 6 1 (lv' := [(0, .inr (.inr (some v0))), (1, .inl v1), (2, .inl v2)]) (st' := [.inl (-1 : Int32)]) (pc' := 13) rfl ?_
    exact Wx.ireturn ok kX7_lacks 7 rfl hres h (by decide)
  · refine Wx.run ok kX7_lacks 4 1 (lv' := [(0, .inr (.inr (some v0))), (1, .inl v1), (2, .inl v2)]) (st' := [.inl v2]) (pc' := 9) rfl ?_
    refine Wx.if_ge ok kX7_lacks 5 (tgt := 14) rfl (by decide) h (fun hc9 h => ?_) (fun hc9 h => ?_)
    · refine Wx.run ok kX7_lacks 8 2 (lv' := [(0, .inr (.inr (some v0))), (1, .inl v1), (2, .inl v2)]) (st' := [.inl v1, .inr (.inr (some v0))]) (pc' := 16) rfl ?_
      obtain ⟨a16, ha16, h⟩ := gob h
      obtain ⟨q16, hq16, h⟩ := gob h
      refine Wx.callV ok kX7_lacks 10 rfl lm_RX7_260 cd_X7_sound ha16 [.inl v1] (some (.inl q16.1)) (aX7_sound _ _ hq16) (by decide) rfl (Nat.le_of_ble_eq_true rfl) rfl rfl ?_
      refine Wx.if_eq ok kX7_lacks 11 (tgt := 25) rfl (by decide) h (fun hc19 h => ?_) (fun hc19 h => ?_)
      · refine Wx.run ok kX7_lacks 14 2 (lv' := [(0, .inr (.inr (some v0))), (1, .inl v1), (2, .inl v2)]) (st' := [.inl v1, .inr (.inr (some v0))]) (pc' := 27) rfl ?_
        obtain ⟨a27, ha27, h⟩ := gob h
        obtain ⟨q27, hq27, h⟩ := gob h
        refine Wx.callV ok kX7_lacks 16 rfl lm_RX7_263 cd_X7_know ha27 [.inl v1] none (aX7_know _ _ hq27) (by decide) rfl (Nat.le_of_ble_eq_true rfl) rfl rfl ?_
        refine Wx.run ok kX7_lacks 17 4 (lv' := [(0, .inr (.inr (some v0))), (1, .inl v1), (2, .inl v2)]) (st' := [.inr (.inr (some v0)), .inr (.inl (0 : Int64)), .inr (.inl ((v2).toInt64))]) (pc' := 34) rfl ?_
        refine Wx.getI ok kX7_lacks 21 rfl lk_RX7_196_0 h (fun t34 h => ?_)
        refine Wx.run ok kX7_lacks 22 1 (lv' := [(0, .inr (.inr (some v0))), (1, .inl v1), (2, .inl v2)]) (st' := [.inr (.inr (some v0)), .inl t34, .inr (.inl (0 : Int64)), .inr (.inl ((v2).toInt64))]) (pc' := 38) rfl ?_
        refine Wx.getI ok kX7_lacks 23 rfl lk_RX7_255_0 h (fun t38 h => ?_)
        obtain ⟨q41, hq41, h⟩ := gob h
        refine Wx.callS ok kX7_lacks 24 rfl lm_RX7_266 cd_X7_power [.inl t34, .inl t38] (some (.inl q41.1)) (aX7_power _ _ hq41) (by decide) rfl (Nat.le_of_ble_eq_true rfl) rfl rfl ?_
        refine Wx.run ok kX7_lacks 25 3 (lv' := [(0, .inr (.inr (some v0))), (1, .inl v1), (2, .inl v2)]) (st' := [.inr (.inl (((q41.1 - (1 : Int32))).toInt64)), .inr (.inl (0 : Int64)), .inr (.inl ((v2).toInt64))]) (pc' := 47) rfl ?_
        obtain ⟨q47, hq47, h⟩ := gob h
        refine Wx.callS ok kX7_lacks 28 rfl lm_RX7_100 cd_X7_in [.inr (.inl ((v2).toInt64)), .inr (.inl (0 : Int64)), .inr (.inl (((q41.1 - (1 : Int32))).toInt64))] (some (.inl q47.1)) (aX7_in _ _ hq47) (by decide) rfl (Nat.le_of_ble_eq_true rfl) rfl rfl ?_
        refine Wx.if_eq ok kX7_lacks 29 (tgt := 57) rfl (by decide) h (fun hc50 h => ?_) (fun hc50 h => ?_)
        · refine Wx.run ok kX7_lacks 32 1 (lv' := [(0, .inr (.inr (some v0))), (1, .inl v1), (2, .inl v2)]) (st' := [.inl (-1 : Int32)]) (pc' := 58) rfl ?_
          exact Wx.ireturn ok kX7_lacks 33 rfl hres h (by decide)
        · refine Wx.run ok kX7_lacks 30 1 (lv' := [(0, .inr (.inr (some v0))), (1, .inl v1), (2, .inl v2)]) (st' := [.inl (0 : Int32)]) (pc' := 54) rfl ?_
          refine Wx.jump ok kX7_lacks 31 (tgt := 58) rfl (by decide) ?_
          exact Wx.ireturn ok kX7_lacks 33 rfl hres h (by decide)
      · refine Wx.run ok kX7_lacks 12 1 (lv' := [(0, .inr (.inr (some v0))), (1, .inl v1), (2, .inl v2)]) (st' := [.inl (-2 : Int32)]) (pc' := 24) rfl ?_
        exact Wx.ireturn ok kX7_lacks 13 rfl hres h (by decide)
    · refine Wx.run ok kX7_lacks 6 1 (lv' := [(0, .inr (.inr (some v0))), (1, .inl v1), (2, .inl v2)]) (st' := [.inl (-1 : Int32)]) (pc' := 13) rfl ?_
      exact Wx.ireturn ok kX7_lacks 7 rfl hres h (by decide)
set_option maxRecDepth 100000 in
set_option maxHeartbeats 4000000 in
theorem aX7_over_b225 {X : gX} (ok : gOk X cX7_over RX7 13 (some .int) rmX7_over) {res : Int32 × gW} (hres : gRs X (some (.int res.1)) res.2) {F : Nat} (r : Nat → Int32 → Int32 → Int32 → Int32 → Int32 → Int32 → Int32 → Int32 → gW → Option (Int32 × gW)) (k258 : Nat → Int32 → Int32 → Int32 → Int32 → Int32 → Int32 → gW → Option (Int32 × gW)) (hr : ∀ (v0 : Nat) (v4 : Int32) (v5 : Int32) (v6 : Int32) (v7 : Int32) (v8 : Int32) (v9 : Int32) (v10 : Int32) (v11 : Int32) (w : gW), r v0 v4 v5 v6 v7 v8 v9 v10 v11 w = some res → Wx X w 0 0 108 [(0, .inr (.inr (some v0))), (4, .inl v4), (5, .inl v5), (6, .inl v6), (7, .inl v7), (8, .inl v8), (9, .inl v9), (10, .inl v10), (11, .inl v11)] []) (hk258 : ∀ (v0 : Nat) (v4 : Int32) (v5 : Int32) (v6 : Int32) (v7 : Int32) (v8 : Int32) (v9 : Int32) (w : gW), k258 v0 v4 v5 v6 v7 v8 v9 w = some res → Wx X w 0 0 258 [(0, .inr (.inr (some v0))), (4, .inl v4), (5, .inl v5), (6, .inl v6), (7, .inl v7), (8, .inl v8), (9, .inl v9)] []) : ∀ (v0 : Nat) (v4 : Int32) (v5 : Int32) (v6 : Int32) (v7 : Int32) (v8 : Int32) (v9 : Int32) (v10 : Int32) (v11 : Int32) (s0 : Int32) (s1 : Int32) (w : gW), mX7_over_b225 F r k258 v0 v4 v5 v6 v7 v8 v9 v10 v11 s0 s1 w = some res → Wx X w 0 0 225 [(0, .inr (.inr (some v0))), (4, .inl v4), (5, .inl v5), (6, .inl v6), (7, .inl v7), (8, .inl v8), (9, .inl v9), (10, .inl v10), (11, .inl v11)] [.inl s1, .inl s0] := by
  intro v0 v4 v5 v6 v7 v8 v9 v10 v11 s0 s1 w h
  unfold mX7_over_b225 at h
  refine Wx.run ok kX7_over 124 6 (lv' := [(12, .inl (s0 + s1)), (0, .inr (.inr (some v0))), (4, .inl v4), (5, .inl v5), (6, .inl v6), (7, .inl v7), (8, .inl v8), (9, .inl v9), (10, .inl v10), (11, .inl v11)]) (st' := [.inr (.inr (some v0)), .inl (s0 + s1), .inl v10, .inl v9]) (pc' := 235) rfl ?_
  refine Wx.getI ok kX7_over 130 rfl lk_RX7_196_0 h (fun t235 h => ?_)
  refine Wx.irem ok kX7_over 131 rfl h (fun t238 h => ?_)
  refine Wx.run ok kX7_over 132 5 (lv' := [(9, .inl (v9 + (v10 * t238))), (12, .inl (s0 + s1)), (0, .inr (.inr (some v0))), (4, .inl v4), (5, .inl v5), (6, .inl v6), (7, .inl v7), (8, .inl v8), (10, .inl v10), (11, .inl v11)]) (st' := [.inr (.inr (some v0)), .inl v10]) (pc' := 246) rfl ?_
  refine Wx.getI ok kX7_over 137 rfl lk_RX7_196_0 h (fun t246 h => ?_)
  refine Wx.run ok kX7_over 138 3 (lv' := [(11, .inl (v11 + (1 : Int32))), (10, .inl (v10 * t246)), (9, .inl (v9 + (v10 * t238))), (12, .inl (s0 + s1)), (0, .inr (.inr (some v0))), (4, .inl v4), (5, .inl v5), (6, .inl v6), (7, .inl v7), (8, .inl v8)]) (st' := []) (pc' := 255) rfl ?_
  refine Wx.jump ok kX7_over 141 (tgt := 108) rfl (by decide) ?_
  refine Wx.sub [4, 5, 6, 7, 8, 9, 2, 1, 0] rfl ?_
  exact hr _ _ _ _ _ _ _ _ _ _ h
set_option maxRecDepth 100000 in
set_option maxHeartbeats 4000000 in
theorem aX7_over_b145 {X : gX} (ok : gOk X cX7_over RX7 13 (some .int) rmX7_over) {res : Int32 × gW} (hres : gRs X (some (.int res.1)) res.2) {F : Nat} (r : Nat → Int32 → Int32 → Int32 → Int32 → Int32 → Int32 → Int32 → Int32 → gW → Option (Int32 × gW)) (k258 : Nat → Int32 → Int32 → Int32 → Int32 → Int32 → Int32 → gW → Option (Int32 × gW)) (hr : ∀ (v0 : Nat) (v4 : Int32) (v5 : Int32) (v6 : Int32) (v7 : Int32) (v8 : Int32) (v9 : Int32) (v10 : Int32) (v11 : Int32) (w : gW), r v0 v4 v5 v6 v7 v8 v9 v10 v11 w = some res → Wx X w 0 0 108 [(0, .inr (.inr (some v0))), (4, .inl v4), (5, .inl v5), (6, .inl v6), (7, .inl v7), (8, .inl v8), (9, .inl v9), (10, .inl v10), (11, .inl v11)] []) (hk258 : ∀ (v0 : Nat) (v4 : Int32) (v5 : Int32) (v6 : Int32) (v7 : Int32) (v8 : Int32) (v9 : Int32) (w : gW), k258 v0 v4 v5 v6 v7 v8 v9 w = some res → Wx X w 0 0 258 [(0, .inr (.inr (some v0))), (4, .inl v4), (5, .inl v5), (6, .inl v6), (7, .inl v7), (8, .inl v8), (9, .inl v9)] []) : ∀ (v0 : Nat) (v4 : Int32) (v5 : Int32) (v6 : Int32) (v7 : Int32) (v8 : Int32) (v9 : Int32) (v10 : Int32) (v11 : Int32) (s0 : Int32) (w : gW), mX7_over_b145 F r k258 v0 v4 v5 v6 v7 v8 v9 v10 v11 s0 w = some res → Wx X w 0 0 145 [(0, .inr (.inr (some v0))), (4, .inl v4), (5, .inl v5), (6, .inl v6), (7, .inl v7), (8, .inl v8), (9, .inl v9), (10, .inl v10), (11, .inl v11)] [.inl s0] := by
  intro v0 v4 v5 v6 v7 v8 v9 v10 v11 s0 w h
  unfold mX7_over_b145 at h
  refine Wx.run ok kX7_over 79 4 (lv' := [(0, .inr (.inr (some v0))), (4, .inl v4), (5, .inl v5), (6, .inl v6), (7, .inl v7), (8, .inl v8), (9, .inl v9), (10, .inl v10), (11, .inl v11)]) (st' := [.inl v11, .inl v8, .inl v7, .inr (.inr (some v0)), .inl s0]) (pc' := 152) rfl ?_
  obtain ⟨a152, ha152, h⟩ := gob h
  obtain ⟨q152, hq152, h⟩ := gob h
  refine Wx.callV ok kX7_over 83 rfl lm_RX7_275 cd_X7_twisted ha152 [.inl v7, .inl v8, .inl v11] (some (.inl q152.1)) (aX7_twisted _ _ hq152) (by decide) rfl (Nat.le_of_ble_eq_true rfl) rfl rfl ?_
  refine Wx.run ok kX7_over 84 5 (lv' := [(12, .inl (s0 + q152.1)), (0, .inr (.inr (some v0))), (4, .inl v4), (5, .inl v5), (6, .inl v6), (7, .inl v7), (8, .inl v8), (9, .inl v9), (10, .inl v10), (11, .inl v11)]) (st' := [.inr (.inr (some v0)), .inr (.inr (some v0)), .inl (s0 + q152.1)]) (pc' := 162) rfl ?_
  refine Wx.getI ok kX7_over 89 rfl lk_RX7_214_0 h (fun t162 h => ?_)
  refine Wx.run ok kX7_over 90 3 (lv' := [(12, .inl (s0 + q152.1)), (0, .inr (.inr (some v0))), (4, .inl v4), (5, .inl v5), (6, .inl v6), (7, .inl v7), (8, .inl v8), (9, .inl v9), (10, .inl v10), (11, .inl v11)]) (st' := [.inl (0 : Int32), .inl v11, .inl v7, .inl t162, .inr (.inr (some v0)), .inl (s0 + q152.1)]) (pc' := 170) rfl ?_
  obtain ⟨a170, ha170, h⟩ := gob h
  obtain ⟨q170, hq170, h⟩ := gob h
  refine Wx.callV ok kX7_over 93 rfl lm_RX7_193 cd_X7_matrix ha170 [.inl t162, .inl v7, .inl v11, .inl (0 : Int32)] (some (.inl q170.1)) (aX7_matrix _ _ hq170) (by decide) rfl (Nat.le_of_ble_eq_true rfl) rfl rfl ?_
  refine Wx.run ok kX7_over 94 2 (lv' := [(12, .inl (s0 + q152.1)), (0, .inr (.inr (some v0))), (4, .inl v4), (5, .inl v5), (6, .inl v6), (7, .inl v7), (8, .inl v8), (9, .inl v9), (10, .inl v10), (11, .inl v11)]) (st' := [.inl v4, .inl v6, .inl q170.1, .inl (s0 + q152.1)]) (pc' := 177) rfl ?_
  refine Wx.irem ok kX7_over 96 rfl h (fun t177 h => ?_)
  refine Wx.run ok kX7_over 97 1 (lv' := [(12, .inl (s0 + q152.1)), (0, .inr (.inr (some v0))), (4, .inl v4), (5, .inl v5), (6, .inl v6), (7, .inl v7), (8, .inl v8), (9, .inl v9), (10, .inl v10), (11, .inl v11)]) (st' := [.inr (.inr (some v0)), .inl t177, .inl q170.1, .inl (s0 + q152.1)]) (pc' := 179) rfl ?_
  refine Wx.getI ok kX7_over 98 rfl lk_RX7_196_0 h (fun t179 h => ?_)
  refine Wx.irem ok kX7_over 99 rfl h (fun t182 h => ?_)
  refine Wx.run ok kX7_over 100 5 (lv' := [(12, .inl ((s0 + q152.1) + (q170.1 * t182))), (0, .inr (.inr (some v0))), (4, .inl v4), (5, .inl v5), (6, .inl v6), (7, .inl v7), (8, .inl v8), (9, .inl v9), (10, .inl v10), (11, .inl v11)]) (st' := [.inr (.inr (some v0)), .inl ((s0 + q152.1) + (q170.1 * t182))]) (pc' := 190) rfl ?_
  refine Wx.getI ok kX7_over 105 rfl lk_RX7_211_0 h (fun t190 h => ?_)
  refine Wx.run ok kX7_over 106 1 (lv' := [(12, .inl ((s0 + q152.1) + (q170.1 * t182))), (0, .inr (.inr (some v0))), (4, .inl v4), (5, .inl v5), (6, .inl v6), (7, .inl v7), (8, .inl v8), (9, .inl v9), (10, .inl v10), (11, .inl v11)]) (st' := [.inl (2 : Int32), .inl t190, .inl ((s0 + q152.1) + (q170.1 * t182))]) (pc' := 194) rfl ?_
  refine Wx.icmp_ne ok kX7_over 107 (tgt := 224) rfl (by decide) h (fun hc194 h => ?_) (fun hc194 h => ?_)
  · refine Wx.run ok kX7_over 108 2 (lv' := [(12, .inl ((s0 + q152.1) + (q170.1 * t182))), (0, .inr (.inr (some v0))), (4, .inl v4), (5, .inl v5), (6, .inl v6), (7, .inl v7), (8, .inl v8), (9, .inl v9), (10, .inl v10), (11, .inl v11)]) (st' := [.inr (.inr (some v0)), .inr (.inr (some v0)), .inl ((s0 + q152.1) + (q170.1 * t182))]) (pc' := 199) rfl ?_
    refine Wx.getI ok kX7_over 110 rfl lk_RX7_214_0 h (fun t199 h => ?_)
    refine Wx.run ok kX7_over 111 3 (lv' := [(12, .inl ((s0 + q152.1) + (q170.1 * t182))), (0, .inr (.inr (some v0))), (4, .inl v4), (5, .inl v5), (6, .inl v6), (7, .inl v7), (8, .inl v8), (9, .inl v9), (10, .inl v10), (11, .inl v11)]) (st' := [.inl (1 : Int32), .inl v11, .inl v7, .inl t199, .inr (.inr (some v0)), .inl ((s0 + q152.1) + (q170.1 * t182))]) (pc' := 207) rfl ?_
    obtain ⟨a207, ha207, h⟩ := gob h
    obtain ⟨q207, hq207, h⟩ := gob h
    refine Wx.callV ok kX7_over 114 rfl lm_RX7_193 cd_X7_matrix ha207 [.inl t199, .inl v7, .inl v11, .inl (1 : Int32)] (some (.inl q207.1)) (aX7_matrix _ _ hq207) (by decide) rfl (Nat.le_of_ble_eq_true rfl) rfl rfl ?_
    refine Wx.run ok kX7_over 115 2 (lv' := [(12, .inl ((s0 + q152.1) + (q170.1 * t182))), (0, .inr (.inr (some v0))), (4, .inl v4), (5, .inl v5), (6, .inl v6), (7, .inl v7), (8, .inl v8), (9, .inl v9), (10, .inl v10), (11, .inl v11)]) (st' := [.inl v4, .inl v6, .inl q207.1, .inl ((s0 + q152.1) + (q170.1 * t182))]) (pc' := 214) rfl ?_
    refine Wx.irem ok kX7_over 117 rfl h (fun t214 h => ?_)
    refine Wx.run ok kX7_over 118 1 (lv' := [(12, .inl ((s0 + q152.1) + (q170.1 * t182))), (0, .inr (.inr (some v0))), (4, .inl v4), (5, .inl v5), (6, .inl v6), (7, .inl v7), (8, .inl v8), (9, .inl v9), (10, .inl v10), (11, .inl v11)]) (st' := [.inr (.inr (some v0)), .inl t214, .inl q207.1, .inl ((s0 + q152.1) + (q170.1 * t182))]) (pc' := 216) rfl ?_
    refine Wx.getI ok kX7_over 119 rfl lk_RX7_196_0 h (fun t216 h => ?_)
    refine Wx.idiv ok kX7_over 120 rfl h (fun t219 h => ?_)
    refine Wx.run ok kX7_over 121 1 (lv' := [(12, .inl ((s0 + q152.1) + (q170.1 * t182))), (0, .inr (.inr (some v0))), (4, .inl v4), (5, .inl v5), (6, .inl v6), (7, .inl v7), (8, .inl v8), (9, .inl v9), (10, .inl v10), (11, .inl v11)]) (st' := [.inl (q207.1 * t219), .inl ((s0 + q152.1) + (q170.1 * t182))]) (pc' := 221) rfl ?_
    refine Wx.jump ok kX7_over 122 (tgt := 225) rfl (by decide) ?_
    refine Wx.sub [1, 2, 3, 4, 5, 6, 7, 8, 9] rfl ?_
    exact aX7_over_b225 ok hres (F := F) r k258 hr hk258 _ _ _ _ _ _ _ _ _ _ _ _ h
  · refine Wx.run ok kX7_over 123 1 (lv' := [(12, .inl ((s0 + q152.1) + (q170.1 * t182))), (0, .inr (.inr (some v0))), (4, .inl v4), (5, .inl v5), (6, .inl v6), (7, .inl v7), (8, .inl v8), (9, .inl v9), (10, .inl v10), (11, .inl v11)]) (st' := [.inl (0 : Int32), .inl ((s0 + q152.1) + (q170.1 * t182))]) (pc' := 225) rfl ?_
    refine Wx.sub [1, 2, 3, 4, 5, 6, 7, 8, 9] rfl ?_
    exact aX7_over_b225 ok hres (F := F) r k258 hr hk258 _ _ _ _ _ _ _ _ _ _ _ _ h
set_option maxRecDepth 100000 in
set_option maxHeartbeats 4000000 in
theorem aX7_over_h108 {X : gX} (ok : gOk X cX7_over RX7 13 (some .int) rmX7_over) {res : Int32 × gW} (hres : gRs X (some (.int res.1)) res.2) {F : Nat} (r : Nat → Int32 → Int32 → Int32 → Int32 → Int32 → Int32 → Int32 → Int32 → gW → Option (Int32 × gW)) (k258 : Nat → Int32 → Int32 → Int32 → Int32 → Int32 → Int32 → gW → Option (Int32 × gW)) (hr : ∀ (v0 : Nat) (v4 : Int32) (v5 : Int32) (v6 : Int32) (v7 : Int32) (v8 : Int32) (v9 : Int32) (v10 : Int32) (v11 : Int32) (w : gW), r v0 v4 v5 v6 v7 v8 v9 v10 v11 w = some res → Wx X w 0 0 108 [(0, .inr (.inr (some v0))), (4, .inl v4), (5, .inl v5), (6, .inl v6), (7, .inl v7), (8, .inl v8), (9, .inl v9), (10, .inl v10), (11, .inl v11)] []) (hk258 : ∀ (v0 : Nat) (v4 : Int32) (v5 : Int32) (v6 : Int32) (v7 : Int32) (v8 : Int32) (v9 : Int32) (w : gW), k258 v0 v4 v5 v6 v7 v8 v9 w = some res → Wx X w 0 0 258 [(0, .inr (.inr (some v0))), (4, .inl v4), (5, .inl v5), (6, .inl v6), (7, .inl v7), (8, .inl v8), (9, .inl v9)] []) : ∀ (v0 : Nat) (v4 : Int32) (v5 : Int32) (v6 : Int32) (v7 : Int32) (v8 : Int32) (v9 : Int32) (v10 : Int32) (v11 : Int32) (w : gW), mX7_over_h108 F r k258 v0 v4 v5 v6 v7 v8 v9 v10 v11 w = some res → Wx X w 0 0 108 [(0, .inr (.inr (some v0))), (4, .inl v4), (5, .inl v5), (6, .inl v6), (7, .inl v7), (8, .inl v8), (9, .inl v9), (10, .inl v10), (11, .inl v11)] [] := by
  intro v0 v4 v5 v6 v7 v8 v9 v10 v11 w h
  unfold mX7_over_h108 at h
  refine Wx.run ok kX7_over 60 2 (lv' := [(0, .inr (.inr (some v0))), (4, .inl v4), (5, .inl v5), (6, .inl v6), (7, .inl v7), (8, .inl v8), (9, .inl v9), (10, .inl v10), (11, .inl v11)]) (st' := [.inr (.inr (some v0)), .inl v11]) (pc' := 111) rfl ?_
  refine Wx.getI ok kX7_over 62 rfl lk_RX7_211_0 h (fun t111 h => ?_)
  refine Wx.icmp_ge ok kX7_over 63 (tgt := 258) rfl (by decide) h (fun hc114 h => ?_) (fun hc114 h => ?_)
  · refine Wx.sub [0, 1, 2, 3, 4, 5, 6] rfl ?_
    exact hk258 _ _ _ _ _ _ _ _ h
  · refine Wx.run ok kX7_over 64 1 (lv' := [(0, .inr (.inr (some v0))), (4, .inl v4), (5, .inl v5), (6, .inl v6), (7, .inl v7), (8, .inl v8), (9, .inl v9), (10, .inl v10), (11, .inl v11)]) (st' := [.inl v11]) (pc' := 119) rfl ?_
    refine Wx.if_ne ok kX7_over 65 (tgt := 135) rfl (by decide) h (fun hc119 h => ?_) (fun hc119 h => ?_)
    · refine Wx.run ok kX7_over 66 2 (lv' := [(0, .inr (.inr (some v0))), (4, .inl v4), (5, .inl v5), (6, .inl v6), (7, .inl v7), (8, .inl v8), (9, .inl v9), (10, .inl v10), (11, .inl v11)]) (st' := [.inl v4, .inl v5]) (pc' := 126) rfl ?_
      refine Wx.irem ok kX7_over 68 rfl h (fun t126 h => ?_)
      refine Wx.run ok kX7_over 69 1 (lv' := [(0, .inr (.inr (some v0))), (4, .inl v4), (5, .inl v5), (6, .inl v6), (7, .inl v7), (8, .inl v8), (9, .inl v9), (10, .inl v10), (11, .inl v11)]) (st' := [.inr (.inr (some v0)), .inl t126]) (pc' := 128) rfl ?_
      refine Wx.getI ok kX7_over 70 rfl lk_RX7_196_0 h (fun t128 h => ?_)
      refine Wx.irem ok kX7_over 71 rfl h (fun t131 h => ?_)
      refine Wx.jump ok kX7_over 72 (tgt := 145) rfl (by decide) ?_
      exact aX7_over_b145 ok hres (F := F) r k258 hr hk258 _ _ _ _ _ _ _ _ _ _ _ h
    · refine Wx.run ok kX7_over 73 2 (lv' := [(0, .inr (.inr (some v0))), (4, .inl v4), (5, .inl v5), (6, .inl v6), (7, .inl v7), (8, .inl v8), (9, .inl v9), (10, .inl v10), (11, .inl v11)]) (st' := [.inl v4, .inl v5]) (pc' := 139) rfl ?_
      refine Wx.irem ok kX7_over 75 rfl h (fun t139 h => ?_)
      refine Wx.run ok kX7_over 76 1 (lv' := [(0, .inr (.inr (some v0))), (4, .inl v4), (5, .inl v5), (6, .inl v6), (7, .inl v7), (8, .inl v8), (9, .inl v9), (10, .inl v10), (11, .inl v11)]) (st' := [.inr (.inr (some v0)), .inl t139]) (pc' := 141) rfl ?_
      refine Wx.getI ok kX7_over 77 rfl lk_RX7_196_0 h (fun t141 h => ?_)
      refine Wx.idiv ok kX7_over 78 rfl h (fun t144 h => ?_)
      exact aX7_over_b145 ok hres (F := F) r k258 hr hk258 _ _ _ _ _ _ _ _ _ _ _ h
set_option maxRecDepth 100000 in
set_option maxHeartbeats 4000000 in
theorem aX7_over_l108 {X : gX} (ok : gOk X cX7_over RX7 13 (some .int) rmX7_over) {res : Int32 × gW} (hres : gRs X (some (.int res.1)) res.2) {F : Nat} (k258 : Nat → Int32 → Int32 → Int32 → Int32 → Int32 → Int32 → gW → Option (Int32 × gW)) (hk258 : ∀ (v0 : Nat) (v4 : Int32) (v5 : Int32) (v6 : Int32) (v7 : Int32) (v8 : Int32) (v9 : Int32) (w : gW), k258 v0 v4 v5 v6 v7 v8 v9 w = some res → Wx X w 0 0 258 [(0, .inr (.inr (some v0))), (4, .inl v4), (5, .inl v5), (6, .inl v6), (7, .inl v7), (8, .inl v8), (9, .inl v9)] []) : ∀ (n : Nat) (v0 : Nat) (v4 : Int32) (v5 : Int32) (v6 : Int32) (v7 : Int32) (v8 : Int32) (v9 : Int32) (v10 : Int32) (v11 : Int32) (w : gW), mX7_over_l108 F k258 n v0 v4 v5 v6 v7 v8 v9 v10 v11 w = some res → Wx X w 0 0 108 [(0, .inr (.inr (some v0))), (4, .inl v4), (5, .inl v5), (6, .inl v6), (7, .inl v7), (8, .inl v8), (9, .inl v9), (10, .inl v10), (11, .inl v11)] [] := by
  intro n
  induction n with
  | zero => intro v0 v4 v5 v6 v7 v8 v9 v10 v11 w h; cases (show (none : Option (Int32 × gW)) = some res from h)
  | succ n ih =>
    intro v0 v4 v5 v6 v7 v8 v9 v10 v11 w h
    exact aX7_over_h108 ok hres (F := F) (mX7_over_l108 F k258 n) k258 ih hk258 v0 v4 v5 v6 v7 v8 v9 v10 v11 w h
set_option maxRecDepth 100000 in
set_option maxHeartbeats 4000000 in
theorem aX7_over_h73 {X : gX} (ok : gOk X cX7_over RX7 13 (some .int) rmX7_over) {res : Int32 × gW} (hres : gRs X (some (.int res.1)) res.2) {F : Nat} (r : Nat → Int32 → Int32 → Int32 → gW → Option (Int32 × gW)) (k290 : Nat → Int32 → Int32 → gW → Option (Int32 × gW)) (hr : ∀ (v0 : Nat) (v4 : Int32) (v5 : Int32) (v6 : Int32) (w : gW), r v0 v4 v5 v6 w = some res → Wx X w 0 0 73 [(0, .inr (.inr (some v0))), (4, .inl v4), (5, .inl v5), (6, .inl v6)] []) (hk290 : ∀ (v0 : Nat) (v4 : Int32) (v5 : Int32) (w : gW), k290 v0 v4 v5 w = some res → Wx X w 0 0 290 [(0, .inr (.inr (some v0))), (4, .inl v4), (5, .inl v5)] []) : ∀ (v0 : Nat) (v4 : Int32) (v5 : Int32) (v6 : Int32) (w : gW), mX7_over_h73 F r k290 v0 v4 v5 v6 w = some res → Wx X w 0 0 73 [(0, .inr (.inr (some v0))), (4, .inl v4), (5, .inl v5), (6, .inl v6)] [] := by
  intro v0 v4 v5 v6 w h
  unfold mX7_over_h73 at h
  refine Wx.run ok kX7_over 40 3 (lv' := [(0, .inr (.inr (some v0))), (4, .inl v4), (5, .inl v5), (6, .inl v6)]) (st' := [.inr (.inr (some v0)), .inl v4, .inl v6]) (pc' := 78) rfl ?_
  refine Wx.getI ok kX7_over 43 rfl lk_RX7_208_0 h (fun t78 h => ?_)
  refine Wx.run ok kX7_over 44 1 (lv' := [(0, .inr (.inr (some v0))), (4, .inl v4), (5, .inl v5), (6, .inl v6)]) (st' := [.inl (v4 * t78), .inl v6]) (pc' := 82) rfl ?_
  refine Wx.icmp_ge ok kX7_over 45 (tgt := 290) rfl (by decide) h (fun hc82 h => ?_) (fun hc82 h => ?_)
  · refine Wx.sub [0, 1, 2] rfl ?_
    exact hk290 _ _ _ _ h
  · refine Wx.run ok kX7_over 46 2 (lv' := [(0, .inr (.inr (some v0))), (4, .inl v4), (5, .inl v5), (6, .inl v6)]) (st' := [.inl v4, .inl v5]) (pc' := 89) rfl ?_
    refine Wx.idiv ok kX7_over 48 rfl h (fun t89 h => ?_)
    refine Wx.run ok kX7_over 49 3 (lv' := [(7, .inl t89), (0, .inr (.inr (some v0))), (4, .inl v4), (5, .inl v5), (6, .inl v6)]) (st' := [.inl v4, .inl v6]) (pc' := 96) rfl ?_
    refine Wx.idiv ok kX7_over 52 rfl h (fun t96 h => ?_)
    refine Wx.run ok kX7_over 53 7 (lv' := [(11, .inl (0 : Int32)), (10, .inl (1 : Int32)), (9, .inl (0 : Int32)), (8, .inl t96), (7, .inl t89), (0, .inr (.inr (some v0))), (4, .inl v4), (5, .inl v5), (6, .inl v6)]) (st' := []) (pc' := 108) rfl ?_
    refine Wx.sub [5, 6, 7, 8, 4, 3, 2, 1, 0] rfl ?_
    refine aX7_over_l108 ok hres (F := F) _ ?_ F _ _ _ _ _ _ _ _ _ _ h
    · intro v0 v4 v5 v6 v7 v8 v9 w h
      refine Wx.run ok kX7_over 142 6 (lv' := [(0, .inr (.inr (some v0))), (4, .inl v4), (5, .inl v5), (6, .inl v6), (7, .inl v7), (8, .inl v8), (9, .inl v9)]) (st' := [.inr (.inr (some v0)), .inr (.inr (some v0)), .inl v4, .inl v6, .inl v5, .inr (.inr (some v0))]) (pc' := 267) rfl ?_
      refine Wx.getI ok kX7_over 148 rfl lk_RX7_217_0 h (fun t267 h => ?_)
      refine Wx.run ok kX7_over 149 2 (lv' := [(0, .inr (.inr (some v0))), (4, .inl v4), (5, .inl v5), (6, .inl v6), (7, .inl v7), (8, .inl v8), (9, .inl v9)]) (st' := [.inl v8, .inl v7, .inl t267, .inr (.inr (some v0)), .inl v4, .inl v6, .inl v5, .inr (.inr (some v0))]) (pc' := 274) rfl ?_
      obtain ⟨a274, ha274, h⟩ := gob h
      obtain ⟨q274, hq274, h⟩ := gob h
      refine Wx.callV ok kX7_over 151 rfl lm_RX7_118 cd_X7_prod ha274 [.inl t267, .inl v7, .inl v8] (some (.inl q274.1)) (aX7_prod _ _ hq274) (by decide) rfl (Nat.le_of_ble_eq_true rfl) rfl rfl ?_
      refine Wx.run ok kX7_over 152 3 (lv' := [(0, .inr (.inr (some v0))), (4, .inl v4), (5, .inl v5), (6, .inl v6), (7, .inl v7), (8, .inl v8), (9, .inl v9)]) (st' := [.inl ((v4 * q274.1) + v9), .inl v6, .inl v5, .inr (.inr (some v0))]) (pc' := 281) rfl ?_
      obtain ⟨a281, ha281, h⟩ := gob h
      obtain ⟨q281, hq281, h⟩ := gob h
      refine Wx.callV ok kX7_over 155 rfl lm_RX7_104 cd_X7_set ha281 [.inl v5, .inl v6, .inl ((v4 * q274.1) + v9)] none (aX7_set _ _ hq281) (by decide) rfl (Nat.le_of_ble_eq_true rfl) rfl rfl ?_
      refine Wx.run ok kX7_over 156 1 (lv' := [(6, .inl (v6 + (1 : Int32))), (0, .inr (.inr (some v0))), (4, .inl v4), (5, .inl v5), (7, .inl v7), (8, .inl v8), (9, .inl v9)]) (st' := []) (pc' := 287) rfl ?_
      refine Wx.jump ok kX7_over 157 (tgt := 73) rfl (by decide) ?_
      refine Wx.sub [1, 2, 3, 0] rfl ?_
      exact hr _ _ _ _ _ h
set_option maxRecDepth 100000 in
set_option maxHeartbeats 4000000 in
theorem aX7_over_l73 {X : gX} (ok : gOk X cX7_over RX7 13 (some .int) rmX7_over) {res : Int32 × gW} (hres : gRs X (some (.int res.1)) res.2) {F : Nat} (k290 : Nat → Int32 → Int32 → gW → Option (Int32 × gW)) (hk290 : ∀ (v0 : Nat) (v4 : Int32) (v5 : Int32) (w : gW), k290 v0 v4 v5 w = some res → Wx X w 0 0 290 [(0, .inr (.inr (some v0))), (4, .inl v4), (5, .inl v5)] []) : ∀ (n : Nat) (v0 : Nat) (v4 : Int32) (v5 : Int32) (v6 : Int32) (w : gW), mX7_over_l73 F k290 n v0 v4 v5 v6 w = some res → Wx X w 0 0 73 [(0, .inr (.inr (some v0))), (4, .inl v4), (5, .inl v5), (6, .inl v6)] [] := by
  intro n
  induction n with
  | zero => intro v0 v4 v5 v6 w h; cases (show (none : Option (Int32 × gW)) = some res from h)
  | succ n ih =>
    intro v0 v4 v5 v6 w h
    exact aX7_over_h73 ok hres (F := F) (mX7_over_l73 F k290 n) k290 ih hk290 v0 v4 v5 v6 w h
set_option maxRecDepth 100000 in
set_option maxHeartbeats 4000000 in
theorem aX7_over_h58 {X : gX} (ok : gOk X cX7_over RX7 13 (some .int) rmX7_over) {res : Int32 × gW} (hres : gRs X (some (.int res.1)) res.2) {F : Nat} (r : Nat → Int32 → Int32 → gW → Option (Int32 × gW)) (k296 : Nat → Int32 → gW → Option (Int32 × gW)) (hr : ∀ (v0 : Nat) (v4 : Int32) (v5 : Int32) (w : gW), r v0 v4 v5 w = some res → Wx X w 0 0 58 [(0, .inr (.inr (some v0))), (4, .inl v4), (5, .inl v5)] []) (hk296 : ∀ (v0 : Nat) (v4 : Int32) (w : gW), k296 v0 v4 w = some res → Wx X w 0 0 296 [(0, .inr (.inr (some v0))), (4, .inl v4)] []) : ∀ (v0 : Nat) (v4 : Int32) (v5 : Int32) (w : gW), mX7_over_h58 F r k296 v0 v4 v5 w = some res → Wx X w 0 0 58 [(0, .inr (.inr (some v0))), (4, .inl v4), (5, .inl v5)] [] := by
  intro v0 v4 v5 w h
  unfold mX7_over_h58 at h
  refine Wx.run ok kX7_over 32 3 (lv' := [(0, .inr (.inr (some v0))), (4, .inl v4), (5, .inl v5)]) (st' := [.inr (.inr (some v0)), .inl v4, .inl v5]) (pc' := 63) rfl ?_
  refine Wx.getI ok kX7_over 35 rfl lk_RX7_208_0 h (fun t63 h => ?_)
  refine Wx.run ok kX7_over 36 1 (lv' := [(0, .inr (.inr (some v0))), (4, .inl v4), (5, .inl v5)]) (st' := [.inl (v4 * t63), .inl v5]) (pc' := 67) rfl ?_
  refine Wx.icmp_ge ok kX7_over 37 (tgt := 296) rfl (by decide) h (fun hc67 h => ?_) (fun hc67 h => ?_)
  · refine Wx.sub [0, 1] rfl ?_
    exact hk296 _ _ _ h
  · refine Wx.run ok kX7_over 38 2 (lv' := [(6, .inl (0 : Int32)), (0, .inr (.inr (some v0))), (4, .inl v4), (5, .inl v5)]) (st' := []) (pc' := 73) rfl ?_
    refine Wx.sub [1, 2, 3, 0] rfl ?_
    refine aX7_over_l73 ok hres (F := F) _ ?_ F _ _ _ _ _ h
    · intro v0 v4 v5 w h
      refine Wx.run ok kX7_over 158 1 (lv' := [(5, .inl (v5 + (1 : Int32))), (0, .inr (.inr (some v0))), (4, .inl v4)]) (st' := []) (pc' := 293) rfl ?_
      refine Wx.jump ok kX7_over 159 (tgt := 58) rfl (by decide) ?_
      refine Wx.sub [1, 2, 0] rfl ?_
      exact hr _ _ _ _ h
set_option maxRecDepth 100000 in
set_option maxHeartbeats 4000000 in
theorem aX7_over_l58 {X : gX} (ok : gOk X cX7_over RX7 13 (some .int) rmX7_over) {res : Int32 × gW} (hres : gRs X (some (.int res.1)) res.2) {F : Nat} (k296 : Nat → Int32 → gW → Option (Int32 × gW)) (hk296 : ∀ (v0 : Nat) (v4 : Int32) (w : gW), k296 v0 v4 w = some res → Wx X w 0 0 296 [(0, .inr (.inr (some v0))), (4, .inl v4)] []) : ∀ (n : Nat) (v0 : Nat) (v4 : Int32) (v5 : Int32) (w : gW), mX7_over_l58 F k296 n v0 v4 v5 w = some res → Wx X w 0 0 58 [(0, .inr (.inr (some v0))), (4, .inl v4), (5, .inl v5)] [] := by
  intro n
  induction n with
  | zero => intro v0 v4 v5 w h; cases (show (none : Option (Int32 × gW)) = some res from h)
  | succ n ih =>
    intro v0 v4 v5 w h
    exact aX7_over_h58 ok hres (F := F) (mX7_over_l58 F k296 n) k296 ih hk296 v0 v4 v5 w h
set_option maxRecDepth 100000 in
set_option maxHeartbeats 4000000 in
theorem aX7_over (l : Launch) (G : gG) {F : Nat} {v0 : Nat} {v1 : Int32} {v2 : Int32} {w : gW} {res : Int32 × gW} (h : mX7_over F v0 v1 v2 w = some res) : gM l yX7_over cX7_over 13 (some .int) rmX7_over G w (gTs [.inr (.inr (some v0)), .inl v1, .inl v2]) (some (.int res.1)) res.2 := by
  refine gM_of (y := yX7_over) (by decide +kernel) (Nat.le_of_ble_eq_true rfl) ?_
  intro X ok hl hG hres hnm
  subst hl; subst hG
  unfold mX7_over at h
  show Wx X w 0 0 0 [(0, .inr (.inr (some v0))), (1, .inl v1), (2, .inl v2)] []
  refine Wx.run ok kX7_over 0 3 (lv' := [(0, .inr (.inr (some v0))), (1, .inl v1), (2, .inl v2)]) (st' := [.inl v2, .inl v1, .inr (.inr (some v0))]) (pc' := 3) rfl ?_
  obtain ⟨a3, ha3, h⟩ := gob h
  obtain ⟨q3, hq3, h⟩ := gob h
  refine Wx.callV ok kX7_over 3 rfl lm_RX7_269 cd_X7_lacks ha3 [.inl v1, .inl v2] (some (.inl q3.1)) (aX7_lacks _ _ hq3) (by decide) rfl (Nat.le_of_ble_eq_true rfl) rfl rfl ?_
  refine Wx.run ok kX7_over 4 2 (lv' := [(3, .inl q3.1), (0, .inr (.inr (some v0))), (1, .inl v1), (2, .inl v2)]) (st' := [.inl q3.1]) (pc' := 8) rfl ?_
  refine Wx.if_ge ok kX7_over 6 (tgt := 13) rfl (by decide) h (fun hc8 h => ?_) (fun hc8 h => ?_)
  · refine Wx.run ok kX7_over 9 1 (lv' := [(3, .inl q3.1), (0, .inr (.inr (some v0))), (1, .inl v1), (2, .inl v2)]) (st' := [.inr (.inr (some v0))]) (pc' := 14) rfl ?_
    refine Wx.getI ok kX7_over 10 rfl lk_RX7_196_0 h (fun t14 h => ?_)
    refine Wx.run ok kX7_over 11 1 (lv' := [(3, .inl q3.1), (0, .inr (.inr (some v0))), (1, .inl v1), (2, .inl v2)]) (st' := [.inr (.inr (some v0)), .inl t14]) (pc' := 18) rfl ?_
    refine Wx.getI ok kX7_over 12 rfl lk_RX7_211_0 h (fun t18 h => ?_)
    obtain ⟨q21, hq21, h⟩ := gob h
    refine Wx.callS ok kX7_over 13 rfl lm_RX7_266 cd_X7_power [.inl t14, .inl t18] (some (.inl q21.1)) (aX7_power _ _ hq21) (by decide) rfl (Nat.le_of_ble_eq_true rfl) rfl rfl ?_
    refine Wx.run ok kX7_over 14 2 (lv' := [(4, .inl q21.1), (3, .inl q3.1), (0, .inr (.inr (some v0))), (1, .inl v1), (2, .inl v2)]) (st' := [.inr (.inr (some v0))]) (pc' := 27) rfl ?_
    refine Wx.getI ok kX7_over 16 rfl lk_RX7_95_0 h (fun t27 h => ?_)
    refine Wx.run ok kX7_over 17 1 (lv' := [(4, .inl q21.1), (3, .inl q3.1), (0, .inr (.inr (some v0))), (1, .inl v1), (2, .inl v2)]) (st' := [.inl (8 : Int32), .inl t27]) (pc' := 32) rfl ?_
    refine Wx.icmp_eq ok kX7_over 18 (tgt := 47) rfl (by decide) h (fun hc32 h => ?_) (fun hc32 h => ?_)
    · refine Wx.run ok kX7_over 25 1 (lv' := [(4, .inl q21.1), (3, .inl q3.1), (0, .inr (.inr (some v0))), (1, .inl v1), (2, .inl v2)]) (st' := [.inl (-3 : Int32)]) (pc' := 49) rfl ?_
      exact Wx.ireturn ok kX7_over 26 rfl hres h (by decide)
    · refine Wx.run ok kX7_over 19 2 (lv' := [(4, .inl q21.1), (3, .inl q3.1), (0, .inr (.inr (some v0))), (1, .inl v1), (2, .inl v2)]) (st' := [.inr (.inr (some v0)), .inl q21.1]) (pc' := 38) rfl ?_
      refine Wx.getI ok kX7_over 21 rfl lk_RX7_208_0 h (fun t38 h => ?_)
      refine Wx.run ok kX7_over 22 2 (lv' := [(4, .inl q21.1), (3, .inl q3.1), (0, .inr (.inr (some v0))), (1, .inl v1), (2, .inl v2)]) (st' := [.inl (48 : Int32), .inl (q21.1 * t38)]) (pc' := 44) rfl ?_
      refine Wx.icmp_le ok kX7_over 24 (tgt := 50) rfl (by decide) h (fun hc44 h => ?_) (fun hc44 h => ?_)
      · refine Wx.run ok kX7_over 27 2 (lv' := [(4, .inl q21.1), (3, .inl q3.1), (0, .inr (.inr (some v0))), (1, .inl v1), (2, .inl v2)]) (st' := [.inl v2, .inr (.inr (some v0))]) (pc' := 52) rfl ?_
        obtain ⟨a52, ha52, h⟩ := gob h
        obtain ⟨q52, hq52, h⟩ := gob h
        refine Wx.callV ok kX7_over 29 rfl lm_RX7_272 cd_X7_sumOf ha52 [.inl v2] none (aX7_sumOf _ _ hq52) (by decide) rfl (Nat.le_of_ble_eq_true rfl) rfl rfl ?_
        refine Wx.run ok kX7_over 30 2 (lv' := [(5, .inl (0 : Int32)), (4, .inl q21.1), (3, .inl q3.1), (0, .inr (.inr (some v0))), (1, .inl v1), (2, .inl v2)]) (st' := []) (pc' := 58) rfl ?_
        refine Wx.sub [3, 1, 0] rfl ?_
        refine aX7_over_l58 ok hres (F := F) _ ?_ F _ _ _ _ h
        · intro v0 v4 w h
          refine Wx.run ok kX7_over 160 3 (lv' := [(0, .inr (.inr (some v0))), (4, .inl v4)]) (st' := [.inr (.inr (some v0)), .inl v4, .inr (.inr (some v0))]) (pc' := 300) rfl ?_
          refine Wx.getI ok kX7_over 163 rfl lk_RX7_208_0 h (fun t300 h => ?_)
          refine Wx.run ok kX7_over 164 1 (lv' := [(0, .inr (.inr (some v0))), (4, .inl v4)]) (st' := [.inl (v4 * t300), .inr (.inr (some v0))]) (pc' := 304) rfl ?_
          obtain ⟨a304, ha304, h⟩ := gob h
          obtain ⟨q304, hq304, h⟩ := gob h
          refine Wx.callV ok kX7_over 165 rfl lm_RX7_108 cd_X7_added ha304 [.inl (v4 * t300)] (some (.inl q304.1)) (aX7_added _ _ hq304) (by decide) rfl (Nat.le_of_ble_eq_true rfl) rfl rfl ?_
          exact Wx.ireturn ok kX7_over 166 rfl hres h (by decide)
      · refine Wx.run ok kX7_over 25 1 (lv' := [(4, .inl q21.1), (3, .inl q3.1), (0, .inr (.inr (some v0))), (1, .inl v1), (2, .inl v2)]) (st' := [.inl (-3 : Int32)]) (pc' := 49) rfl ?_
        exact Wx.ireturn ok kX7_over 26 rfl hres h (by decide)
  · refine Wx.run ok kX7_over 7 1 (lv' := [(3, .inl q3.1), (0, .inr (.inr (some v0))), (1, .inl v1), (2, .inl v2)]) (st' := [.inl q3.1]) (pc' := 12) rfl ?_
    exact Wx.ireturn ok kX7_over 8 rfl hres h (by decide)
set_option maxRecDepth 100000 in
set_option maxHeartbeats 4000000 in
theorem aX7_parts (l : Launch) (G : gG) {F : Nat} {v0 : Nat} {v1 : Int32} {v2 : Int32} {w : gW} {res : Int32 × gW} (h : mX7_parts F v0 v1 v2 w = some res) : gM l yX7_parts cX7_parts 4 (some .int) rmX7_parts G w (gTs [.inr (.inr (some v0)), .inl v1, .inl v2]) (some (.int res.1)) res.2 := by
  refine gM_of (y := yX7_parts) (by decide +kernel) (Nat.le_of_ble_eq_true rfl) ?_
  intro X ok hl hG hres hnm
  subst hl; subst hG
  unfold mX7_parts at h
  show Wx X w 0 0 0 [(0, .inr (.inr (some v0))), (1, .inl v1), (2, .inl v2)] []
  refine Wx.run ok kX7_parts 0 3 (lv' := [(0, .inr (.inr (some v0))), (1, .inl v1), (2, .inl v2)]) (st' := [.inl v2, .inl v1, .inr (.inr (some v0))]) (pc' := 3) rfl ?_
  obtain ⟨a3, ha3, h⟩ := gob h
  obtain ⟨q3, hq3, h⟩ := gob h
  refine Wx.callV ok kX7_parts 3 rfl lm_RX7_269 cd_X7_lacks ha3 [.inl v1, .inl v2] (some (.inl q3.1)) (aX7_lacks _ _ hq3) (by decide) rfl (Nat.le_of_ble_eq_true rfl) rfl rfl ?_
  refine Wx.run ok kX7_parts 4 2 (lv' := [(3, .inl q3.1), (0, .inr (.inr (some v0))), (1, .inl v1), (2, .inl v2)]) (st' := [.inl q3.1]) (pc' := 8) rfl ?_
  refine Wx.if_ge ok kX7_parts 6 (tgt := 15) rfl (by decide) h (fun hc8 h => ?_) (fun hc8 h => ?_)
  · refine Wx.run ok kX7_parts 9 1 (lv' := [(3, .inl q3.1), (0, .inr (.inr (some v0))), (1, .inl v1), (2, .inl v2)]) (st' := [.inl v2]) (pc' := 16) rfl ?_
    refine Wx.if_ne ok kX7_parts 10 (tgt := 35) rfl (by decide) h (fun hc16 h => ?_) (fun hc16 h => ?_)
    · refine Wx.run ok kX7_parts 11 1 (lv' := [(3, .inl q3.1), (0, .inr (.inr (some v0))), (1, .inl v1), (2, .inl v2)]) (st' := [.inr (.inr (some v0))]) (pc' := 20) rfl ?_
      refine Wx.getI ok kX7_parts 12 rfl lk_RX7_196_0 h (fun t20 h => ?_)
      refine Wx.run ok kX7_parts 13 1 (lv' := [(3, .inl q3.1), (0, .inr (.inr (some v0))), (1, .inl v1), (2, .inl v2)]) (st' := [.inr (.inr (some v0)), .inl t20]) (pc' := 24) rfl ?_
      refine Wx.getR ok kX7_parts 14 rfl lk_RX7_80_0 h (fun t24 h => ?_)
      refine Wx.run ok kX7_parts 15 1 (lv' := [(3, .inl q3.1), (0, .inr (.inr (some v0))), (1, .inl v1), (2, .inl v2)]) (st' := [.inl (1 : Int32), .inr (.inr t24), .inl t20]) (pc' := 28) rfl ?_
      refine Wx.iald ok kX7_parts 16 rfl h (fun t28 h => ?_)
      obtain ⟨q29, hq29, h⟩ := gob h
      refine Wx.callS ok kX7_parts 17 rfl lm_RX7_266 cd_X7_power [.inl t20, .inl t28] (some (.inl q29.1)) (aX7_power _ _ hq29) (by decide) rfl (Nat.le_of_ble_eq_true rfl) rfl rfl ?_
      refine Wx.jump ok kX7_parts 18 (tgt := 36) rfl (by decide) ?_
      exact Wx.ireturn ok kX7_parts 20 rfl hres h (by decide)
    · refine Wx.run ok kX7_parts 19 1 (lv' := [(3, .inl q3.1), (0, .inr (.inr (some v0))), (1, .inl v1), (2, .inl v2)]) (st' := [.inl (0 : Int32)]) (pc' := 36) rfl ?_
      exact Wx.ireturn ok kX7_parts 20 rfl hres h (by decide)
  · refine Wx.run ok kX7_parts 7 1 (lv' := [(3, .inl q3.1), (0, .inr (.inr (some v0))), (1, .inl v1), (2, .inl v2)]) (st' := [.inl q3.1]) (pc' := 12) rfl ?_
    refine Wx.jump ok kX7_parts 8 (tgt := 36) rfl (by decide) ?_
    exact Wx.ireturn ok kX7_parts 20 rfl hres h (by decide)
set_option maxRecDepth 100000 in
set_option maxHeartbeats 4000000 in
theorem aX7_sum_h43 {X : gX} (ok : gOk X cX7_sum RX7 8 (some .int) rmX7_sum) {res : Int32 × gW} (hres : gRs X (some (.int res.1)) res.2) {F : Nat} (r : Nat → Int32 → Int32 → Int32 → Int32 → Int32 → gW → Option (Int32 × gW)) (hr : ∀ (v0 : Nat) (v2 : Int32) (v3 : Int32) (v5 : Int32) (v6 : Int32) (v7 : Int32) (w : gW), r v0 v2 v3 v5 v6 v7 w = some res → Wx X w 0 0 43 [(0, .inr (.inr (some v0))), (2, .inl v2), (3, .inl v3), (5, .inl v5), (6, .inl v6), (7, .inl v7)] []) : ∀ (v0 : Nat) (v2 : Int32) (v3 : Int32) (v5 : Int32) (v6 : Int32) (v7 : Int32) (w : gW), mX7_sum_h43 F r v0 v2 v3 v5 v6 v7 w = some res → Wx X w 0 0 43 [(0, .inr (.inr (some v0))), (2, .inl v2), (3, .inl v3), (5, .inl v5), (6, .inl v6), (7, .inl v7)] [] := by
  intro v0 v2 v3 v5 v6 v7 w h
  unfold mX7_sum_h43 at h
  refine Wx.run ok kX7_sum 24 2 (lv' := [(0, .inr (.inr (some v0))), (2, .inl v2), (3, .inl v3), (5, .inl v5), (6, .inl v6), (7, .inl v7)]) (st' := [.inr (.inr (some v0)), .inl v7]) (pc' := 46) rfl ?_
  refine Wx.getI ok kX7_sum 26 rfl lk_RX7_255_0 h (fun t46 h => ?_)
  refine Wx.icmp_ge ok kX7_sum 27 (tgt := 99) rfl (by decide) h (fun hc49 h => ?_) (fun hc49 h => ?_)
  · refine Wx.run ok kX7_sum 56 1 (lv' := [(0, .inr (.inr (some v0))), (2, .inl v2), (3, .inl v3), (5, .inl v5), (6, .inl v6), (7, .inl v7)]) (st' := [.inl v5]) (pc' := 101) rfl ?_
    exact Wx.ireturn ok kX7_sum 57 rfl hres h (by decide)
  · refine Wx.run ok kX7_sum 28 3 (lv' := [(0, .inr (.inr (some v0))), (2, .inl v2), (3, .inl v3), (5, .inl v5), (6, .inl v6), (7, .inl v7)]) (st' := [.inl v6, .inl v2, .inl v5]) (pc' := 57) rfl ?_
    refine Wx.idiv ok kX7_sum 31 rfl h (fun t57 h => ?_)
    refine Wx.run ok kX7_sum 32 1 (lv' := [(0, .inr (.inr (some v0))), (2, .inl v2), (3, .inl v3), (5, .inl v5), (6, .inl v6), (7, .inl v7)]) (st' := [.inr (.inr (some v0)), .inl t57, .inl v5]) (pc' := 59) rfl ?_
    refine Wx.getI ok kX7_sum 33 rfl lk_RX7_196_0 h (fun t59 h => ?_)
    refine Wx.irem ok kX7_sum 34 rfl h (fun t62 h => ?_)
    refine Wx.run ok kX7_sum 35 2 (lv' := [(0, .inr (.inr (some v0))), (2, .inl v2), (3, .inl v3), (5, .inl v5), (6, .inl v6), (7, .inl v7)]) (st' := [.inl v6, .inl v3, .inl t62, .inl v5]) (pc' := 66) rfl ?_
    refine Wx.idiv ok kX7_sum 37 rfl h (fun t66 h => ?_)
    refine Wx.run ok kX7_sum 38 1 (lv' := [(0, .inr (.inr (some v0))), (2, .inl v2), (3, .inl v3), (5, .inl v5), (6, .inl v6), (7, .inl v7)]) (st' := [.inr (.inr (some v0)), .inl t66, .inl t62, .inl v5]) (pc' := 68) rfl ?_
    refine Wx.getI ok kX7_sum 39 rfl lk_RX7_196_0 h (fun t68 h => ?_)
    refine Wx.irem ok kX7_sum 40 rfl h (fun t71 h => ?_)
    refine Wx.run ok kX7_sum 41 2 (lv' := [(0, .inr (.inr (some v0))), (2, .inl v2), (3, .inl v3), (5, .inl v5), (6, .inl v6), (7, .inl v7)]) (st' := [.inr (.inr (some v0)), .inl (t62 + t71), .inl v5]) (pc' := 74) rfl ?_
    refine Wx.getI ok kX7_sum 43 rfl lk_RX7_196_0 h (fun t74 h => ?_)
    refine Wx.irem ok kX7_sum 44 rfl h (fun t77 h => ?_)
    refine Wx.run ok kX7_sum 45 6 (lv' := [(5, .inl (v5 + (t77 * v6))), (0, .inr (.inr (some v0))), (2, .inl v2), (3, .inl v3), (6, .inl v6), (7, .inl v7)]) (st' := [.inr (.inr (some v0)), .inl v6]) (pc' := 87) rfl ?_
    refine Wx.getI ok kX7_sum 51 rfl lk_RX7_196_0 h (fun t87 h => ?_)
    refine Wx.run ok kX7_sum 52 3 (lv' := [(7, .inl (v7 + (1 : Int32))), (6, .inl (v6 * t87)), (5, .inl (v5 + (t77 * v6))), (0, .inr (.inr (some v0))), (2, .inl v2), (3, .inl v3)]) (st' := []) (pc' := 96) rfl ?_
    refine Wx.jump ok kX7_sum 55 (tgt := 43) rfl (by decide) ?_
    refine Wx.sub [3, 4, 5, 2, 1, 0] rfl ?_
    exact hr _ _ _ _ _ _ _ h
set_option maxRecDepth 100000 in
set_option maxHeartbeats 4000000 in
theorem aX7_sum_l43 {X : gX} (ok : gOk X cX7_sum RX7 8 (some .int) rmX7_sum) {res : Int32 × gW} (hres : gRs X (some (.int res.1)) res.2) {F : Nat} : ∀ (n : Nat) (v0 : Nat) (v2 : Int32) (v3 : Int32) (v5 : Int32) (v6 : Int32) (v7 : Int32) (w : gW), mX7_sum_l43 F n v0 v2 v3 v5 v6 v7 w = some res → Wx X w 0 0 43 [(0, .inr (.inr (some v0))), (2, .inl v2), (3, .inl v3), (5, .inl v5), (6, .inl v6), (7, .inl v7)] [] := by
  intro n
  induction n with
  | zero => intro v0 v2 v3 v5 v6 v7 w h; cases (show (none : Option (Int32 × gW)) = some res from h)
  | succ n ih =>
    intro v0 v2 v3 v5 v6 v7 w h
    exact aX7_sum_h43 ok hres (F := F) (mX7_sum_l43 F n) ih v0 v2 v3 v5 v6 v7 w h
set_option maxRecDepth 100000 in
set_option maxHeartbeats 4000000 in
theorem aX7_sum_b24 {X : gX} (ok : gOk X cX7_sum RX7 8 (some .int) rmX7_sum) {res : Int32 × gW} (hres : gRs X (some (.int res.1)) res.2) {F : Nat} : ∀ (v0 : Nat) (v2 : Int32) (v3 : Int32) (s0 : Int32) (w : gW), mX7_sum_b24 F v0 v2 v3 s0 w = some res → Wx X w 0 0 24 [(0, .inr (.inr (some v0))), (2, .inl v2), (3, .inl v3)] [.inl s0] := by
  intro v0 v2 v3 s0 w h
  unfold mX7_sum_b24 at h
  refine Wx.run ok kX7_sum 13 2 (lv' := [(4, .inl s0), (0, .inr (.inr (some v0))), (2, .inl v2), (3, .inl v3)]) (st' := [.inl s0]) (pc' := 28) rfl ?_
  refine Wx.if_ge ok kX7_sum 15 (tgt := 34) rfl (by decide) h (fun hc28 h => ?_) (fun hc28 h => ?_)
  · refine Wx.run ok kX7_sum 18 6 (lv' := [(7, .inl (0 : Int32)), (6, .inl (1 : Int32)), (5, .inl (0 : Int32)), (4, .inl s0), (0, .inr (.inr (some v0))), (2, .inl v2), (3, .inl v3)]) (st' := []) (pc' := 43) rfl ?_
    refine Wx.sub [4, 5, 6, 2, 1, 0] rfl ?_
    refine aX7_sum_l43 ok hres (F := F) F _ _ _ _ _ _ _ h
  · refine Wx.run ok kX7_sum 16 1 (lv' := [(4, .inl s0), (0, .inr (.inr (some v0))), (2, .inl v2), (3, .inl v3)]) (st' := [.inl s0]) (pc' := 33) rfl ?_
    exact Wx.ireturn ok kX7_sum 17 rfl hres h (by decide)
set_option maxRecDepth 100000 in
set_option maxHeartbeats 4000000 in
theorem aX7_sum (l : Launch) (G : gG) {F : Nat} {v0 : Nat} {v1 : Int32} {v2 : Int32} {v3 : Int32} {w : gW} {res : Int32 × gW} (h : mX7_sum F v0 v1 v2 v3 w = some res) : gM l yX7_sum cX7_sum 8 (some .int) rmX7_sum G w (gTs [.inr (.inr (some v0)), .inl v1, .inl v2, .inl v3]) (some (.int res.1)) res.2 := by
  refine gM_of (y := yX7_sum) (by decide +kernel) (Nat.le_of_ble_eq_true rfl) ?_
  intro X ok hl hG hres hnm
  subst hl; subst hG
  unfold mX7_sum at h
  show Wx X w 0 0 0 [(0, .inr (.inr (some v0))), (1, .inl v1), (2, .inl v2), (3, .inl v3)] []
  refine Wx.run ok kX7_sum 0 3 (lv' := [(0, .inr (.inr (some v0))), (1, .inl v1), (2, .inl v2), (3, .inl v3)]) (st' := [.inl v2, .inl v1, .inr (.inr (some v0))]) (pc' := 3) rfl ?_
  obtain ⟨a3, ha3, h⟩ := gob h
  obtain ⟨q3, hq3, h⟩ := gob h
  refine Wx.callV ok kX7_sum 3 rfl lm_RX7_269 cd_X7_lacks ha3 [.inl v1, .inl v2] (some (.inl q3.1)) (aX7_lacks _ _ hq3) (by decide) rfl (Nat.le_of_ble_eq_true rfl) rfl rfl ?_
  refine Wx.run ok kX7_sum 4 2 (lv' := [(4, .inl q3.1), (0, .inr (.inr (some v0))), (1, .inl v1), (2, .inl v2), (3, .inl v3)]) (st' := [.inl q3.1]) (pc' := 10) rfl ?_
  refine Wx.if_ge ok kX7_sum 6 (tgt := 18) rfl (by decide) h (fun hc10 h => ?_) (fun hc10 h => ?_)
  · refine Wx.run ok kX7_sum 9 3 (lv' := [(4, .inl q3.1), (0, .inr (.inr (some v0))), (1, .inl v1), (2, .inl v2), (3, .inl v3)]) (st' := [.inl v3, .inl v1, .inr (.inr (some v0))]) (pc' := 21) rfl ?_
    obtain ⟨a21, ha21, h⟩ := gob h
    obtain ⟨q21, hq21, h⟩ := gob h
    refine Wx.callV ok kX7_sum 12 rfl lm_RX7_269 cd_X7_lacks ha21 [.inl v1, .inl v3] (some (.inl q21.1)) (aX7_lacks _ _ hq21) (by decide) rfl (Nat.le_of_ble_eq_true rfl) rfl rfl ?_
    refine Wx.sub [1, 3, 4] rfl ?_
    exact aX7_sum_b24 ok hres (F := F) _ _ _ _ _ h
  · refine Wx.run ok kX7_sum 7 1 (lv' := [(4, .inl q3.1), (0, .inr (.inr (some v0))), (1, .inl v1), (2, .inl v2), (3, .inl v3)]) (st' := [.inl q3.1]) (pc' := 15) rfl ?_
    refine Wx.jump ok kX7_sum 8 (tgt := 24) rfl (by decide) ?_
    refine Wx.sub [1, 3, 4] rfl ?_
    exact aX7_sum_b24 ok hres (F := F) _ _ _ _ _ h
set_option maxRecDepth 100000 in
set_option maxHeartbeats 4000000 in
theorem aX7_times_h53 {X : gX} (ok : gOk X cX7_times RX7 8 (some .int) rmX7_times) {res : Int32 × gW} (hres : gRs X (some (.int res.1)) res.2) {F : Nat} (r : Nat → Int32 → Int32 → Int32 → Int32 → Int32 → gW → Option (Int32 × gW)) (hr : ∀ (v0 : Nat) (v2 : Int32) (v3 : Int32) (v5 : Int32) (v6 : Int32) (v7 : Int32) (w : gW), r v0 v2 v3 v5 v6 v7 w = some res → Wx X w 0 0 53 [(0, .inr (.inr (some v0))), (2, .inl v2), (3, .inl v3), (5, .inl v5), (6, .inl v6), (7, .inl v7)] []) : ∀ (v0 : Nat) (v2 : Int32) (v3 : Int32) (v5 : Int32) (v6 : Int32) (v7 : Int32) (w : gW), mX7_times_h53 F r v0 v2 v3 v5 v6 v7 w = some res → Wx X w 0 0 53 [(0, .inr (.inr (some v0))), (2, .inl v2), (3, .inl v3), (5, .inl v5), (6, .inl v6), (7, .inl v7)] [] := by
  intro v0 v2 v3 v5 v6 v7 w h
  unfold mX7_times_h53 at h
  refine Wx.run ok kX7_times 33 2 (lv' := [(0, .inr (.inr (some v0))), (2, .inl v2), (3, .inl v3), (5, .inl v5), (6, .inl v6), (7, .inl v7)]) (st' := [.inr (.inr (some v0)), .inl v7]) (pc' := 56) rfl ?_
  refine Wx.getI ok kX7_times 35 rfl lk_RX7_255_0 h (fun t56 h => ?_)
  refine Wx.icmp_ge ok kX7_times 36 (tgt := 101) rfl (by decide) h (fun hc59 h => ?_) (fun hc59 h => ?_)
  · refine Wx.run ok kX7_times 60 1 (lv' := [(0, .inr (.inr (some v0))), (2, .inl v2), (3, .inl v3), (5, .inl v5), (6, .inl v6), (7, .inl v7)]) (st' := [.inl v5]) (pc' := 103) rfl ?_
    exact Wx.ireturn ok kX7_times 61 rfl hres h (by decide)
  · refine Wx.run ok kX7_times 37 3 (lv' := [(0, .inr (.inr (some v0))), (2, .inl v2), (3, .inl v3), (5, .inl v5), (6, .inl v6), (7, .inl v7)]) (st' := [.inl v6, .inl v2, .inl v5]) (pc' := 67) rfl ?_
    refine Wx.idiv ok kX7_times 40 rfl h (fun t67 h => ?_)
    refine Wx.run ok kX7_times 41 1 (lv' := [(0, .inr (.inr (some v0))), (2, .inl v2), (3, .inl v3), (5, .inl v5), (6, .inl v6), (7, .inl v7)]) (st' := [.inr (.inr (some v0)), .inl t67, .inl v5]) (pc' := 69) rfl ?_
    refine Wx.getI ok kX7_times 42 rfl lk_RX7_196_0 h (fun t69 h => ?_)
    refine Wx.irem ok kX7_times 43 rfl h (fun t72 h => ?_)
    refine Wx.run ok kX7_times 44 3 (lv' := [(0, .inr (.inr (some v0))), (2, .inl v2), (3, .inl v3), (5, .inl v5), (6, .inl v6), (7, .inl v7)]) (st' := [.inr (.inr (some v0)), .inl (t72 * v3), .inl v5]) (pc' := 76) rfl ?_
    refine Wx.getI ok kX7_times 47 rfl lk_RX7_196_0 h (fun t76 h => ?_)
    refine Wx.irem ok kX7_times 48 rfl h (fun t79 h => ?_)
    refine Wx.run ok kX7_times 49 6 (lv' := [(5, .inl (v5 + (t79 * v6))), (0, .inr (.inr (some v0))), (2, .inl v2), (3, .inl v3), (6, .inl v6), (7, .inl v7)]) (st' := [.inr (.inr (some v0)), .inl v6]) (pc' := 89) rfl ?_
    refine Wx.getI ok kX7_times 55 rfl lk_RX7_196_0 h (fun t89 h => ?_)
    refine Wx.run ok kX7_times 56 3 (lv' := [(7, .inl (v7 + (1 : Int32))), (6, .inl (v6 * t89)), (5, .inl (v5 + (t79 * v6))), (0, .inr (.inr (some v0))), (2, .inl v2), (3, .inl v3)]) (st' := []) (pc' := 98) rfl ?_
    refine Wx.jump ok kX7_times 59 (tgt := 53) rfl (by decide) ?_
    refine Wx.sub [3, 4, 5, 2, 1, 0] rfl ?_
    exact hr _ _ _ _ _ _ _ h
set_option maxRecDepth 100000 in
set_option maxHeartbeats 4000000 in
theorem aX7_times_l53 {X : gX} (ok : gOk X cX7_times RX7 8 (some .int) rmX7_times) {res : Int32 × gW} (hres : gRs X (some (.int res.1)) res.2) {F : Nat} : ∀ (n : Nat) (v0 : Nat) (v2 : Int32) (v3 : Int32) (v5 : Int32) (v6 : Int32) (v7 : Int32) (w : gW), mX7_times_l53 F n v0 v2 v3 v5 v6 v7 w = some res → Wx X w 0 0 53 [(0, .inr (.inr (some v0))), (2, .inl v2), (3, .inl v3), (5, .inl v5), (6, .inl v6), (7, .inl v7)] [] := by
  intro n
  induction n with
  | zero => intro v0 v2 v3 v5 v6 v7 w h; cases (show (none : Option (Int32 × gW)) = some res from h)
  | succ n ih =>
    intro v0 v2 v3 v5 v6 v7 w h
    exact aX7_times_h53 ok hres (F := F) (mX7_times_l53 F n) ih v0 v2 v3 v5 v6 v7 w h
set_option maxRecDepth 100000 in
set_option maxHeartbeats 4000000 in
theorem aX7_times (l : Launch) (G : gG) {F : Nat} {v0 : Nat} {v1 : Int32} {v2 : Int32} {v3 : Int32} {w : gW} {res : Int32 × gW} (h : mX7_times F v0 v1 v2 v3 w = some res) : gM l yX7_times cX7_times 8 (some .int) rmX7_times G w (gTs [.inr (.inr (some v0)), .inl v1, .inl v2, .inl v3]) (some (.int res.1)) res.2 := by
  refine gM_of (y := yX7_times) (by decide +kernel) (Nat.le_of_ble_eq_true rfl) ?_
  intro X ok hl hG hres hnm
  subst hl; subst hG
  unfold mX7_times at h
  show Wx X w 0 0 0 [(0, .inr (.inr (some v0))), (1, .inl v1), (2, .inl v2), (3, .inl v3)] []
  refine Wx.run ok kX7_times 0 2 (lv' := [(0, .inr (.inr (some v0))), (1, .inl v1), (2, .inl v2), (3, .inl v3)]) (st' := [.inl v1, .inr (.inr (some v0))]) (pc' := 2) rfl ?_
  obtain ⟨a2, ha2, h⟩ := gob h
  obtain ⟨q2, hq2, h⟩ := gob h
  refine Wx.callV ok kX7_times 2 rfl lm_RX7_190 cd_X7_isModule ha2 [.inl v1] (some (.inl q2.1)) (aX7_isModule _ _ hq2) (by decide) rfl (Nat.le_of_ble_eq_true rfl) rfl rfl ?_
  refine Wx.if_eq ok kX7_times 3 (tgt := 26) rfl (by decide) h (fun hc5 h => ?_) (fun hc5 h => ?_)
  · refine Wx.run ok kX7_times 16 1 (lv' := [(0, .inr (.inr (some v0))), (1, .inl v1), (2, .inl v2), (3, .inl v3)]) (st' := [.inl (-1 : Int32)]) (pc' := 27) rfl ?_
    exact Wx.ireturn ok kX7_times 17 rfl hres h (by decide)
  · refine Wx.run ok kX7_times 4 4 (lv' := [(0, .inr (.inr (some v0))), (1, .inl v1), (2, .inl v2), (3, .inl v3)]) (st' := [.inr (.inr (some v0)), .inr (.inl (1 : Int64)), .inr (.inl ((v3).toInt64))]) (pc' := 12) rfl ?_
    refine Wx.getR ok kX7_times 8 rfl lk_RX7_32_0 h (fun t12 h => ?_)
    refine Wx.run ok kX7_times 9 1 (lv' := [(0, .inr (.inr (some v0))), (1, .inl v1), (2, .inl v2), (3, .inl v3)]) (st' := [.inl v1, .inr (.inr t12), .inr (.inl (1 : Int64)), .inr (.inl ((v3).toInt64))]) (pc' := 16) rfl ?_
    refine Wx.iald ok kX7_times 10 rfl h (fun t16 h => ?_)
    refine Wx.run ok kX7_times 11 3 (lv' := [(0, .inr (.inr (some v0))), (1, .inl v1), (2, .inl v2), (3, .inl v3)]) (st' := [.inr (.inl (((t16 - (1 : Int32))).toInt64)), .inr (.inl (1 : Int64)), .inr (.inl ((v3).toInt64))]) (pc' := 20) rfl ?_
    obtain ⟨q20, hq20, h⟩ := gob h
    refine Wx.callS ok kX7_times 14 rfl lm_RX7_100 cd_X7_in [.inr (.inl ((v3).toInt64)), .inr (.inl (1 : Int64)), .inr (.inl (((t16 - (1 : Int32))).toInt64))] (some (.inl q20.1)) (aX7_in _ _ hq20) (by decide) rfl (Nat.le_of_ble_eq_true rfl) rfl rfl ?_
    refine Wx.if_ne ok kX7_times 15 (tgt := 28) rfl (by decide) h (fun hc23 h => ?_) (fun hc23 h => ?_)
    · refine Wx.run ok kX7_times 16 1 (lv' := [(0, .inr (.inr (some v0))), (1, .inl v1), (2, .inl v2), (3, .inl v3)]) (st' := [.inl (-1 : Int32)]) (pc' := 27) rfl ?_
      exact Wx.ireturn ok kX7_times 17 rfl hres h (by decide)
    · refine Wx.run ok kX7_times 18 3 (lv' := [(0, .inr (.inr (some v0))), (1, .inl v1), (2, .inl v2), (3, .inl v3)]) (st' := [.inl v2, .inl v1, .inr (.inr (some v0))]) (pc' := 31) rfl ?_
      obtain ⟨a31, ha31, h⟩ := gob h
      obtain ⟨q31, hq31, h⟩ := gob h
      refine Wx.callV ok kX7_times 21 rfl lm_RX7_269 cd_X7_lacks ha31 [.inl v1, .inl v2] (some (.inl q31.1)) (aX7_lacks _ _ hq31) (by decide) rfl (Nat.le_of_ble_eq_true rfl) rfl rfl ?_
      refine Wx.run ok kX7_times 22 2 (lv' := [(4, .inl q31.1), (0, .inr (.inr (some v0))), (1, .inl v1), (2, .inl v2), (3, .inl v3)]) (st' := [.inl q31.1]) (pc' := 38) rfl ?_
      refine Wx.if_ge ok kX7_times 24 (tgt := 44) rfl (by decide) h (fun hc38 h => ?_) (fun hc38 h => ?_)
      · refine Wx.run ok kX7_times 27 6 (lv' := [(7, .inl (0 : Int32)), (6, .inl (1 : Int32)), (5, .inl (0 : Int32)), (4, .inl q31.1), (0, .inr (.inr (some v0))), (1, .inl v1), (2, .inl v2), (3, .inl v3)]) (st' := []) (pc' := 53) rfl ?_
        refine Wx.sub [4, 6, 7, 2, 1, 0] rfl ?_
        refine aX7_times_l53 ok hres (F := F) F _ _ _ _ _ _ _ h
      · refine Wx.run ok kX7_times 25 1 (lv' := [(4, .inl q31.1), (0, .inr (.inr (some v0))), (1, .inl v1), (2, .inl v2), (3, .inl v3)]) (st' := [.inl q31.1]) (pc' := 43) rfl ?_
        exact Wx.ireturn ok kX7_times 26 rfl hres h (by decide)
set_option maxRecDepth 100000 in
set_option maxHeartbeats 4000000 in
theorem aX7_twist (l : Launch) (G : gG) {F : Nat} {v0 : Nat} {v1 : Int32} {v2 : Int32} {v3 : Int32} {v4 : Int32} {v5 : Int32} {w : gW} {res : Int32 × gW} (h : mX7_twist F v0 v1 v2 v3 v4 v5 w = some res) : gM l yX7_twist cX7_twist 7 (some .int) rmX7_twist G w (gTs [.inr (.inr (some v0)), .inl v1, .inl v2, .inl v3, .inl v4, .inl v5]) (some (.int res.1)) res.2 := by
  refine gM_of (y := yX7_twist) (by decide +kernel) (Nat.le_of_ble_eq_true rfl) ?_
  intro X ok hl hG hres hnm
  subst hl; subst hG
  unfold mX7_twist at h
  show Wx X w 0 0 0 [(0, .inr (.inr (some v0))), (1, .inl v1), (2, .inl v2), (3, .inl v3), (4, .inl v4), (5, .inl v5)] []
  refine Wx.run ok kX7_twist 0 2 (lv' := [(0, .inr (.inr (some v0))), (1, .inl v1), (2, .inl v2), (3, .inl v3), (4, .inl v4), (5, .inl v5)]) (st' := [.inl v1, .inr (.inr (some v0))]) (pc' := 2) rfl ?_
  obtain ⟨a2, ha2, h⟩ := gob h
  obtain ⟨q2, hq2, h⟩ := gob h
  refine Wx.callV ok kX7_twist 2 rfl lm_RX7_190 cd_X7_isModule ha2 [.inl v1] (some (.inl q2.1)) (aX7_isModule _ _ hq2) (by decide) rfl (Nat.le_of_ble_eq_true rfl) rfl rfl ?_
  refine Wx.if_eq ok kX7_twist 3 (tgt := 56) rfl (by decide) h (fun hc5 h => ?_) (fun hc5 h => ?_)
  · refine Wx.run ok kX7_twist 32 1 (lv' := [(0, .inr (.inr (some v0))), (1, .inl v1), (2, .inl v2), (3, .inl v3), (4, .inl v4), (5, .inl v5)]) (st' := [.inl (-1 : Int32)]) (pc' := 57) rfl ?_
    exact Wx.ireturn ok kX7_twist 33 rfl hres h (by decide)
  · refine Wx.run ok kX7_twist 4 2 (lv' := [(0, .inr (.inr (some v0))), (1, .inl v1), (2, .inl v2), (3, .inl v3), (4, .inl v4), (5, .inl v5)]) (st' := [.inr (.inr (some v0)), .inr (.inr (some v0))]) (pc' := 10) rfl ?_
    refine Wx.getR ok kX7_twist 6 rfl lk_RX7_29_0 h (fun t10 h => ?_)
    refine Wx.run ok kX7_twist 7 1 (lv' := [(0, .inr (.inr (some v0))), (1, .inl v1), (2, .inl v2), (3, .inl v3), (4, .inl v4), (5, .inl v5)]) (st' := [.inl v1, .inr (.inr t10), .inr (.inr (some v0))]) (pc' := 14) rfl ?_
    refine Wx.iald ok kX7_twist 8 rfl h (fun t14 h => ?_)
    refine Wx.run ok kX7_twist 9 1 (lv' := [(0, .inr (.inr (some v0))), (1, .inl v1), (2, .inl v2), (3, .inl v3), (4, .inl v4), (5, .inl v5)]) (st' := [.inl v3, .inl t14, .inr (.inr (some v0))]) (pc' := 16) rfl ?_
    obtain ⟨a16, ha16, h⟩ := gob h
    obtain ⟨q16, hq16, h⟩ := gob h
    refine Wx.callV ok kX7_twist 10 rfl lm_RX7_132 cd_X7_isElement ha16 [.inl t14, .inl v3] (some (.inl q16.1)) (aX7_isElement _ _ hq16) (by decide) rfl (Nat.le_of_ble_eq_true rfl) rfl rfl ?_
    refine Wx.if_eq ok kX7_twist 11 (tgt := 56) rfl (by decide) h (fun hc19 h => ?_) (fun hc19 h => ?_)
    · refine Wx.run ok kX7_twist 32 1 (lv' := [(0, .inr (.inr (some v0))), (1, .inl v1), (2, .inl v2), (3, .inl v3), (4, .inl v4), (5, .inl v5)]) (st' := [.inl (-1 : Int32)]) (pc' := 57) rfl ?_
      exact Wx.ireturn ok kX7_twist 33 rfl hres h (by decide)
    · refine Wx.run ok kX7_twist 12 2 (lv' := [(0, .inr (.inr (some v0))), (1, .inl v1), (2, .inl v2), (3, .inl v3), (4, .inl v4), (5, .inl v5)]) (st' := [.inr (.inr (some v0)), .inr (.inr (some v0))]) (pc' := 24) rfl ?_
      refine Wx.getR ok kX7_twist 14 rfl lk_RX7_29_0 h (fun t24 h => ?_)
      refine Wx.run ok kX7_twist 15 1 (lv' := [(0, .inr (.inr (some v0))), (1, .inl v1), (2, .inl v2), (3, .inl v3), (4, .inl v4), (5, .inl v5)]) (st' := [.inl v1, .inr (.inr t24), .inr (.inr (some v0))]) (pc' := 28) rfl ?_
      refine Wx.iald ok kX7_twist 16 rfl h (fun t28 h => ?_)
      refine Wx.run ok kX7_twist 17 1 (lv' := [(0, .inr (.inr (some v0))), (1, .inl v1), (2, .inl v2), (3, .inl v3), (4, .inl v4), (5, .inl v5)]) (st' := [.inl v4, .inl t28, .inr (.inr (some v0))]) (pc' := 31) rfl ?_
      obtain ⟨a31, ha31, h⟩ := gob h
      obtain ⟨q31, hq31, h⟩ := gob h
      refine Wx.callV ok kX7_twist 18 rfl lm_RX7_132 cd_X7_isElement ha31 [.inl t28, .inl v4] (some (.inl q31.1)) (aX7_isElement _ _ hq31) (by decide) rfl (Nat.le_of_ble_eq_true rfl) rfl rfl ?_
      refine Wx.if_eq ok kX7_twist 19 (tgt := 56) rfl (by decide) h (fun hc34 h => ?_) (fun hc34 h => ?_)
      · refine Wx.run ok kX7_twist 32 1 (lv' := [(0, .inr (.inr (some v0))), (1, .inl v1), (2, .inl v2), (3, .inl v3), (4, .inl v4), (5, .inl v5)]) (st' := [.inl (-1 : Int32)]) (pc' := 57) rfl ?_
        exact Wx.ireturn ok kX7_twist 33 rfl hres h (by decide)
      · refine Wx.run ok kX7_twist 20 4 (lv' := [(0, .inr (.inr (some v0))), (1, .inl v1), (2, .inl v2), (3, .inl v3), (4, .inl v4), (5, .inl v5)]) (st' := [.inr (.inr (some v0)), .inr (.inl (0 : Int64)), .inr (.inl ((v5).toInt64))]) (pc' := 42) rfl ?_
        refine Wx.getR ok kX7_twist 24 rfl lk_RX7_35_0 h (fun t42 h => ?_)
        refine Wx.run ok kX7_twist 25 1 (lv' := [(0, .inr (.inr (some v0))), (1, .inl v1), (2, .inl v2), (3, .inl v3), (4, .inl v4), (5, .inl v5)]) (st' := [.inl v1, .inr (.inr t42), .inr (.inl (0 : Int64)), .inr (.inl ((v5).toInt64))]) (pc' := 46) rfl ?_
        refine Wx.iald ok kX7_twist 26 rfl h (fun t46 h => ?_)
        refine Wx.run ok kX7_twist 27 3 (lv' := [(0, .inr (.inr (some v0))), (1, .inl v1), (2, .inl v2), (3, .inl v3), (4, .inl v4), (5, .inl v5)]) (st' := [.inr (.inl (((t46 - (1 : Int32))).toInt64)), .inr (.inl (0 : Int64)), .inr (.inl ((v5).toInt64))]) (pc' := 50) rfl ?_
        obtain ⟨q50, hq50, h⟩ := gob h
        refine Wx.callS ok kX7_twist 30 rfl lm_RX7_100 cd_X7_in [.inr (.inl ((v5).toInt64)), .inr (.inl (0 : Int64)), .inr (.inl (((t46 - (1 : Int32))).toInt64))] (some (.inl q50.1)) (aX7_in _ _ hq50) (by decide) rfl (Nat.le_of_ble_eq_true rfl) rfl rfl ?_
        refine Wx.if_ne ok kX7_twist 31 (tgt := 58) rfl (by decide) h (fun hc53 h => ?_) (fun hc53 h => ?_)
        · refine Wx.run ok kX7_twist 32 1 (lv' := [(0, .inr (.inr (some v0))), (1, .inl v1), (2, .inl v2), (3, .inl v3), (4, .inl v4), (5, .inl v5)]) (st' := [.inl (-1 : Int32)]) (pc' := 57) rfl ?_
          exact Wx.ireturn ok kX7_twist 33 rfl hres h (by decide)
        · refine Wx.run ok kX7_twist 34 3 (lv' := [(0, .inr (.inr (some v0))), (1, .inl v1), (2, .inl v2), (3, .inl v3), (4, .inl v4), (5, .inl v5)]) (st' := [.inl v2, .inl v1, .inr (.inr (some v0))]) (pc' := 61) rfl ?_
          obtain ⟨a61, ha61, h⟩ := gob h
          obtain ⟨q61, hq61, h⟩ := gob h
          refine Wx.callV ok kX7_twist 37 rfl lm_RX7_269 cd_X7_lacks ha61 [.inl v1, .inl v2] (some (.inl q61.1)) (aX7_lacks _ _ hq61) (by decide) rfl (Nat.le_of_ble_eq_true rfl) rfl rfl ?_
          refine Wx.run ok kX7_twist 38 2 (lv' := [(6, .inl q61.1), (0, .inr (.inr (some v0))), (1, .inl v1), (2, .inl v2), (3, .inl v3), (4, .inl v4), (5, .inl v5)]) (st' := [.inl q61.1]) (pc' := 68) rfl ?_
          refine Wx.if_ge ok kX7_twist 40 (tgt := 74) rfl (by decide) h (fun hc68 h => ?_) (fun hc68 h => ?_)
          · refine Wx.run ok kX7_twist 43 2 (lv' := [(6, .inl q61.1), (0, .inr (.inr (some v0))), (1, .inl v1), (2, .inl v2), (3, .inl v3), (4, .inl v4), (5, .inl v5)]) (st' := [.inl v2, .inr (.inr (some v0))]) (pc' := 76) rfl ?_
            obtain ⟨a76, ha76, h⟩ := gob h
            obtain ⟨q76, hq76, h⟩ := gob h
            refine Wx.callV ok kX7_twist 45 rfl lm_RX7_272 cd_X7_sumOf ha76 [.inl v2] none (aX7_sumOf _ _ hq76) (by decide) rfl (Nat.le_of_ble_eq_true rfl) rfl rfl ?_
            refine Wx.run ok kX7_twist 46 4 (lv' := [(6, .inl q61.1), (0, .inr (.inr (some v0))), (1, .inl v1), (2, .inl v2), (3, .inl v3), (4, .inl v4), (5, .inl v5)]) (st' := [.inl v5, .inl v4, .inl v3, .inr (.inr (some v0))]) (pc' := 85) rfl ?_
            obtain ⟨a85, ha85, h⟩ := gob h
            obtain ⟨q85, hq85, h⟩ := gob h
            refine Wx.callV ok kX7_twist 50 rfl lm_RX7_275 cd_X7_twisted ha85 [.inl v3, .inl v4, .inl v5] (some (.inl q85.1)) (aX7_twisted _ _ hq85) (by decide) rfl (Nat.le_of_ble_eq_true rfl) rfl rfl ?_
            exact Wx.ireturn ok kX7_twist 51 rfl hres h (by decide)
          · refine Wx.run ok kX7_twist 41 1 (lv' := [(6, .inl q61.1), (0, .inr (.inr (some v0))), (1, .inl v1), (2, .inl v2), (3, .inl v3), (4, .inl v4), (5, .inl v5)]) (st' := [.inl q61.1]) (pc' := 73) rfl ?_
            exact Wx.ireturn ok kX7_twist 42 rfl hres h (by decide)
set_option maxRecDepth 100000 in
set_option maxHeartbeats 4000000 in
theorem aX2_findMakers_b29 {X : gX} (ok : gOk X cX2_findMakers RX2 2 (some .int) rmX2_findMakers) {res : Int32 × gW} (hres : gRs X (some (.int res.1)) res.2) {F : Nat} (r : Nat → Int32 → gW → Option (Int32 × gW)) (k35 : Nat → gW → Option (Int32 × gW)) (hr : ∀ (v0 : Nat) (v1 : Int32) (w : gW), r v0 v1 w = some res → Wx X w 0 0 2 [(0, .inr (.inr (some v0))), (1, .inl v1)] []) (hk35 : ∀ (v0 : Nat) (w : gW), k35 v0 w = some res → Wx X w 0 0 35 [(0, .inr (.inr (some v0)))] []) : ∀ (v0 : Nat) (v1 : Int32) (w : gW), mX2_findMakers_b29 F r k35 v0 v1 w = some res → Wx X w 0 0 29 [(0, .inr (.inr (some v0))), (1, .inl v1)] [] := by
  intro v0 v1 w h
  unfold mX2_findMakers_b29 at h
  refine Wx.run ok kX2_findMakers 17 1 (lv' := [(1, .inl (v1 + (1 : Int32))), (0, .inr (.inr (some v0)))]) (st' := []) (pc' := 32) rfl ?_
  refine Wx.jump ok kX2_findMakers 18 (tgt := 2) rfl (by decide) ?_
  refine Wx.sub [1, 0] rfl ?_
  exact hr _ _ _ h
set_option maxRecDepth 100000 in
set_option maxHeartbeats 4000000 in
theorem aX2_findMakers_h2 {X : gX} (ok : gOk X cX2_findMakers RX2 2 (some .int) rmX2_findMakers) {res : Int32 × gW} (hres : gRs X (some (.int res.1)) res.2) {F : Nat} (r : Nat → Int32 → gW → Option (Int32 × gW)) (k35 : Nat → gW → Option (Int32 × gW)) (hr : ∀ (v0 : Nat) (v1 : Int32) (w : gW), r v0 v1 w = some res → Wx X w 0 0 2 [(0, .inr (.inr (some v0))), (1, .inl v1)] []) (hk35 : ∀ (v0 : Nat) (w : gW), k35 v0 w = some res → Wx X w 0 0 35 [(0, .inr (.inr (some v0)))] []) : ∀ (v0 : Nat) (v1 : Int32) (w : gW), mX2_findMakers_h2 F r k35 v0 v1 w = some res → Wx X w 0 0 2 [(0, .inr (.inr (some v0))), (1, .inl v1)] [] := by
  intro v0 v1 w h
  unfold mX2_findMakers_h2 at h
  refine Wx.run ok kX2_findMakers 2 2 (lv' := [(0, .inr (.inr (some v0))), (1, .inl v1)]) (st' := [.inl (5 : Int32), .inl v1]) (pc' := 4) rfl ?_
  refine Wx.icmp_gt ok kX2_findMakers 4 (tgt := 35) rfl (by decide) h (fun hc4 h => ?_) (fun hc4 h => ?_)
  · refine Wx.sub [0] rfl ?_
    exact hk35 _ _ h
  · refine Wx.run ok kX2_findMakers 5 1 (lv' := [(0, .inr (.inr (some v0))), (1, .inl v1)]) (st' := [.inr (.inr (some v0))]) (pc' := 8) rfl ?_
    refine Wx.getI ok kX2_findMakers 6 rfl lk_RX2_93_0 h (fun t8 h => ?_)
    refine Wx.if_ge ok kX2_findMakers 7 (tgt := 35) rfl (by decide) h (fun hc11 h => ?_) (fun hc11 h => ?_)
    · refine Wx.sub [0] rfl ?_
      exact hk35 _ _ h
    · refine Wx.run ok kX2_findMakers 8 4 (lv' := [(0, .inr (.inr (some v0))), (1, .inl v1)]) (st' := [.inr (.inl (1 : Int64)), .inl (0 : Int32), .inl v1, .inr (.inr (some v0))]) (pc' := 18) rfl ?_
      obtain ⟨q18, hq18, h⟩ := gob h
      refine Wx.callS ok kX2_findMakers 12 rfl lm_RX2_123 cd_X2_extendMakers [.inr (.inr (some v0)), .inl v1, .inl (0 : Int32), .inr (.inl (1 : Int64))] (some (.inl q18.1)) (aX2_extendMakers _ _ 7 hq18) (by decide) rfl (Nat.le_of_ble_eq_true rfl) rfl rfl ?_
      refine Wx.if_eq ok kX2_findMakers 13 (tgt := 29) rfl (by decide) h (fun hc21 h => ?_) (fun hc21 h => ?_)
      · exact aX2_findMakers_b29 ok hres (F := F) r k35 hr hk35 _ _ _ h
      · refine Wx.run ok kX2_findMakers 14 2 (lv' := [(0, .inr (.inr (some v0))), (1, .inl v1)]) (st' := [.inl v1, .inr (.inr (some v0))]) (pc' := 26) rfl ?_
        refine Wx.put ok kX2_findMakers 16 rfl lk_RX2_93_1 (gFit_i _) h (fun w26 h => ?_)
        exact aX2_findMakers_b29 ok hres (F := F) r k35 hr hk35 _ _ _ h
set_option maxRecDepth 100000 in
set_option maxHeartbeats 4000000 in
theorem aX2_findMakers_l2 {X : gX} (ok : gOk X cX2_findMakers RX2 2 (some .int) rmX2_findMakers) {res : Int32 × gW} (hres : gRs X (some (.int res.1)) res.2) {F : Nat} (k35 : Nat → gW → Option (Int32 × gW)) (hk35 : ∀ (v0 : Nat) (w : gW), k35 v0 w = some res → Wx X w 0 0 35 [(0, .inr (.inr (some v0)))] []) : ∀ (n : Nat) (v0 : Nat) (v1 : Int32) (w : gW), mX2_findMakers_l2 F k35 n v0 v1 w = some res → Wx X w 0 0 2 [(0, .inr (.inr (some v0))), (1, .inl v1)] [] := by
  intro n
  induction n with
  | zero => intro v0 v1 w h; cases (show (none : Option (Int32 × gW)) = some res from h)
  | succ n ih =>
    intro v0 v1 w h
    exact aX2_findMakers_h2 ok hres (F := F) (mX2_findMakers_l2 F k35 n) k35 ih hk35 v0 v1 w h
set_option maxRecDepth 100000 in
set_option maxHeartbeats 4000000 in
theorem aX2_findMakers_b35 {X : gX} (ok : gOk X cX2_findMakers RX2 2 (some .int) rmX2_findMakers) {res : Int32 × gW} (hres : gRs X (some (.int res.1)) res.2) {F : Nat} : ∀ (v0 : Nat) (w : gW), mX2_findMakers_b35 F v0 w = some res → Wx X w 0 0 35 [(0, .inr (.inr (some v0)))] [] := by
  intro v0 w h
  unfold mX2_findMakers_b35 at h
  refine Wx.run ok kX2_findMakers 19 1 (lv' := [(0, .inr (.inr (some v0)))]) (st' := [.inr (.inr (some v0))]) (pc' := 36) rfl ?_
  refine Wx.getI ok kX2_findMakers 20 rfl lk_RX2_93_0 h (fun t36 h => ?_)
  exact Wx.ireturn ok kX2_findMakers 21 rfl hres h (by decide)
set_option maxRecDepth 100000 in
set_option maxHeartbeats 4000000 in
theorem aX2_findMakers (l : Launch) (G : gG) {F : Nat} {v0 : Nat} {w : gW} {res : Int32 × gW} (h : mX2_findMakers F v0 w = some res) : gM l yX2_findMakers cX2_findMakers 2 (some .int) rmX2_findMakers G w (gTs [.inr (.inr (some v0))]) (some (.int res.1)) res.2 := by
  refine gM_of (y := yX2_findMakers) (by decide +kernel) (Nat.le_of_ble_eq_true rfl) ?_
  intro X ok hl hG hres hnm
  subst hl; subst hG
  unfold mX2_findMakers at h
  show Wx X w 0 0 0 [(0, .inr (.inr (some v0)))] []
  refine Wx.run ok kX2_findMakers 0 2 (lv' := [(1, .inl (0 : Int32)), (0, .inr (.inr (some v0)))]) (st' := []) (pc' := 2) rfl ?_
  refine Wx.sub [1, 0] rfl ?_
  refine aX2_findMakers_l2 ok hres (F := F) _ ?_ F _ _ _ h
  · intro v0 w h
    exact aX2_findMakers_b35 ok hres (F := F) _ _ h
set_option maxRecDepth 100000 in
set_option maxHeartbeats 4000000 in
theorem aX3_search_h38 {X : gX} (ok : gOk X cX3_search RX3 5 (some .int) rmX3_search) {res : Int32 × gW} (hres : gRs X (some (.int res.1)) res.2) {F : Nat} (r : Nat → (Option Nat) → (Option Nat) → Int32 → Int32 → gW → Option (Int32 × gW)) (k78 : Nat → (Option Nat) → (Option Nat) → Int32 → gW → Option (Int32 × gW)) (hr : ∀ (v0 : Nat) (v1 : Option Nat) (v2 : Option Nat) (v3 : Int32) (v4 : Int32) (w : gW), r v0 v1 v2 v3 v4 w = some res → Wx X w 0 0 38 [(0, .inr (.inr (some v0))), (1, .inr (.inr v1)), (2, .inr (.inr v2)), (3, .inl v3), (4, .inl v4)] []) (hk78 : ∀ (v0 : Nat) (v1 : Option Nat) (v2 : Option Nat) (v3 : Int32) (w : gW), k78 v0 v1 v2 v3 w = some res → Wx X w 0 0 78 [(0, .inr (.inr (some v0))), (1, .inr (.inr v1)), (2, .inr (.inr v2)), (3, .inl v3)] []) : ∀ (v0 : Nat) (v1 : Option Nat) (v2 : Option Nat) (v3 : Int32) (v4 : Int32) (w : gW), mX3_search_h38 F r k78 v0 v1 v2 v3 v4 w = some res → Wx X w 0 0 38 [(0, .inr (.inr (some v0))), (1, .inr (.inr v1)), (2, .inr (.inr v2)), (3, .inl v3), (4, .inl v4)] [] := by
  intro v0 v1 v2 v3 v4 w h
  unfold mX3_search_h38 at h
  refine Wx.run ok kX3_search 21 2 (lv' := [(0, .inr (.inr (some v0))), (1, .inr (.inr v1)), (2, .inr (.inr v2)), (3, .inl v3), (4, .inl v4)]) (st' := [.inr (.inr (some v0)), .inl v4]) (pc' := 41) rfl ?_
  refine Wx.getI ok kX3_search 23 rfl lk_RX3_47_0 h (fun t41 h => ?_)
  refine Wx.icmp_ge ok kX3_search 24 (tgt := 78) rfl (by decide) h (fun hc44 h => ?_) (fun hc44 h => ?_)
  · refine Wx.sub [0, 1, 2, 3] rfl ?_
    exact hk78 _ _ _ _ _ h
  · refine Wx.run ok kX3_search 25 1 (lv' := [(0, .inr (.inr (some v0))), (1, .inr (.inr v1)), (2, .inr (.inr v2)), (3, .inl v3), (4, .inl v4)]) (st' := [.inr (.inr (some v0))]) (pc' := 48) rfl ?_
    refine Wx.getR ok kX3_search 26 rfl lk_RX3_27_0 h (fun t48 h => ?_)
    refine Wx.run ok kX3_search 27 4 (lv' := [(0, .inr (.inr (some v0))), (1, .inr (.inr v1)), (2, .inr (.inr v2)), (3, .inl v3), (4, .inl v4)]) (st' := [.inr (.inr v1), .inr (.inr v2), .inr (.inr (some v0)), .inl v4, .inr (.inr t48)]) (pc' := 56) rfl ?_
    refine Wx.getR ok kX3_search 31 rfl lk_RX3_54_0 h (fun t56 h => ?_)
    refine Wx.run ok kX3_search 32 1 (lv' := [(0, .inr (.inr (some v0))), (1, .inr (.inr v1)), (2, .inr (.inr v2)), (3, .inl v3), (4, .inl v4)]) (st' := [.inr (.inr v1), .inr (.inr t56), .inr (.inr v2), .inr (.inr (some v0)), .inl v4, .inr (.inr t48)]) (pc' := 60) rfl ?_
    refine Wx.getR ok kX3_search 33 rfl lk_RX3_57_0 h (fun t60 h => ?_)
    refine Wx.run ok kX3_search 34 1 (lv' := [(0, .inr (.inr (some v0))), (1, .inr (.inr v1)), (2, .inr (.inr v2)), (3, .inl v3), (4, .inl v4)]) (st' := [.inl v4, .inr (.inr t60), .inr (.inr t56), .inr (.inr v2), .inr (.inr (some v0)), .inl v4, .inr (.inr t48)]) (pc' := 65) rfl ?_
    refine Wx.iald ok kX3_search 35 rfl h (fun t65 h => ?_)
    refine Wx.iald ok kX3_search 36 rfl h (fun t66 h => ?_)
    refine Wx.run ok kX3_search 37 1 (lv' := [(0, .inr (.inr (some v0))), (1, .inr (.inr v1)), (2, .inr (.inr v2)), (3, .inl v3), (4, .inl v4)]) (st' := [.inl (0 : Int32), .inl t66, .inr (.inr v2), .inr (.inr (some v0)), .inl v4, .inr (.inr t48)]) (pc' := 68) rfl ?_
    obtain ⟨a68, ha68, h⟩ := gob h
    obtain ⟨q68, hq68, h⟩ := gob h
    refine Wx.callV ok kX3_search 38 rfl lm_RX3_60 cd_X3_nextOfPeriod ha68 [.inr (.inr v2), .inl t66, .inl (0 : Int32)] (some (.inl q68.1)) (aX3_nextOfPeriod _ _ hq68) (by decide) rfl (Nat.le_of_ble_eq_true rfl) rfl rfl ?_
    refine Wx.iast ok kX3_search 39 rfl h (fun w71 h => ?_)
    refine Wx.run ok kX3_search 40 1 (lv' := [(4, .inl (v4 + (1 : Int32))), (0, .inr (.inr (some v0))), (1, .inr (.inr v1)), (2, .inr (.inr v2)), (3, .inl v3)]) (st' := []) (pc' := 75) rfl ?_
    refine Wx.jump ok kX3_search 41 (tgt := 38) rfl (by decide) ?_
    refine Wx.sub [1, 2, 3, 4, 0] rfl ?_
    exact hr _ _ _ _ _ _ h
set_option maxRecDepth 100000 in
set_option maxHeartbeats 4000000 in
theorem aX3_search_l38 {X : gX} (ok : gOk X cX3_search RX3 5 (some .int) rmX3_search) {res : Int32 × gW} (hres : gRs X (some (.int res.1)) res.2) {F : Nat} (k78 : Nat → (Option Nat) → (Option Nat) → Int32 → gW → Option (Int32 × gW)) (hk78 : ∀ (v0 : Nat) (v1 : Option Nat) (v2 : Option Nat) (v3 : Int32) (w : gW), k78 v0 v1 v2 v3 w = some res → Wx X w 0 0 78 [(0, .inr (.inr (some v0))), (1, .inr (.inr v1)), (2, .inr (.inr v2)), (3, .inl v3)] []) : ∀ (n : Nat) (v0 : Nat) (v1 : Option Nat) (v2 : Option Nat) (v3 : Int32) (v4 : Int32) (w : gW), mX3_search_l38 F k78 n v0 v1 v2 v3 v4 w = some res → Wx X w 0 0 38 [(0, .inr (.inr (some v0))), (1, .inr (.inr v1)), (2, .inr (.inr v2)), (3, .inl v3), (4, .inl v4)] [] := by
  intro n
  induction n with
  | zero => intro v0 v1 v2 v3 v4 w h; cases (show (none : Option (Int32 × gW)) = some res from h)
  | succ n ih =>
    intro v0 v1 v2 v3 v4 w h
    exact aX3_search_h38 ok hres (F := F) (mX3_search_l38 F k78 n) k78 ih hk78 v0 v1 v2 v3 v4 w h
set_option maxRecDepth 100000 in
set_option maxHeartbeats 4000000 in
theorem aX3_search_h89 {X : gX} (ok : gOk X cX3_search RX3 5 (some .int) rmX3_search) {res : Int32 × gW} (hres : gRs X (some (.int res.1)) res.2) {F : Nat} (r : Nat → (Option Nat) → (Option Nat) → Int32 → Int32 → gW → Option (Int32 × gW)) (hr : ∀ (v0 : Nat) (v1 : Option Nat) (v2 : Option Nat) (v3 : Int32) (v4 : Int32) (w : gW), r v0 v1 v2 v3 v4 w = some res → Wx X w 0 0 89 [(0, .inr (.inr (some v0))), (1, .inr (.inr v1)), (2, .inr (.inr v2)), (3, .inl v3), (4, .inl v4)] []) : ∀ (v0 : Nat) (v1 : Option Nat) (v2 : Option Nat) (v3 : Int32) (v4 : Int32) (w : gW), mX3_search_h89 F r v0 v1 v2 v3 v4 w = some res → Wx X w 0 0 89 [(0, .inr (.inr (some v0))), (1, .inr (.inr v1)), (2, .inr (.inr v2)), (3, .inl v3), (4, .inl v4)] [] := by
  intro v0 v1 v2 v3 v4 w h
  unfold mX3_search_h89 at h
  refine Wx.run ok kX3_search 48 2 (lv' := [(0, .inr (.inr (some v0))), (1, .inr (.inr v1)), (2, .inr (.inr v2)), (3, .inl v3), (4, .inl v4)]) (st' := [.inl v3, .inl v4]) (pc' := 92) rfl ?_
  refine Wx.icmp_gt ok kX3_search 50 (tgt := 125) rfl (by decide) h (fun hc92 h => ?_) (fun hc92 h => ?_)
  · refine Wx.run ok kX3_search 68 1 (lv' := [(0, .inr (.inr (some v0))), (1, .inr (.inr v1)), (2, .inr (.inr v2)), (3, .inl v3), (4, .inl v4)]) (st' := [.inl (-5 : Int32)]) (pc' := 127) rfl ?_
    exact Wx.ireturn ok kX3_search 69 rfl hres h (by decide)
  · refine Wx.run ok kX3_search 51 4 (lv' := [(0, .inr (.inr (some v0))), (1, .inr (.inr v1)), (2, .inr (.inr v2)), (3, .inl v3), (4, .inl v4)]) (st' := [.inl v4, .inr (.inr v2), .inr (.inr v1), .inr (.inr (some v0))]) (pc' := 100) rfl ?_
    obtain ⟨a100, ha100, h⟩ := gob h
    obtain ⟨q100, hq100, h⟩ := gob h
    refine Wx.callV ok kX3_search 55 rfl lm_RX3_70 cd_X3_goesWithProducts ha100 [.inr (.inr v1), .inr (.inr v2), .inl v4] (some (.inl q100.1)) (aX3_goesWithProducts _ _ hq100) (by decide) rfl (Nat.le_of_ble_eq_true rfl) rfl rfl ?_
    refine Wx.if_eq ok kX3_search 56 (tgt := 108) rfl (by decide) h (fun hc103 h => ?_) (fun hc103 h => ?_)
    · refine Wx.run ok kX3_search 59 3 (lv' := [(0, .inr (.inr (some v0))), (1, .inr (.inr v1)), (2, .inr (.inr v2)), (3, .inl v3), (4, .inl v4)]) (st' := [.inr (.inr v2), .inr (.inr v1), .inr (.inr (some v0))]) (pc' := 111) rfl ?_
      obtain ⟨a111, ha111, h⟩ := gob h
      obtain ⟨q111, hq111, h⟩ := gob h
      refine Wx.callV ok kX3_search 62 rfl lm_RX3_74 cd_X3_stepGiven ha111 [.inr (.inr v1), .inr (.inr v2)] (some (.inl q111.1)) (aX3_stepGiven _ _ hq111) (by decide) rfl (Nat.le_of_ble_eq_true rfl) rfl rfl ?_
      refine Wx.if_ne ok kX3_search 63 (tgt := 119) rfl (by decide) h (fun hc114 h => ?_) (fun hc114 h => ?_)
      · refine Wx.run ok kX3_search 64 1 (lv' := [(0, .inr (.inr (some v0))), (1, .inr (.inr v1)), (2, .inr (.inr v2)), (3, .inl v3), (4, .inl v4)]) (st' := [.inl (0 : Int32)]) (pc' := 118) rfl ?_
        exact Wx.ireturn ok kX3_search 65 rfl hres h (by decide)
      · refine Wx.run ok kX3_search 66 1 (lv' := [(4, .inl (v4 + (1 : Int32))), (0, .inr (.inr (some v0))), (1, .inr (.inr v1)), (2, .inr (.inr v2)), (3, .inl v3)]) (st' := []) (pc' := 122) rfl ?_
        refine Wx.jump ok kX3_search 67 (tgt := 89) rfl (by decide) ?_
        refine Wx.sub [1, 2, 3, 4, 0] rfl ?_
        exact hr _ _ _ _ _ _ h
    · refine Wx.run ok kX3_search 57 1 (lv' := [(0, .inr (.inr (some v0))), (1, .inr (.inr v1)), (2, .inr (.inr v2)), (3, .inl v3), (4, .inl v4)]) (st' := [.inl (1 : Int32)]) (pc' := 107) rfl ?_
      exact Wx.ireturn ok kX3_search 58 rfl hres h (by decide)
set_option maxRecDepth 100000 in
set_option maxHeartbeats 4000000 in
theorem aX3_search_l89 {X : gX} (ok : gOk X cX3_search RX3 5 (some .int) rmX3_search) {res : Int32 × gW} (hres : gRs X (some (.int res.1)) res.2) {F : Nat} : ∀ (n : Nat) (v0 : Nat) (v1 : Option Nat) (v2 : Option Nat) (v3 : Int32) (v4 : Int32) (w : gW), mX3_search_l89 F n v0 v1 v2 v3 v4 w = some res → Wx X w 0 0 89 [(0, .inr (.inr (some v0))), (1, .inr (.inr v1)), (2, .inr (.inr v2)), (3, .inl v3), (4, .inl v4)] [] := by
  intro n
  induction n with
  | zero => intro v0 v1 v2 v3 v4 w h; cases (show (none : Option (Int32 × gW)) = some res from h)
  | succ n ih =>
    intro v0 v1 v2 v3 v4 w h
    exact aX3_search_h89 ok hres (F := F) (mX3_search_l89 F n) ih v0 v1 v2 v3 v4 w h
set_option maxRecDepth 100000 in
set_option maxHeartbeats 4000000 in
theorem aX3_search (l : Launch) (G : gG) {F : Nat} {v0 : Nat} {v1 : Option Nat} {v2 : Option Nat} {v3 : Int32} {w : gW} {res : Int32 × gW} (h : mX3_search F v0 v1 v2 v3 w = some res) : gM l yX3_search cX3_search 5 (some .int) rmX3_search G w (gTs [.inr (.inr (some v0)), .inr (.inr v1), .inr (.inr v2), .inl v3]) (some (.int res.1)) res.2 := by
  refine gM_of (y := yX3_search) (by decide +kernel) (Nat.le_of_ble_eq_true rfl) ?_
  intro X ok hl hG hres hnm
  subst hl; subst hG
  unfold mX3_search at h
  show Wx X w 0 0 0 [(0, .inr (.inr (some v0))), (1, .inr (.inr v1)), (2, .inr (.inr v2)), (3, .inl v3)] []
  refine Wx.run ok kX3_search 0 1 (lv' := [(0, .inr (.inr (some v0))), (1, .inr (.inr v1)), (2, .inr (.inr v2)), (3, .inl v3)]) (st' := [.inr (.inr v1)]) (pc' := 1) rfl ?_
  refine Wx.getI ok kX3_search 1 rfl lk_RX3_33_0 h (fun t1 h => ?_)
  refine Wx.run ok kX3_search 2 1 (lv' := [(0, .inr (.inr (some v0))), (1, .inr (.inr v1)), (2, .inr (.inr v2)), (3, .inl v3)]) (st' := [.inr (.inr v2), .inl t1]) (pc' := 5) rfl ?_
  refine Wx.getI ok kX3_search 3 rfl lk_RX3_33_0 h (fun t5 h => ?_)
  refine Wx.icmp_ne ok kX3_search 4 (tgt := 20) rfl (by decide) h (fun hc8 h => ?_) (fun hc8 h => ?_)
  · refine Wx.run ok kX3_search 5 3 (lv' := [(0, .inr (.inr (some v0))), (1, .inr (.inr v1)), (2, .inr (.inr v2)), (3, .inl v3)]) (st' := [.inr (.inr v2), .inr (.inr v1), .inr (.inr (some v0))]) (pc' := 14) rfl ?_
    obtain ⟨a14, ha14, h⟩ := gob h
    obtain ⟨q14, hq14, h⟩ := gob h
    refine Wx.callV ok kX3_search 8 rfl lm_RX3_39 cd_X3_likeInPeriods ha14 [.inr (.inr v1), .inr (.inr v2)] (some (.inl q14.1)) (aX3_likeInPeriods _ _ hq14) (by decide) rfl (Nat.le_of_ble_eq_true rfl) rfl rfl ?_
    refine Wx.if_ne ok kX3_search 9 (tgt := 22) rfl (by decide) h (fun hc17 h => ?_) (fun hc17 h => ?_)
    · refine Wx.run ok kX3_search 10 1 (lv' := [(0, .inr (.inr (some v0))), (1, .inr (.inr v1)), (2, .inr (.inr v2)), (3, .inl v3)]) (st' := [.inl (0 : Int32)]) (pc' := 21) rfl ?_
      exact Wx.ireturn ok kX3_search 11 rfl hres h (by decide)
    · refine Wx.run ok kX3_search 12 2 (lv' := [(0, .inr (.inr (some v0))), (1, .inr (.inr v1)), (2, .inr (.inr v2)), (3, .inl v3)]) (st' := [.inr (.inr v1), .inr (.inr (some v0))]) (pc' := 24) rfl ?_
      obtain ⟨a24, ha24, h⟩ := gob h
      obtain ⟨q24, hq24, h⟩ := gob h
      refine Wx.callV ok kX3_search 14 rfl lm_RX3_43 cd_X2_findMakers ha24 [] (some (.inl q24.1)) (aX2_findMakers _ _ hq24) (by decide) rfl (Nat.le_of_ble_eq_true rfl) rfl rfl ?_
      refine Wx.put ok kX3_search 15 rfl lk_RX3_47_1 (gFit_i _) h (fun w27 h => ?_)
      refine Wx.run ok kX3_search 16 2 (lv' := [(0, .inr (.inr (some v0))), (1, .inr (.inr v1)), (2, .inr (.inr v2)), (3, .inl v3)]) (st' := [.inr (.inr v1), .inr (.inr (some v0))]) (pc' := 32) rfl ?_
      obtain ⟨a32, ha32, h⟩ := gob h
      obtain ⟨q32, hq32, h⟩ := gob h
      refine Wx.callV ok kX3_search 18 rfl lm_RX3_50 cd_X3_layPaths ha32 [.inr (.inr v1)] none (aX3_layPaths _ _ hq32) (by decide) rfl (Nat.le_of_ble_eq_true rfl) rfl rfl ?_
      refine Wx.run ok kX3_search 19 2 (lv' := [(4, .inl (0 : Int32)), (0, .inr (.inr (some v0))), (1, .inr (.inr v1)), (2, .inr (.inr v2)), (3, .inl v3)]) (st' := []) (pc' := 38) rfl ?_
      refine Wx.sub [1, 2, 3, 4, 0] rfl ?_
      refine aX3_search_l38 ok hres (F := F) _ ?_ F _ _ _ _ _ _ h
      · intro v0 v1 v2 v3 w h
        refine Wx.run ok kX3_search 42 1 (lv' := [(0, .inr (.inr (some v0))), (1, .inr (.inr v1)), (2, .inr (.inr v2)), (3, .inl v3)]) (st' := [.inr (.inr (some v0))]) (pc' := 79) rfl ?_
        refine Wx.getR ok kX3_search 43 rfl lk_RX3_24_0 h (fun t79 h => ?_)
        refine Wx.run ok kX3_search 44 1 (lv' := [(0, .inr (.inr (some v0))), (1, .inr (.inr v1)), (2, .inr (.inr v2)), (3, .inl v3)]) (st' := [.inl (0 : Int32), .inr (.inr t79)]) (pc' := 83) rfl ?_
        obtain ⟨q83, hq83, h⟩ := gob h
        refine Wx.callS ok kX3_search 45 rfl lm_RX3_64 cd_J7_fill_53178 [.inr (.inr t79), .inl (0 : Int32)] none (aJ7_fill_53178 _ _ hq83) (by decide) rfl (Nat.le_of_ble_eq_true rfl) rfl rfl ?_
        refine Wx.run ok kX3_search 46 2 (lv' := [(4, .inl (1 : Int32)), (0, .inr (.inr (some v0))), (1, .inr (.inr v1)), (2, .inr (.inr v2)), (3, .inl v3)]) (st' := []) (pc' := 89) rfl ?_
        refine Wx.sub [1, 2, 3, 4, 0] rfl ?_
        refine aX3_search_l89 ok hres (F := F) F _ _ _ _ _ _ h
  · refine Wx.run ok kX3_search 10 1 (lv' := [(0, .inr (.inr (some v0))), (1, .inr (.inr v1)), (2, .inr (.inr v2)), (3, .inl v3)]) (st' := [.inl (0 : Int32)]) (pc' := 21) rfl ?_
    exact Wx.ireturn ok kX3_search 11 rfl hres h (by decide)
set_option maxRecDepth 100000 in
set_option maxHeartbeats 4000000 in
theorem aX5_writeEquations_h21 {X : gX} (ok : gOk X cX5_writeEquations RX5 9 none rmX5_writeEquations) {res : gW} (hres : gRs X none res) {F : Nat} (r : Nat → (Option Nat) → (Option Nat) → Int32 → Int32 → gW → Option (gW)) (k72 : Nat → (Option Nat) → (Option Nat) → gW → Option (gW)) (hr : ∀ (v0 : Nat) (v1 : Option Nat) (v2 : Option Nat) (v3 : Int32) (v4 : Int32) (w : gW), r v0 v1 v2 v3 v4 w = some res → Wx X w 0 0 21 [(0, .inr (.inr (some v0))), (1, .inr (.inr v1)), (2, .inr (.inr v2)), (3, .inl v3), (4, .inl v4)] []) (hk72 : ∀ (v0 : Nat) (v1 : Option Nat) (v2 : Option Nat) (w : gW), k72 v0 v1 v2 w = some res → Wx X w 0 0 72 [(0, .inr (.inr (some v0))), (1, .inr (.inr v1)), (2, .inr (.inr v2))] []) : ∀ (v0 : Nat) (v1 : Option Nat) (v2 : Option Nat) (v3 : Int32) (v4 : Int32) (w : gW), mX5_writeEquations_h21 F r k72 v0 v1 v2 v3 v4 w = some res → Wx X w 0 0 21 [(0, .inr (.inr (some v0))), (1, .inr (.inr v1)), (2, .inr (.inr v2)), (3, .inl v3), (4, .inl v4)] [] := by
  intro v0 v1 v2 v3 v4 w h
  unfold mX5_writeEquations_h21 at h
  refine Wx.run ok kX5_writeEquations 14 2 (lv' := [(0, .inr (.inr (some v0))), (1, .inr (.inr v1)), (2, .inr (.inr v2)), (3, .inl v3), (4, .inl v4)]) (st' := [.inr (.inr (some v0)), .inl v4]) (pc' := 24) rfl ?_
  refine Wx.getR ok kX5_writeEquations 16 rfl lk_RX5_20_0 h (fun t24 h => ?_)
  refine Wx.getI ok kX5_writeEquations 17 rfl lk_RX5_34_0 h (fun t27 h => ?_)
  refine Wx.icmp_ge ok kX5_writeEquations 18 (tgt := 72) rfl (by decide) h (fun hc30 h => ?_) (fun hc30 h => ?_)
  · refine Wx.sub [0, 1, 2] rfl ?_
    exact hk72 _ _ _ _ h
  · refine Wx.run ok kX5_writeEquations 19 1 (lv' := [(0, .inr (.inr (some v0))), (1, .inr (.inr v1)), (2, .inr (.inr v2)), (3, .inl v3), (4, .inl v4)]) (st' := [.inr (.inr (some v0))]) (pc' := 34) rfl ?_
    refine Wx.getR ok kX5_writeEquations 20 rfl lk_RX5_9_0 h (fun t34 h => ?_)
    refine Wx.run ok kX5_writeEquations 21 1 (lv' := [(0, .inr (.inr (some v0))), (1, .inr (.inr v1)), (2, .inr (.inr v2)), (3, .inl v3), (4, .inl v4)]) (st' := [.inl (0 : Int32), .inr (.inr t34)]) (pc' := 38) rfl ?_
    obtain ⟨q38, hq38, h⟩ := gob h
    refine Wx.callS ok kX5_writeEquations 22 rfl lm_RX5_77 cd_J7_fill_53178 [.inr (.inr t34), .inl (0 : Int32)] none (aJ7_fill_53178 _ _ hq38) (by decide) rfl (Nat.le_of_ble_eq_true rfl) rfl rfl ?_
    refine Wx.run ok kX5_writeEquations 23 1 (lv' := [(0, .inr (.inr (some v0))), (1, .inr (.inr v1)), (2, .inr (.inr v2)), (3, .inl v3), (4, .inl v4)]) (st' := [.inr (.inr (some v0))]) (pc' := 42) rfl ?_
    refine Wx.getR ok kX5_writeEquations 24 rfl lk_RX5_9_0 h (fun t42 h => ?_)
    refine Wx.run ok kX5_writeEquations 25 2 (lv' := [(0, .inr (.inr (some v0))), (1, .inr (.inr v1)), (2, .inr (.inr v2)), (3, .inl v3), (4, .inl v4)]) (st' := [.inr (.inr (some v0)), .inl v3, .inr (.inr t42)]) (pc' := 47) rfl ?_
    refine Wx.getR ok kX5_writeEquations 27 rfl lk_RX5_20_0 h (fun t47 h => ?_)
    refine Wx.run ok kX5_writeEquations 28 1 (lv' := [(0, .inr (.inr (some v0))), (1, .inr (.inr v1)), (2, .inr (.inr v2)), (3, .inl v3), (4, .inl v4)]) (st' := [.inl v4, .inr (.inr t47), .inl v3, .inr (.inr t42)]) (pc' := 52) rfl ?_
    obtain ⟨a52, ha52, h⟩ := gob h
    obtain ⟨q52, hq52, h⟩ := gob h
    refine Wx.callV ok kX5_writeEquations 29 rfl lm_RX5_90 cd_X1_leadOf ha52 [.inl v4] (some (.inl q52.1)) (aX1_leadOf _ _ hq52) (by decide) rfl (Nat.le_of_ble_eq_true rfl) rfl rfl ?_
    refine Wx.run ok kX5_writeEquations 30 2 (lv' := [(0, .inr (.inr (some v0))), (1, .inr (.inr v1)), (2, .inr (.inr v2)), (3, .inl v3), (4, .inl v4)]) (st' := [.inl (1 : Int32), .inl (v3 - q52.1), .inr (.inr t42)]) (pc' := 57) rfl ?_
    refine Wx.iast ok kX5_writeEquations 32 rfl h (fun w57 h => ?_)
    refine Wx.run ok kX5_writeEquations 33 2 (lv' := [(0, .inr (.inr (some v0))), (1, .inr (.inr v1)), (2, .inr (.inr v2)), (3, .inl v3), (4, .inl v4)]) (st' := [.inr (.inr (some v0)), .inr (.inr v2)]) (pc' := 60) rfl ?_
    refine Wx.getR ok kX5_writeEquations 35 rfl lk_RX5_9_0 h (fun t60 h => ?_)
    obtain ⟨a63, ha63, h⟩ := gob h
    obtain ⟨q63, hq63, h⟩ := gob h
    refine Wx.callV ok kX5_writeEquations 36 rfl lm_RX5_65 cd_X1_add ha63 [.inr (.inr t60)] none (aX1_add _ _ hq63) (by decide) rfl (Nat.le_of_ble_eq_true rfl) rfl rfl ?_
    refine Wx.run ok kX5_writeEquations 37 1 (lv' := [(4, .inl (v4 + (1 : Int32))), (0, .inr (.inr (some v0))), (1, .inr (.inr v1)), (2, .inr (.inr v2)), (3, .inl v3)]) (st' := []) (pc' := 69) rfl ?_
    refine Wx.jump ok kX5_writeEquations 38 (tgt := 21) rfl (by decide) ?_
    refine Wx.sub [1, 2, 3, 4, 0] rfl ?_
    exact hr _ _ _ _ _ _ h
set_option maxRecDepth 100000 in
set_option maxHeartbeats 4000000 in
theorem aX5_writeEquations_l21 {X : gX} (ok : gOk X cX5_writeEquations RX5 9 none rmX5_writeEquations) {res : gW} (hres : gRs X none res) {F : Nat} (k72 : Nat → (Option Nat) → (Option Nat) → gW → Option (gW)) (hk72 : ∀ (v0 : Nat) (v1 : Option Nat) (v2 : Option Nat) (w : gW), k72 v0 v1 v2 w = some res → Wx X w 0 0 72 [(0, .inr (.inr (some v0))), (1, .inr (.inr v1)), (2, .inr (.inr v2))] []) : ∀ (n : Nat) (v0 : Nat) (v1 : Option Nat) (v2 : Option Nat) (v3 : Int32) (v4 : Int32) (w : gW), mX5_writeEquations_l21 F k72 n v0 v1 v2 v3 v4 w = some res → Wx X w 0 0 21 [(0, .inr (.inr (some v0))), (1, .inr (.inr v1)), (2, .inr (.inr v2)), (3, .inl v3), (4, .inl v4)] [] := by
  intro n
  induction n with
  | zero => intro v0 v1 v2 v3 v4 w h; cases (show (none : Option (gW)) = some res from h)
  | succ n ih =>
    intro v0 v1 v2 v3 v4 w h
    exact aX5_writeEquations_h21 ok hres (F := F) (mX5_writeEquations_l21 F k72 n) k72 ih hk72 v0 v1 v2 v3 v4 w h
set_option maxRecDepth 100000 in
set_option maxHeartbeats 4000000 in
theorem aX5_writeEquations_h124 {X : gX} (ok : gOk X cX5_writeEquations RX5 9 none rmX5_writeEquations) {res : gW} (hres : gRs X none res) {F : Nat} (r : Nat → (Option Nat) → (Option Nat) → Int32 → Int32 → Int32 → Int32 → Int32 → gW → Option (gW)) (k168 : Nat → (Option Nat) → (Option Nat) → Int32 → Int32 → Int32 → Int32 → gW → Option (gW)) (hr : ∀ (v0 : Nat) (v1 : Option Nat) (v2 : Option Nat) (v4 : Int32) (v5 : Int32) (v6 : Int32) (v7 : Int32) (v8 : Int32) (w : gW), r v0 v1 v2 v4 v5 v6 v7 v8 w = some res → Wx X w 0 0 124 [(0, .inr (.inr (some v0))), (1, .inr (.inr v1)), (2, .inr (.inr v2)), (4, .inl v4), (5, .inl v5), (6, .inl v6), (7, .inl v7), (8, .inl v8)] []) (hk168 : ∀ (v0 : Nat) (v1 : Option Nat) (v2 : Option Nat) (v4 : Int32) (v5 : Int32) (v6 : Int32) (v7 : Int32) (w : gW), k168 v0 v1 v2 v4 v5 v6 v7 w = some res → Wx X w 0 0 168 [(0, .inr (.inr (some v0))), (1, .inr (.inr v1)), (2, .inr (.inr v2)), (4, .inl v4), (5, .inl v5), (6, .inl v6), (7, .inl v7)] []) : ∀ (v0 : Nat) (v1 : Option Nat) (v2 : Option Nat) (v4 : Int32) (v5 : Int32) (v6 : Int32) (v7 : Int32) (v8 : Int32) (w : gW), mX5_writeEquations_h124 F r k168 v0 v1 v2 v4 v5 v6 v7 v8 w = some res → Wx X w 0 0 124 [(0, .inr (.inr (some v0))), (1, .inr (.inr v1)), (2, .inr (.inr v2)), (4, .inl v4), (5, .inl v5), (6, .inl v6), (7, .inl v7), (8, .inl v8)] [] := by
  intro v0 v1 v2 v4 v5 v6 v7 v8 w h
  unfold mX5_writeEquations_h124 at h
  refine Wx.run ok kX5_writeEquations 64 2 (lv' := [(0, .inr (.inr (some v0))), (1, .inr (.inr v1)), (2, .inr (.inr v2)), (4, .inl v4), (5, .inl v5), (6, .inl v6), (7, .inl v7), (8, .inl v8)]) (st' := [.inr (.inr v1), .inl v8]) (pc' := 127) rfl ?_
  refine Wx.getI ok kX5_writeEquations 66 rfl lk_RX5_40_0 h (fun t127 h => ?_)
  refine Wx.icmp_ge ok kX5_writeEquations 67 (tgt := 168) rfl (by decide) h (fun hc130 h => ?_) (fun hc130 h => ?_)
  · refine Wx.sub [0, 1, 2, 3, 4, 5, 6] rfl ?_
    exact hk168 _ _ _ _ _ _ _ _ h
  · refine Wx.run ok kX5_writeEquations 68 3 (lv' := [(0, .inr (.inr (some v0))), (1, .inr (.inr v1)), (2, .inr (.inr v2)), (4, .inl v4), (5, .inl v5), (6, .inl v6), (7, .inl v7), (8, .inl v8)]) (st' := [.inr (.inr v1), .inr (.inr v1), .inr (.inr (some v0))]) (pc' := 136) rfl ?_
    refine Wx.getR ok kX5_writeEquations 71 rfl lk_RX5_52_0 h (fun t136 h => ?_)
    refine Wx.getR ok kX5_writeEquations 72 rfl lk_RX5_97_0 h (fun t139 h => ?_)
    refine Wx.run ok kX5_writeEquations 73 1 (lv' := [(0, .inr (.inr (some v0))), (1, .inr (.inr v1)), (2, .inr (.inr v2)), (4, .inl v4), (5, .inl v5), (6, .inl v6), (7, .inl v7), (8, .inl v8)]) (st' := [.inl v5, .inr (.inr t139), .inr (.inr v1), .inr (.inr (some v0))]) (pc' := 144) rfl ?_
    refine Wx.iald ok kX5_writeEquations 74 rfl h (fun t144 h => ?_)
    refine Wx.run ok kX5_writeEquations 75 3 (lv' := [(0, .inr (.inr (some v0))), (1, .inr (.inr v1)), (2, .inr (.inr v2)), (4, .inl v4), (5, .inl v5), (6, .inl v6), (7, .inl v7), (8, .inl v8)]) (st' := [.inl v8, .inl v7, .inl v6, .inl t144, .inr (.inr v1), .inr (.inr (some v0))]) (pc' := 151) rfl ?_
    obtain ⟨a151, ha151, h⟩ := gob h
    obtain ⟨q151, hq151, h⟩ := gob h
    refine Wx.callV ok kX5_writeEquations 78 rfl lm_RX5_100 cd_X5_writeCocycleRule ha151 [.inr (.inr v1), .inl t144, .inl v6, .inl v7, .inl v8] none (aX5_writeCocycleRule _ _ hq151) (by decide) rfl (Nat.le_of_ble_eq_true rfl) rfl rfl ?_
    refine Wx.run ok kX5_writeEquations 79 2 (lv' := [(0, .inr (.inr (some v0))), (1, .inr (.inr v1)), (2, .inr (.inr v2)), (4, .inl v4), (5, .inl v5), (6, .inl v6), (7, .inl v7), (8, .inl v8)]) (st' := [.inr (.inr (some v0)), .inr (.inr v2)]) (pc' := 156) rfl ?_
    refine Wx.getR ok kX5_writeEquations 81 rfl lk_RX5_9_0 h (fun t156 h => ?_)
    obtain ⟨a159, ha159, h⟩ := gob h
    obtain ⟨q159, hq159, h⟩ := gob h
    refine Wx.callV ok kX5_writeEquations 82 rfl lm_RX5_65 cd_X1_add ha159 [.inr (.inr t156)] none (aX1_add _ _ hq159) (by decide) rfl (Nat.le_of_ble_eq_true rfl) rfl rfl ?_
    refine Wx.run ok kX5_writeEquations 83 1 (lv' := [(8, .inl (v8 + (1 : Int32))), (0, .inr (.inr (some v0))), (1, .inr (.inr v1)), (2, .inr (.inr v2)), (4, .inl v4), (5, .inl v5), (6, .inl v6), (7, .inl v7)]) (st' := []) (pc' := 165) rfl ?_
    refine Wx.jump ok kX5_writeEquations 84 (tgt := 124) rfl (by decide) ?_
    refine Wx.sub [1, 2, 3, 4, 5, 6, 7, 0] rfl ?_
    exact hr _ _ _ _ _ _ _ _ _ h
set_option maxRecDepth 100000 in
set_option maxHeartbeats 4000000 in
theorem aX5_writeEquations_l124 {X : gX} (ok : gOk X cX5_writeEquations RX5 9 none rmX5_writeEquations) {res : gW} (hres : gRs X none res) {F : Nat} (k168 : Nat → (Option Nat) → (Option Nat) → Int32 → Int32 → Int32 → Int32 → gW → Option (gW)) (hk168 : ∀ (v0 : Nat) (v1 : Option Nat) (v2 : Option Nat) (v4 : Int32) (v5 : Int32) (v6 : Int32) (v7 : Int32) (w : gW), k168 v0 v1 v2 v4 v5 v6 v7 w = some res → Wx X w 0 0 168 [(0, .inr (.inr (some v0))), (1, .inr (.inr v1)), (2, .inr (.inr v2)), (4, .inl v4), (5, .inl v5), (6, .inl v6), (7, .inl v7)] []) : ∀ (n : Nat) (v0 : Nat) (v1 : Option Nat) (v2 : Option Nat) (v4 : Int32) (v5 : Int32) (v6 : Int32) (v7 : Int32) (v8 : Int32) (w : gW), mX5_writeEquations_l124 F k168 n v0 v1 v2 v4 v5 v6 v7 v8 w = some res → Wx X w 0 0 124 [(0, .inr (.inr (some v0))), (1, .inr (.inr v1)), (2, .inr (.inr v2)), (4, .inl v4), (5, .inl v5), (6, .inl v6), (7, .inl v7), (8, .inl v8)] [] := by
  intro n
  induction n with
  | zero => intro v0 v1 v2 v4 v5 v6 v7 v8 w h; cases (show (none : Option (gW)) = some res from h)
  | succ n ih =>
    intro v0 v1 v2 v4 v5 v6 v7 v8 w h
    exact aX5_writeEquations_h124 ok hres (F := F) (mX5_writeEquations_l124 F k168 n) k168 ih hk168 v0 v1 v2 v4 v5 v6 v7 v8 w h
set_option maxRecDepth 100000 in
set_option maxHeartbeats 4000000 in
theorem aX5_writeEquations_h109 {X : gX} (ok : gOk X cX5_writeEquations RX5 9 none rmX5_writeEquations) {res : gW} (hres : gRs X none res) {F : Nat} (r : Nat → (Option Nat) → (Option Nat) → Int32 → Int32 → Int32 → Int32 → gW → Option (gW)) (k174 : Nat → (Option Nat) → (Option Nat) → Int32 → Int32 → Int32 → gW → Option (gW)) (hr : ∀ (v0 : Nat) (v1 : Option Nat) (v2 : Option Nat) (v4 : Int32) (v5 : Int32) (v6 : Int32) (v7 : Int32) (w : gW), r v0 v1 v2 v4 v5 v6 v7 w = some res → Wx X w 0 0 109 [(0, .inr (.inr (some v0))), (1, .inr (.inr v1)), (2, .inr (.inr v2)), (4, .inl v4), (5, .inl v5), (6, .inl v6), (7, .inl v7)] []) (hk174 : ∀ (v0 : Nat) (v1 : Option Nat) (v2 : Option Nat) (v4 : Int32) (v5 : Int32) (v6 : Int32) (w : gW), k174 v0 v1 v2 v4 v5 v6 w = some res → Wx X w 0 0 174 [(0, .inr (.inr (some v0))), (1, .inr (.inr v1)), (2, .inr (.inr v2)), (4, .inl v4), (5, .inl v5), (6, .inl v6)] []) : ∀ (v0 : Nat) (v1 : Option Nat) (v2 : Option Nat) (v4 : Int32) (v5 : Int32) (v6 : Int32) (v7 : Int32) (w : gW), mX5_writeEquations_h109 F r k174 v0 v1 v2 v4 v5 v6 v7 w = some res → Wx X w 0 0 109 [(0, .inr (.inr (some v0))), (1, .inr (.inr v1)), (2, .inr (.inr v2)), (4, .inl v4), (5, .inl v5), (6, .inl v6), (7, .inl v7)] [] := by
  intro v0 v1 v2 v4 v5 v6 v7 w h
  unfold mX5_writeEquations_h109 at h
  refine Wx.run ok kX5_writeEquations 57 2 (lv' := [(0, .inr (.inr (some v0))), (1, .inr (.inr v1)), (2, .inr (.inr v2)), (4, .inl v4), (5, .inl v5), (6, .inl v6), (7, .inl v7)]) (st' := [.inr (.inr v1), .inl v7]) (pc' := 112) rfl ?_
  refine Wx.getR ok kX5_writeEquations 59 rfl lk_RX5_52_0 h (fun t112 h => ?_)
  refine Wx.getI ok kX5_writeEquations 60 rfl lk_RX5_56_0 h (fun t115 h => ?_)
  refine Wx.icmp_ge ok kX5_writeEquations 61 (tgt := 174) rfl (by decide) h (fun hc118 h => ?_) (fun hc118 h => ?_)
  · refine Wx.sub [0, 1, 2, 3, 4, 5] rfl ?_
    exact hk174 _ _ _ _ _ _ _ h
  · refine Wx.run ok kX5_writeEquations 62 2 (lv' := [(8, .inl (0 : Int32)), (0, .inr (.inr (some v0))), (1, .inr (.inr v1)), (2, .inr (.inr v2)), (4, .inl v4), (5, .inl v5), (6, .inl v6), (7, .inl v7)]) (st' := []) (pc' := 124) rfl ?_
    refine Wx.sub [1, 2, 3, 4, 5, 6, 7, 0] rfl ?_
    refine aX5_writeEquations_l124 ok hres (F := F) _ ?_ F _ _ _ _ _ _ _ _ _ h
    · intro v0 v1 v2 v4 v5 v6 v7 w h
      refine Wx.run ok kX5_writeEquations 85 1 (lv' := [(7, .inl (v7 + (1 : Int32))), (0, .inr (.inr (some v0))), (1, .inr (.inr v1)), (2, .inr (.inr v2)), (4, .inl v4), (5, .inl v5), (6, .inl v6)]) (st' := []) (pc' := 171) rfl ?_
      refine Wx.jump ok kX5_writeEquations 86 (tgt := 109) rfl (by decide) ?_
      refine Wx.sub [1, 2, 3, 4, 5, 6, 0] rfl ?_
      exact hr _ _ _ _ _ _ _ _ h
set_option maxRecDepth 100000 in
set_option maxHeartbeats 4000000 in
theorem aX5_writeEquations_l109 {X : gX} (ok : gOk X cX5_writeEquations RX5 9 none rmX5_writeEquations) {res : gW} (hres : gRs X none res) {F : Nat} (k174 : Nat → (Option Nat) → (Option Nat) → Int32 → Int32 → Int32 → gW → Option (gW)) (hk174 : ∀ (v0 : Nat) (v1 : Option Nat) (v2 : Option Nat) (v4 : Int32) (v5 : Int32) (v6 : Int32) (w : gW), k174 v0 v1 v2 v4 v5 v6 w = some res → Wx X w 0 0 174 [(0, .inr (.inr (some v0))), (1, .inr (.inr v1)), (2, .inr (.inr v2)), (4, .inl v4), (5, .inl v5), (6, .inl v6)] []) : ∀ (n : Nat) (v0 : Nat) (v1 : Option Nat) (v2 : Option Nat) (v4 : Int32) (v5 : Int32) (v6 : Int32) (v7 : Int32) (w : gW), mX5_writeEquations_l109 F k174 n v0 v1 v2 v4 v5 v6 v7 w = some res → Wx X w 0 0 109 [(0, .inr (.inr (some v0))), (1, .inr (.inr v1)), (2, .inr (.inr v2)), (4, .inl v4), (5, .inl v5), (6, .inl v6), (7, .inl v7)] [] := by
  intro n
  induction n with
  | zero => intro v0 v1 v2 v4 v5 v6 v7 w h; cases (show (none : Option (gW)) = some res from h)
  | succ n ih =>
    intro v0 v1 v2 v4 v5 v6 v7 w h
    exact aX5_writeEquations_h109 ok hres (F := F) (mX5_writeEquations_l109 F k174 n) k174 ih hk174 v0 v1 v2 v4 v5 v6 v7 w h
set_option maxRecDepth 100000 in
set_option maxHeartbeats 4000000 in
theorem aX5_writeEquations_h94 {X : gX} (ok : gOk X cX5_writeEquations RX5 9 none rmX5_writeEquations) {res : gW} (hres : gRs X none res) {F : Nat} (r : Nat → (Option Nat) → (Option Nat) → Int32 → Int32 → Int32 → gW → Option (gW)) (k180 : Nat → (Option Nat) → (Option Nat) → Int32 → Int32 → gW → Option (gW)) (hr : ∀ (v0 : Nat) (v1 : Option Nat) (v2 : Option Nat) (v4 : Int32) (v5 : Int32) (v6 : Int32) (w : gW), r v0 v1 v2 v4 v5 v6 w = some res → Wx X w 0 0 94 [(0, .inr (.inr (some v0))), (1, .inr (.inr v1)), (2, .inr (.inr v2)), (4, .inl v4), (5, .inl v5), (6, .inl v6)] []) (hk180 : ∀ (v0 : Nat) (v1 : Option Nat) (v2 : Option Nat) (v4 : Int32) (v5 : Int32) (w : gW), k180 v0 v1 v2 v4 v5 w = some res → Wx X w 0 0 180 [(0, .inr (.inr (some v0))), (1, .inr (.inr v1)), (2, .inr (.inr v2)), (4, .inl v4), (5, .inl v5)] []) : ∀ (v0 : Nat) (v1 : Option Nat) (v2 : Option Nat) (v4 : Int32) (v5 : Int32) (v6 : Int32) (w : gW), mX5_writeEquations_h94 F r k180 v0 v1 v2 v4 v5 v6 w = some res → Wx X w 0 0 94 [(0, .inr (.inr (some v0))), (1, .inr (.inr v1)), (2, .inr (.inr v2)), (4, .inl v4), (5, .inl v5), (6, .inl v6)] [] := by
  intro v0 v1 v2 v4 v5 v6 w h
  unfold mX5_writeEquations_h94 at h
  refine Wx.run ok kX5_writeEquations 50 2 (lv' := [(0, .inr (.inr (some v0))), (1, .inr (.inr v1)), (2, .inr (.inr v2)), (4, .inl v4), (5, .inl v5), (6, .inl v6)]) (st' := [.inr (.inr v1), .inl v6]) (pc' := 97) rfl ?_
  refine Wx.getR ok kX5_writeEquations 52 rfl lk_RX5_52_0 h (fun t97 h => ?_)
  refine Wx.getI ok kX5_writeEquations 53 rfl lk_RX5_56_0 h (fun t100 h => ?_)
  refine Wx.icmp_ge ok kX5_writeEquations 54 (tgt := 180) rfl (by decide) h (fun hc103 h => ?_) (fun hc103 h => ?_)
  · refine Wx.sub [0, 1, 2, 3, 4] rfl ?_
    exact hk180 _ _ _ _ _ _ h
  · refine Wx.run ok kX5_writeEquations 55 2 (lv' := [(7, .inl (1 : Int32)), (0, .inr (.inr (some v0))), (1, .inr (.inr v1)), (2, .inr (.inr v2)), (4, .inl v4), (5, .inl v5), (6, .inl v6)]) (st' := []) (pc' := 109) rfl ?_
    refine Wx.sub [1, 2, 3, 4, 5, 6, 0] rfl ?_
    refine aX5_writeEquations_l109 ok hres (F := F) _ ?_ F _ _ _ _ _ _ _ _ h
    · intro v0 v1 v2 v4 v5 v6 w h
      refine Wx.run ok kX5_writeEquations 87 1 (lv' := [(6, .inl (v6 + (1 : Int32))), (0, .inr (.inr (some v0))), (1, .inr (.inr v1)), (2, .inr (.inr v2)), (4, .inl v4), (5, .inl v5)]) (st' := []) (pc' := 177) rfl ?_
      refine Wx.jump ok kX5_writeEquations 88 (tgt := 94) rfl (by decide) ?_
      refine Wx.sub [1, 2, 3, 4, 5, 0] rfl ?_
      exact hr _ _ _ _ _ _ _ h
set_option maxRecDepth 100000 in
set_option maxHeartbeats 4000000 in
theorem aX5_writeEquations_l94 {X : gX} (ok : gOk X cX5_writeEquations RX5 9 none rmX5_writeEquations) {res : gW} (hres : gRs X none res) {F : Nat} (k180 : Nat → (Option Nat) → (Option Nat) → Int32 → Int32 → gW → Option (gW)) (hk180 : ∀ (v0 : Nat) (v1 : Option Nat) (v2 : Option Nat) (v4 : Int32) (v5 : Int32) (w : gW), k180 v0 v1 v2 v4 v5 w = some res → Wx X w 0 0 180 [(0, .inr (.inr (some v0))), (1, .inr (.inr v1)), (2, .inr (.inr v2)), (4, .inl v4), (5, .inl v5)] []) : ∀ (n : Nat) (v0 : Nat) (v1 : Option Nat) (v2 : Option Nat) (v4 : Int32) (v5 : Int32) (v6 : Int32) (w : gW), mX5_writeEquations_l94 F k180 n v0 v1 v2 v4 v5 v6 w = some res → Wx X w 0 0 94 [(0, .inr (.inr (some v0))), (1, .inr (.inr v1)), (2, .inr (.inr v2)), (4, .inl v4), (5, .inl v5), (6, .inl v6)] [] := by
  intro n
  induction n with
  | zero => intro v0 v1 v2 v4 v5 v6 w h; cases (show (none : Option (gW)) = some res from h)
  | succ n ih =>
    intro v0 v1 v2 v4 v5 v6 w h
    exact aX5_writeEquations_h94 ok hres (F := F) (mX5_writeEquations_l94 F k180 n) k180 ih hk180 v0 v1 v2 v4 v5 v6 w h
set_option maxRecDepth 100000 in
set_option maxHeartbeats 4000000 in
theorem aX5_writeEquations_h84 {X : gX} (ok : gOk X cX5_writeEquations RX5 9 none rmX5_writeEquations) {res : gW} (hres : gRs X none res) {F : Nat} (r : Nat → (Option Nat) → (Option Nat) → Int32 → Int32 → gW → Option (gW)) (hr : ∀ (v0 : Nat) (v1 : Option Nat) (v2 : Option Nat) (v4 : Int32) (v5 : Int32) (w : gW), r v0 v1 v2 v4 v5 w = some res → Wx X w 0 0 84 [(0, .inr (.inr (some v0))), (1, .inr (.inr v1)), (2, .inr (.inr v2)), (4, .inl v4), (5, .inl v5)] []) : ∀ (v0 : Nat) (v1 : Option Nat) (v2 : Option Nat) (v4 : Int32) (v5 : Int32) (w : gW), mX5_writeEquations_h84 F r v0 v1 v2 v4 v5 w = some res → Wx X w 0 0 84 [(0, .inr (.inr (some v0))), (1, .inr (.inr v1)), (2, .inr (.inr v2)), (4, .inl v4), (5, .inl v5)] [] := by
  intro v0 v1 v2 v4 v5 w h
  unfold mX5_writeEquations_h84 at h
  refine Wx.run ok kX5_writeEquations 45 2 (lv' := [(0, .inr (.inr (some v0))), (1, .inr (.inr v1)), (2, .inr (.inr v2)), (4, .inl v4), (5, .inl v5)]) (st' := [.inl v4, .inl v5]) (pc' := 88) rfl ?_
  refine Wx.icmp_ge ok kX5_writeEquations 47 (tgt := 186) rfl (by decide) h (fun hc88 h => ?_) (fun hc88 h => ?_)
  · exact Wx.vreturn ok kX5_writeEquations 91 rfl hres h (by decide)
  · refine Wx.run ok kX5_writeEquations 48 2 (lv' := [(6, .inl (1 : Int32)), (0, .inr (.inr (some v0))), (1, .inr (.inr v1)), (2, .inr (.inr v2)), (4, .inl v4), (5, .inl v5)]) (st' := []) (pc' := 94) rfl ?_
    refine Wx.sub [1, 2, 3, 4, 5, 0] rfl ?_
    refine aX5_writeEquations_l94 ok hres (F := F) _ ?_ F _ _ _ _ _ _ _ h
    · intro v0 v1 v2 v4 v5 w h
      refine Wx.run ok kX5_writeEquations 89 1 (lv' := [(5, .inl (v5 + (1 : Int32))), (0, .inr (.inr (some v0))), (1, .inr (.inr v1)), (2, .inr (.inr v2)), (4, .inl v4)]) (st' := []) (pc' := 183) rfl ?_
      refine Wx.jump ok kX5_writeEquations 90 (tgt := 84) rfl (by decide) ?_
      refine Wx.sub [1, 2, 3, 4, 0] rfl ?_
      exact hr _ _ _ _ _ _ h
set_option maxRecDepth 100000 in
set_option maxHeartbeats 4000000 in
theorem aX5_writeEquations_l84 {X : gX} (ok : gOk X cX5_writeEquations RX5 9 none rmX5_writeEquations) {res : gW} (hres : gRs X none res) {F : Nat} : ∀ (n : Nat) (v0 : Nat) (v1 : Option Nat) (v2 : Option Nat) (v4 : Int32) (v5 : Int32) (w : gW), mX5_writeEquations_l84 F n v0 v1 v2 v4 v5 w = some res → Wx X w 0 0 84 [(0, .inr (.inr (some v0))), (1, .inr (.inr v1)), (2, .inr (.inr v2)), (4, .inl v4), (5, .inl v5)] [] := by
  intro n
  induction n with
  | zero => intro v0 v1 v2 v4 v5 w h; cases (show (none : Option (gW)) = some res from h)
  | succ n ih =>
    intro v0 v1 v2 v4 v5 w h
    exact aX5_writeEquations_h84 ok hres (F := F) (mX5_writeEquations_l84 F n) ih v0 v1 v2 v4 v5 w h
set_option maxRecDepth 100000 in
set_option maxHeartbeats 4000000 in
theorem aX5_writeEquations (l : Launch) (G : gG) {F : Nat} {v0 : Nat} {v1 : Option Nat} {v2 : Option Nat} {w : gW} {res : gW} (h : mX5_writeEquations F v0 v1 v2 w = some res) : gM l yX5_writeEquations cX5_writeEquations 9 none rmX5_writeEquations G w (gTs [.inr (.inr (some v0)), .inr (.inr v1), .inr (.inr v2)]) none res := by
  refine gM_of (y := yX5_writeEquations) (by decide +kernel) (Nat.le_of_ble_eq_true rfl) ?_
  intro X ok hl hG hres hnm
  subst hl; subst hG
  unfold mX5_writeEquations at h
  show Wx X w 0 0 0 [(0, .inr (.inr (some v0))), (1, .inr (.inr v1)), (2, .inr (.inr v2))] []
  refine Wx.run ok kX5_writeEquations 0 1 (lv' := [(0, .inr (.inr (some v0))), (1, .inr (.inr v1)), (2, .inr (.inr v2))]) (st' := [.inr (.inr v1)]) (pc' := 1) rfl ?_
  obtain ⟨a1, ha1, h⟩ := gob h
  obtain ⟨q1, hq1, h⟩ := gob h
  refine Wx.callV ok kX5_writeEquations 1 rfl lm_RX5_69 cd_X0_places ha1 [] (some (.inl q1.1)) (aX0_places _ _ hq1) (by decide) rfl (Nat.le_of_ble_eq_true rfl) rfl rfl ?_
  refine Wx.run ok kX5_writeEquations 2 8 (lv' := [(3, .inl (q1.1 - (1 : Int32))), (0, .inr (.inr (some v0))), (1, .inr (.inr v1)), (2, .inr (.inr v2))]) (st' := [.inr (.inr v1), .inl ((q1.1 - (1 : Int32)) + (1 : Int32)), .inr (.inr v2)]) (pc' := 12) rfl ?_
  refine Wx.getI ok kX5_writeEquations 10 rfl lk_RX5_45_0 h (fun t12 h => ?_)
  obtain ⟨a15, ha15, h⟩ := gob h
  obtain ⟨q15, hq15, h⟩ := gob h
  refine Wx.callV ok kX5_writeEquations 11 rfl lm_RX5_48 cd_X1_begin ha15 [.inl ((q1.1 - (1 : Int32)) + (1 : Int32)), .inl t12] none (aX1_begin _ _ hq15) (by decide) rfl (Nat.le_of_ble_eq_true rfl) rfl rfl ?_
  refine Wx.run ok kX5_writeEquations 12 2 (lv' := [(4, .inl (0 : Int32)), (3, .inl (q1.1 - (1 : Int32))), (0, .inr (.inr (some v0))), (1, .inr (.inr v1)), (2, .inr (.inr v2))]) (st' := []) (pc' := 21) rfl ?_
  refine Wx.sub [2, 3, 4, 1, 0] rfl ?_
  refine aX5_writeEquations_l21 ok hres (F := F) _ ?_ F _ _ _ _ _ _ h
  · intro v0 v1 v2 w h
    refine Wx.run ok kX5_writeEquations 39 1 (lv' := [(0, .inr (.inr (some v0))), (1, .inr (.inr v1)), (2, .inr (.inr v2))]) (st' := [.inr (.inr v1)]) (pc' := 73) rfl ?_
    refine Wx.getR ok kX5_writeEquations 40 rfl lk_RX5_52_0 h (fun t73 h => ?_)
    obtain ⟨a76, ha76, h⟩ := gob h
    obtain ⟨q76, hq76, h⟩ := gob h
    refine Wx.callV ok kX5_writeEquations 41 rfl lm_RX5_94 cd_X2_findMakers ha76 [] (some (.inl q76.1)) (aX2_findMakers _ _ hq76) (by decide) rfl (Nat.le_of_ble_eq_true rfl) rfl rfl ?_
    refine Wx.run ok kX5_writeEquations 42 3 (lv' := [(5, .inl (0 : Int32)), (4, .inl q76.1), (0, .inr (.inr (some v0))), (1, .inr (.inr v1)), (2, .inr (.inr v2))]) (st' := []) (pc' := 84) rfl ?_
    refine Wx.sub [2, 3, 4, 1, 0] rfl ?_
    refine aX5_writeEquations_l84 ok hres (F := F) F _ _ _ _ _ _ h
set_option maxRecDepth 100000 in
set_option maxHeartbeats 4000000 in
theorem aX6_about (l : Launch) (G : gG) {F : Nat} {v0 : Nat} {v1 : Int32} {v2 : Int32} {w : gW} {res : Int32 × gW} (h : mX6_about F v0 v1 v2 w = some res) : gM l yX6_about cX6_about 4 (some .int) rmX6_about G w (gTs [.inr (.inr (some v0)), .inl v1, .inl v2]) (some (.int res.1)) res.2 := by
  refine gM_of (y := yX6_about) (by decide +kernel) (Nat.le_of_ble_eq_true rfl) ?_
  intro X ok hl hG hres hnm
  subst hl; subst hG
  unfold mX6_about at h
  show Wx X w 0 0 0 [(0, .inr (.inr (some v0))), (1, .inl v1), (2, .inl v2)] []
  refine Wx.run ok kX6_about 0 2 (lv' := [(0, .inr (.inr (some v0))), (1, .inl v1), (2, .inl v2)]) (st' := [.inl v1, .inr (.inr (some v0))]) (pc' := 2) rfl ?_
  obtain ⟨a2, ha2, h⟩ := gob h
  obtain ⟨q2, hq2, h⟩ := gob h
  refine Wx.callV ok kX6_about 2 rfl lm_RX6_46 cd_X6_groupAt ha2 [.inl v1] (some (.inr (.inr q2.1))) (aX6_groupAt _ _ hq2) (by decide) rfl (Nat.le_of_ble_eq_true rfl) rfl rfl ?_
  refine Wx.run ok kX6_about 3 2 (lv' := [(3, .inr (.inr q2.1)), (0, .inr (.inr (some v0))), (1, .inl v1), (2, .inl v2)]) (st' := [.inr (.inr q2.1)]) (pc' := 7) rfl ?_
  refine Wx.ifnonnull ok kX6_about 5 (tgt := 12) rfl (by decide) h (fun hc7 h => ?_) (fun hc7 h => ?_)
  · refine Wx.run ok kX6_about 6 1 (lv' := [(3, .inr (.inr q2.1)), (0, .inr (.inr (some v0))), (1, .inl v1), (2, .inl v2)]) (st' := [.inl (-1 : Int32)]) (pc' := 11) rfl ?_
    exact Wx.ireturn ok kX6_about 7 rfl hres h (by decide)
  · refine Wx.run ok kX6_about 8 1 (lv' := [(3, .inr (.inr q2.1)), (0, .inr (.inr (some v0))), (1, .inl v1), (2, .inl v2)]) (st' := [.inl v2]) (pc' := 13) rfl ?_
    refine gIte h (fun hx h => ?_) (fun hx0 h => ?_)
    · refine Wx.swIn ok kX6_about 9 rfl (tgt := 52) (by rw [hx]; decide) (by rw [hx]; decide) (by rw [hx]; rfl) (by decide) ?_
      refine Wx.run ok kX6_about 10 1 (lv' := [(3, .inr (.inr q2.1)), (0, .inr (.inr (some v0))), (1, .inl v1), (2, .inl v2)]) (st' := [.inr (.inr q2.1)]) (pc' := 53) rfl ?_
      obtain ⟨a53, ha53, h⟩ := gob h
      obtain ⟨q53, hq53, h⟩ := gob h
      refine Wx.callV ok kX6_about 11 rfl lm_RX6_117 cd_X2_countCentral ha53 [] (some (.inl q53.1)) (aX2_countCentral _ _ hq53) (by decide) rfl (Nat.le_of_ble_eq_true rfl) rfl rfl ?_
      exact Wx.ireturn ok kX6_about 12 rfl hres h (by decide)
    refine gIte h (fun hx h => ?_) (fun hx1 h => ?_)
    · refine Wx.swIn ok kX6_about 9 rfl (tgt := 57) (by rw [hx]; decide) (by rw [hx]; decide) (by rw [hx]; rfl) (by decide) ?_
      refine Wx.run ok kX6_about 13 1 (lv' := [(3, .inr (.inr q2.1)), (0, .inr (.inr (some v0))), (1, .inl v1), (2, .inl v2)]) (st' := [.inr (.inr q2.1)]) (pc' := 58) rfl ?_
      obtain ⟨a58, ha58, h⟩ := gob h
      obtain ⟨q58, hq58, h⟩ := gob h
      refine Wx.callV ok kX6_about 14 rfl lm_RX6_121 cd_X2_countDerived ha58 [] (some (.inl q58.1)) (aX2_countDerived _ _ hq58) (by decide) rfl (Nat.le_of_ble_eq_true rfl) rfl rfl ?_
      exact Wx.ireturn ok kX6_about 15 rfl hres h (by decide)
    refine gIte h (fun hx h => ?_) (fun hx2 h => ?_)
    · refine Wx.swIn ok kX6_about 9 rfl (tgt := 62) (by rw [hx]; decide) (by rw [hx]; decide) (by rw [hx]; rfl) (by decide) ?_
      refine Wx.run ok kX6_about 16 1 (lv' := [(3, .inr (.inr q2.1)), (0, .inr (.inr (some v0))), (1, .inl v1), (2, .inl v2)]) (st' := [.inr (.inr q2.1)]) (pc' := 63) rfl ?_
      obtain ⟨a63, ha63, h⟩ := gob h
      obtain ⟨q63, hq63, h⟩ := gob h
      refine Wx.callV ok kX6_about 17 rfl lm_RX6_124 cd_X2_exponent ha63 [] (some (.inl q63.1)) (aX2_exponent _ _ hq63) (by decide) rfl (Nat.le_of_ble_eq_true rfl) rfl rfl ?_
      exact Wx.ireturn ok kX6_about 18 rfl hres h (by decide)
    refine gIte h (fun hx h => ?_) (fun hx3 h => ?_)
    · refine Wx.swIn ok kX6_about 9 rfl (tgt := 67) (by rw [hx]; decide) (by rw [hx]; decide) (by rw [hx]; rfl) (by decide) ?_
      refine Wx.run ok kX6_about 19 1 (lv' := [(3, .inr (.inr q2.1)), (0, .inr (.inr (some v0))), (1, .inl v1), (2, .inl v2)]) (st' := [.inr (.inr q2.1)]) (pc' := 68) rfl ?_
      obtain ⟨a68, ha68, h⟩ := gob h
      obtain ⟨q68, hq68, h⟩ := gob h
      refine Wx.callV ok kX6_about 20 rfl lm_RX6_127 cd_X2_countTurnClasses ha68 [] (some (.inl q68.1)) (aX2_countTurnClasses _ _ hq68) (by decide) rfl (Nat.le_of_ble_eq_true rfl) rfl rfl ?_
      exact Wx.ireturn ok kX6_about 21 rfl hres h (by decide)
    refine gIte h (fun hx h => ?_) (fun hx4 h => ?_)
    · refine Wx.swIn ok kX6_about 9 rfl (tgt := 72) (by rw [hx]; decide) (by rw [hx]; decide) (by rw [hx]; rfl) (by decide) ?_
      refine Wx.run ok kX6_about 22 1 (lv' := [(3, .inr (.inr q2.1)), (0, .inr (.inr (some v0))), (1, .inl v1), (2, .inl v2)]) (st' := [.inr (.inr q2.1)]) (pc' := 73) rfl ?_
      obtain ⟨a73, ha73, h⟩ := gob h
      obtain ⟨q73, hq73, h⟩ := gob h
      refine Wx.callV ok kX6_about 23 rfl lm_RX6_117 cd_X2_countCentral ha73 [] (some (.inl q73.1)) (aX2_countCentral _ _ hq73) (by decide) rfl (Nat.le_of_ble_eq_true rfl) rfl rfl ?_
      refine Wx.run ok kX6_about 24 1 (lv' := [(3, .inr (.inr q2.1)), (0, .inr (.inr (some v0))), (1, .inl v1), (2, .inl v2)]) (st' := [.inr (.inr q2.1), .inl q73.1]) (pc' := 77) rfl ?_
      refine Wx.getI ok kX6_about 25 rfl lk_RX6_50_0 h (fun t77 h => ?_)
      refine Wx.icmp_ne ok kX6_about 26 (tgt := 87) rfl (by decide) h (fun hc80 h => ?_) (fun hc80 h => ?_)
      · refine Wx.run ok kX6_about 27 1 (lv' := [(3, .inr (.inr q2.1)), (0, .inr (.inr (some v0))), (1, .inl v1), (2, .inl v2)]) (st' := [.inl (1 : Int32)]) (pc' := 84) rfl ?_
        refine Wx.jump ok kX6_about 28 (tgt := 88) rfl (by decide) ?_
        exact Wx.ireturn ok kX6_about 30 rfl hres h (by decide)
      · refine Wx.run ok kX6_about 29 1 (lv' := [(3, .inr (.inr q2.1)), (0, .inr (.inr (some v0))), (1, .inl v1), (2, .inl v2)]) (st' := [.inl (0 : Int32)]) (pc' := 88) rfl ?_
        exact Wx.ireturn ok kX6_about 30 rfl hres h (by decide)
    refine gIte h (fun hx h => ?_) (fun hx5 h => ?_)
    · refine Wx.swIn ok kX6_about 9 rfl (tgt := 89) (by rw [hx]; decide) (by rw [hx]; decide) (by rw [hx]; rfl) (by decide) ?_
      refine Wx.run ok kX6_about 31 1 (lv' := [(3, .inr (.inr q2.1)), (0, .inr (.inr (some v0))), (1, .inl v1), (2, .inl v2)]) (st' := [.inr (.inr q2.1)]) (pc' := 90) rfl ?_
      obtain ⟨a90, ha90, h⟩ := gob h
      obtain ⟨q90, hq90, h⟩ := gob h
      refine Wx.callV ok kX6_about 32 rfl lm_RX6_130 cd_X2_findMakers ha90 [] (some (.inl q90.1)) (aX2_findMakers _ _ hq90) (by decide) rfl (Nat.le_of_ble_eq_true rfl) rfl rfl ?_
      exact Wx.ireturn ok kX6_about 33 rfl hres h (by decide)
    refine Wx.swOut ok kX6_about 9 rfl (tgt := 94) (gSw v2 0 5 (by decide) (by decide) (fun j hj => match j, hj with
      | 0, _ => hx0
      | 1, _ => hx1
      | 2, _ => hx2
      | 3, _ => hx3
      | 4, _ => hx4
      | 5, _ => hx5
      | j + 6, hj => absurd hj (by omega))) (by decide) ?_
    refine Wx.run ok kX6_about 34 1 (lv' := [(3, .inr (.inr q2.1)), (0, .inr (.inr (some v0))), (1, .inl v1), (2, .inl v2)]) (st' := [.inl (-1 : Int32)]) (pc' := 95) rfl ?_
    exact Wx.ireturn ok kX6_about 35 rfl hres h (by decide)
set_option maxRecDepth 100000 in
set_option maxHeartbeats 4000000 in
theorem aX6_same_b55 {X : gX} (ok : gOk X cX6_same RX6 6 (some .int) rmX6_same) {res : Int32 × gW} (hres : gRs X (some (.int res.1)) res.2) {F : Nat} : ∀ (v0 : Nat) (v3 : Int32) (v4 : Option Nat) (v5 : Option Nat) (w : gW), mX6_same_b55 F v0 v3 v4 v5 w = some res → Wx X w 8 302 55 [(0, .inr (.inr (some v0))), (3, .inl v3), (4, .inr (.inr v4)), (5, .inr (.inr v5))] [] := by
  intro v0 v3 v4 v5 w h
  unfold mX6_same_b55 at h
  refine Wx.run ok kX6_same 27 1 (lv' := [(0, .inr (.inr (some v0))), (3, .inl v3), (4, .inr (.inr v4)), (5, .inr (.inr v5))]) (st' := [.inr (.inr (some v0))]) (pc' := 56) rfl ?_
  refine Wx.getR ok kX6_same 28 rfl lk_RX6_136_0 h (fun t56 h => ?_)
  refine Wx.run ok kX6_same 29 3 (lv' := [(0, .inr (.inr (some v0))), (3, .inl v3), (4, .inr (.inr v4)), (5, .inr (.inr v5))]) (st' := [.inl v3, .inr (.inr v5), .inr (.inr v4), .inr (.inr t56)]) (pc' := 64) rfl ?_
  obtain ⟨a64, ha64, h⟩ := gob h
  obtain ⟨q64, hq64, h⟩ := gob h
  refine Wx.callV ok kX6_same 32 rfl lm_RX6_143 cd_X3_search ha64 [.inr (.inr v4), .inr (.inr v5), .inl v3] (some (.inl q64.1)) (aX3_search _ _ hq64) (by decide) rfl (Nat.le_of_ble_eq_true rfl) rfl rfl ?_
  exact Wx.ireturn ok kX6_same 33 rfl hres h (by decide)
set_option maxRecDepth 100000 in
set_option maxHeartbeats 4000000 in
theorem aX6_same (l : Launch) (G : gG) {F : Nat} {v0 : Nat} {v1 : Int32} {v2 : Int32} {v3 : Int32} {w : gW} {res : Int32 × gW} (h : mX6_same F v0 v1 v2 v3 w = some res) : gM l yX6_same cX6_same 6 (some .int) rmX6_same G w (gTs [.inr (.inr (some v0)), .inl v1, .inl v2, .inl v3]) (some (.int res.1)) res.2 := by
  refine gM_of (y := yX6_same) (by decide +kernel) (Nat.le_of_ble_eq_true rfl) ?_
  intro X ok hl hG hres hnm
  subst hl; subst hG
  unfold mX6_same at h
  show Wx X w 0 0 0 [(0, .inr (.inr (some v0))), (1, .inl v1), (2, .inl v2), (3, .inl v3)] []
  refine Wx.run ok kX6_same 0 2 (lv' := [(0, .inr (.inr (some v0))), (1, .inl v1), (2, .inl v2), (3, .inl v3)]) (st' := [.inl v1, .inr (.inr (some v0))]) (pc' := 2) rfl ?_
  obtain ⟨a2, ha2, h⟩ := gob h
  obtain ⟨q2, hq2, h⟩ := gob h
  refine Wx.callV ok kX6_same 2 rfl lm_RX6_46 cd_X6_groupAt ha2 [.inl v1] (some (.inr (.inr q2.1))) (aX6_groupAt _ _ hq2) (by decide) rfl (Nat.le_of_ble_eq_true rfl) rfl rfl ?_
  refine Wx.run ok kX6_same 3 3 (lv' := [(4, .inr (.inr q2.1)), (0, .inr (.inr (some v0))), (1, .inl v1), (2, .inl v2), (3, .inl v3)]) (st' := [.inl v2, .inr (.inr (some v0))]) (pc' := 9) rfl ?_
  obtain ⟨a9, ha9, h⟩ := gob h
  obtain ⟨q9, hq9, h⟩ := gob h
  refine Wx.callV ok kX6_same 6 rfl lm_RX6_46 cd_X6_groupAt ha9 [.inl v2] (some (.inr (.inr q9.1))) (aX6_groupAt _ _ hq9) (by decide) rfl (Nat.le_of_ble_eq_true rfl) rfl rfl ?_
  refine Wx.run ok kX6_same 7 2 (lv' := [(5, .inr (.inr q9.1)), (4, .inr (.inr q2.1)), (0, .inr (.inr (some v0))), (1, .inl v1), (2, .inl v2), (3, .inl v3)]) (st' := [.inr (.inr q2.1)]) (pc' := 16) rfl ?_
  refine Wx.ifnull ok kX6_same 9 (tgt := 35) rfl (by decide) h (fun hc16 h => ?_) (fun hc16 h => ?_)
  · refine Wx.run ok kX6_same 17 1 (lv' := [(5, .inr (.inr q9.1)), (4, .inr (.inr q2.1)), (0, .inr (.inr (some v0))), (1, .inl v1), (2, .inl v2), (3, .inl v3)]) (st' := [.inl (-1 : Int32)]) (pc' := 36) rfl ?_
    exact Wx.ireturn ok kX6_same 18 rfl hres h (by decide)
  · refine Wx.run ok kX6_same 10 1 (lv' := [(5, .inr (.inr q9.1)), (4, .inr (.inr q2.1)), (0, .inr (.inr (some v0))), (1, .inl v1), (2, .inl v2), (3, .inl v3)]) (st' := [.inr (.inr q9.1)]) (pc' := 21) rfl ?_
    refine Wx.ifnull ok kX6_same 11 (tgt := 35) rfl (by decide) h (fun hc21 h => ?_) (fun hc21 h => ?_)
    · refine Wx.run ok kX6_same 17 1 (lv' := [(5, .inr (.inr q9.1)), (4, .inr (.inr q2.1)), (0, .inr (.inr (some v0))), (1, .inl v1), (2, .inl v2), (3, .inl v3)]) (st' := [.inl (-1 : Int32)]) (pc' := 36) rfl ?_
      exact Wx.ireturn ok kX6_same 18 rfl hres h (by decide)
    · refine Wx.run ok kX6_same 12 1 (lv' := [(5, .inr (.inr q9.1)), (4, .inr (.inr q2.1)), (0, .inr (.inr (some v0))), (1, .inl v1), (2, .inl v2), (3, .inl v3)]) (st' := [.inl v3]) (pc' := 25) rfl ?_
      refine Wx.if_lt ok kX6_same 13 (tgt := 35) rfl (by decide) h (fun hc25 h => ?_) (fun hc25 h => ?_)
      · refine Wx.run ok kX6_same 17 1 (lv' := [(5, .inr (.inr q9.1)), (4, .inr (.inr q2.1)), (0, .inr (.inr (some v0))), (1, .inl v1), (2, .inl v2), (3, .inl v3)]) (st' := [.inl (-1 : Int32)]) (pc' := 36) rfl ?_
        exact Wx.ireturn ok kX6_same 18 rfl hres h (by decide)
      · refine Wx.run ok kX6_same 14 2 (lv' := [(5, .inr (.inr q9.1)), (4, .inr (.inr q2.1)), (0, .inr (.inr (some v0))), (1, .inl v1), (2, .inl v2), (3, .inl v3)]) (st' := [.inl (20000 : Int32), .inl v3]) (pc' := 32) rfl ?_
        refine Wx.icmp_le ok kX6_same 16 (tgt := 37) rfl (by decide) h (fun hc32 h => ?_) (fun hc32 h => ?_)
        · refine Wx.run ok kX6_same 19 1 (lv' := [(5, .inr (.inr q9.1)), (4, .inr (.inr q2.1)), (0, .inr (.inr (some v0))), (1, .inl v1), (2, .inl v2), (3, .inl v3)]) (st' := [.inr (.inr (some v0))]) (pc' := 38) rfl ?_
          refine Wx.getR ok kX6_same 20 rfl lk_RX6_136_0 h (fun t38 h => ?_)
          refine Wx.ifnonnull ok kX6_same 21 (tgt := 55) rfl (by decide) h (fun hc41 h => ?_) (fun hc41 h => ?_)
          · refine Wx.run ok kX6_same 22 1 (lv' := [(5, .inr (.inr q9.1)), (4, .inr (.inr q2.1)), (0, .inr (.inr (some v0))), (1, .inl v1), (2, .inl v2), (3, .inl v3)]) (st' := [.inr (.inr (some v0))]) (pc' := 45) rfl ?_
            refine Wx.new ok kX6_same 23 rfl nw_RX6_140 (by decide) ?_
            refine Wx.run ok kX6_same 24 1 (lv' := [(5, .inr (.inr q9.1)), (4, .inr (.inr q2.1)), (0, .inr (.inr (some v0))), (1, .inl v1), (2, .inl v2), (3, .inl v3)]) (st' := [.inr (.inr (some q9.2.2)), .inr (.inr (some q9.2.2)), .inr (.inr (some v0))]) (pc' := 49) rfl ?_
            obtain ⟨q49, hq49, h⟩ := gob h
            refine Wx.callIN ok kX6_same 25 rfl lm_RX6_142 cd_X3_init [] (aX3_init _ _ hq49) (by decide) rfl (Nat.le_of_ble_eq_true rfl) rfl ?_
            refine Wx.put ok kX6_same 26 rfl lk_RX6_136_1 (gFit_o _ _) h (fun w52 h => ?_)
            refine Wx.sub [2, 5, 1, 0] rfl ?_
            exact aX6_same_b55 ok hres (F := F) _ _ _ _ _ h
          · refine Wx.sub [2, 5, 1, 0] rfl ?_
            refine Wx.widen (k := 8) (n := 302) (by decide) (by decide) ?_
            exact aX6_same_b55 ok hres (F := F) _ _ _ _ _ h
        · refine Wx.run ok kX6_same 17 1 (lv' := [(5, .inr (.inr q9.1)), (4, .inr (.inr q2.1)), (0, .inr (.inr (some v0))), (1, .inl v1), (2, .inl v2), (3, .inl v3)]) (st' := [.inl (-1 : Int32)]) (pc' := 36) rfl ?_
          exact Wx.ireturn ok kX6_same 18 rfl hres h (by decide)
set_option maxRecDepth 100000 in
set_option maxHeartbeats 4000000 in
theorem aX6_solve_b35 {X : gX} (ok : gOk X cX6_solve RX6 3 none rmX6_solve) {res : gW} (hres : gRs X none res) {F : Nat} : ∀ (v0 : Nat) (v1 : Option Nat) (w : gW), mX6_solve_b35 F v0 v1 w = some res → Wx X w 4 9806 35 [(0, .inr (.inr (some v0))), (1, .inr (.inr v1))] [] := by
  intro v0 v1 w h
  unfold mX6_solve_b35 at h
  refine Wx.run ok kX6_solve 16 1 (lv' := [(0, .inr (.inr (some v0))), (1, .inr (.inr v1))]) (st' := [.inr (.inr v1)]) (pc' := 36) rfl ?_
  refine Wx.getR ok kX6_solve 17 rfl lk_RX6_176_0 h (fun t36 h => ?_)
  refine Wx.run ok kX6_solve 18 4 (lv' := [(2, .inr (.inr t36)), (0, .inr (.inr (some v0))), (1, .inr (.inr v1))]) (st' := [.inr (.inr (some v0)), .inr (.inr v1), .inr (.inr t36)]) (pc' := 43) rfl ?_
  refine Wx.getR ok kX6_solve 22 rfl lk_RX6_227_0 h (fun t43 h => ?_)
  obtain ⟨a46, ha46, h⟩ := gob h
  obtain ⟨q46, hq46, h⟩ := gob h
  refine Wx.callV ok kX6_solve 23 rfl lm_RX6_232 cd_X5_findUnmoved ha46 [.inr (.inr v1), .inr (.inr t43)] none (aX5_findUnmoved _ _ hq46) (by decide) rfl (Nat.le_of_ble_eq_true rfl) rfl rfl ?_
  refine Wx.run ok kX6_solve 24 2 (lv' := [(2, .inr (.inr t36)), (0, .inr (.inr (some v0))), (1, .inr (.inr v1))]) (st' := [.inr (.inr v1), .inr (.inr t36)]) (pc' := 51) rfl ?_
  obtain ⟨a51, ha51, h⟩ := gob h
  obtain ⟨q51, hq51, h⟩ := gob h
  refine Wx.callV ok kX6_solve 26 rfl lm_RX6_236 cd_X5_findBounds ha51 [.inr (.inr v1)] none (aX5_findBounds _ _ hq51) (by decide) rfl (Nat.le_of_ble_eq_true rfl) rfl rfl ?_
  refine Wx.run ok kX6_solve 27 3 (lv' := [(2, .inr (.inr t36)), (0, .inr (.inr (some v0))), (1, .inr (.inr v1))]) (st' := [.inr (.inr (some v0)), .inr (.inr v1), .inr (.inr t36)]) (pc' := 57) rfl ?_
  refine Wx.getR ok kX6_solve 30 rfl lk_RX6_227_0 h (fun t57 h => ?_)
  obtain ⟨a60, ha60, h⟩ := gob h
  obtain ⟨q60, hq60, h⟩ := gob h
  refine Wx.callV ok kX6_solve 31 rfl lm_RX6_239 cd_X5_writeEquations ha60 [.inr (.inr v1), .inr (.inr t57)] none (aX5_writeEquations _ _ hq60) (by decide) rfl (Nat.le_of_ble_eq_true rfl) rfl rfl ?_
  refine Wx.run ok kX6_solve 32 3 (lv' := [(2, .inr (.inr t36)), (0, .inr (.inr (some v0))), (1, .inr (.inr v1))]) (st' := [.inr (.inr (some v0)), .inr (.inr v1), .inr (.inr t36)]) (pc' := 66) rfl ?_
  refine Wx.getR ok kX6_solve 35 rfl lk_RX6_227_0 h (fun t66 h => ?_)
  obtain ⟨a69, ha69, h⟩ := gob h
  obtain ⟨q69, hq69, h⟩ := gob h
  refine Wx.callV ok kX6_solve 36 rfl lm_RX6_242 cd_X5_findStandards ha69 [.inr (.inr v1), .inr (.inr t66)] none (aX5_findStandards _ _ hq69) (by decide) rfl (Nat.le_of_ble_eq_true rfl) rfl rfl ?_
  refine Wx.run ok kX6_solve 37 2 (lv' := [(2, .inr (.inr t36)), (0, .inr (.inr (some v0))), (1, .inr (.inr v1))]) (st' := [.inl (1 : Int32), .inr (.inr v1)]) (pc' := 74) rfl ?_
  refine Wx.put ok kX6_solve 39 rfl lk_RX6_172_1 gFit_z1 h (fun w74 h => ?_)
  exact Wx.vreturn ok kX6_solve 40 rfl hres h (by decide)
set_option maxRecDepth 100000 in
set_option maxHeartbeats 4000000 in
theorem aX6_solve (l : Launch) (G : gG) {F : Nat} {v0 : Nat} {v1 : Option Nat} {w : gW} {res : gW} (h : mX6_solve F v0 v1 w = some res) : gM l yX6_solve cX6_solve 3 none rmX6_solve G w (gTs [.inr (.inr (some v0)), .inr (.inr v1)]) none res := by
  refine gM_of (y := yX6_solve) (by decide +kernel) (Nat.le_of_ble_eq_true rfl) ?_
  intro X ok hl hG hres hnm
  subst hl; subst hG
  unfold mX6_solve at h
  show Wx X w 0 0 0 [(0, .inr (.inr (some v0))), (1, .inr (.inr v1))] []
  refine Wx.run ok kX6_solve 0 1 (lv' := [(0, .inr (.inr (some v0))), (1, .inr (.inr v1))]) (st' := [.inr (.inr v1)]) (pc' := 1) rfl ?_
  refine Wx.getI ok kX6_solve 1 rfl lk_RX6_172_0 h (fun t1 h => ?_)
  refine Wx.if_ne ok kX6_solve 2 (tgt := 14) rfl (by decide) h (fun hc4 h => ?_) (fun hc4 h => ?_)
  · refine Wx.run ok kX6_solve 3 1 (lv' := [(0, .inr (.inr (some v0))), (1, .inr (.inr v1))]) (st' := [.inr (.inr v1)]) (pc' := 8) rfl ?_
    obtain ⟨a8, ha8, h⟩ := gob h
    obtain ⟨q8, hq8, h⟩ := gob h
    refine Wx.callV ok kX6_solve 4 rfl lm_RX6_165 cd_X0_firstUnsound ha8 [] (some (.inl q8.1)) (aX0_firstUnsound _ _ hq8) (by decide) rfl (Nat.le_of_ble_eq_true rfl) rfl rfl ?_
    refine Wx.if_eq ok kX6_solve 5 (tgt := 15) rfl (by decide) h (fun hc11 h => ?_) (fun hc11 h => ?_)
    · refine Wx.run ok kX6_solve 7 1 (lv' := [(0, .inr (.inr (some v0))), (1, .inr (.inr v1))]) (st' := [.inr (.inr (some v0))]) (pc' := 16) rfl ?_
      refine Wx.getR ok kX6_solve 8 rfl lk_RX6_227_0 h (fun t16 h => ?_)
      refine Wx.ifnonnull ok kX6_solve 9 (tgt := 35) rfl (by decide) h (fun hc19 h => ?_) (fun hc19 h => ?_)
      · refine Wx.run ok kX6_solve 10 1 (lv' := [(0, .inr (.inr (some v0))), (1, .inr (.inr v1))]) (st' := [.inr (.inr (some v0))]) (pc' := 23) rfl ?_
        refine Wx.new ok kX6_solve 11 rfl nw_RX6_215 (by decide) ?_
        refine Wx.run ok kX6_solve 12 2 (lv' := [(0, .inr (.inr (some v0))), (1, .inr (.inr v1))]) (st' := [.inl (98 : Int32), .inr (.inr (some q8.2.2)), .inr (.inr (some q8.2.2)), .inr (.inr (some v0))]) (pc' := 29) rfl ?_
        obtain ⟨q29, hq29, h⟩ := gob h
        refine Wx.callI ok kX6_solve 14 rfl lm_RX6_230 cd_X1_init [.inl (98 : Int32)] (aX1_init _ _ (by decide) hq29) (by decide) rfl (Nat.le_of_ble_eq_true rfl) rfl ?_
        refine Wx.put ok kX6_solve 15 rfl lk_RX6_227_1 (gFit_o _ _) h (fun w32 h => ?_)
        exact aX6_solve_b35 ok hres (F := F) _ _ _ h
      · refine Wx.widen (k := 4) (n := 9806) (by decide) (by decide) ?_
        exact aX6_solve_b35 ok hres (F := F) _ _ _ h
    · exact Wx.vreturn ok kX6_solve 6 rfl hres h (by decide)
  · exact Wx.vreturn ok kX6_solve 6 rfl hres h (by decide)
set_option maxRecDepth 100000 in
set_option maxHeartbeats 4000000 in
theorem aX6_classOf (l : Launch) (G : gG) {F : Nat} {v0 : Nat} {v1 : Int32} {v2 : Int32} {v3 : Int32} {w : gW} {res : Int32 × gW} (h : mX6_classOf F v0 v1 v2 v3 w = some res) : gM l yX6_classOf cX6_classOf 7 (some .int) rmX6_classOf G w (gTs [.inr (.inr (some v0)), .inl v1, .inl v2, .inl v3]) (some (.int res.1)) res.2 := by
  refine gM_of (y := yX6_classOf) (by decide +kernel) (Nat.le_of_ble_eq_true rfl) ?_
  intro X ok hl hG hres hnm
  subst hl; subst hG
  unfold mX6_classOf at h
  show Wx X w 0 0 0 [(0, .inr (.inr (some v0))), (1, .inl v1), (2, .inl v2), (3, .inl v3)] []
  refine Wx.run ok kX6_classOf 0 2 (lv' := [(0, .inr (.inr (some v0))), (1, .inl v1), (2, .inl v2), (3, .inl v3)]) (st' := [.inl v1, .inr (.inr (some v0))]) (pc' := 2) rfl ?_
  obtain ⟨a2, ha2, h⟩ := gob h
  obtain ⟨q2, hq2, h⟩ := gob h
  refine Wx.callV ok kX6_classOf 2 rfl lm_RX6_152 cd_X6_actionAt ha2 [.inl v1] (some (.inr (.inr q2.1))) (aX6_actionAt _ _ hq2) (by decide) rfl (Nat.le_of_ble_eq_true rfl) rfl rfl ?_
  refine Wx.run ok kX6_classOf 3 3 (lv' := [(4, .inr (.inr q2.1)), (0, .inr (.inr (some v0))), (1, .inl v1), (2, .inl v2), (3, .inl v3)]) (st' := [.inl v2, .inr (.inr (some v0))]) (pc' := 9) rfl ?_
  obtain ⟨a9, ha9, h⟩ := gob h
  obtain ⟨q9, hq9, h⟩ := gob h
  refine Wx.callV ok kX6_classOf 6 rfl lm_RX6_58 cd_X6_sheetAt ha9 [.inl v2] (some (.inr (.inr q9.1))) (aX6_sheetAt _ _ hq9) (by decide) rfl (Nat.le_of_ble_eq_true rfl) rfl rfl ?_
  refine Wx.run ok kX6_classOf 7 2 (lv' := [(5, .inr (.inr q9.1)), (4, .inr (.inr q2.1)), (0, .inr (.inr (some v0))), (1, .inl v1), (2, .inl v2), (3, .inl v3)]) (st' := [.inr (.inr q2.1)]) (pc' := 16) rfl ?_
  refine Wx.ifnull ok kX6_classOf 9 (tgt := 31) rfl (by decide) h (fun hc16 h => ?_) (fun hc16 h => ?_)
  · refine Wx.run ok kX6_classOf 15 1 (lv' := [(5, .inr (.inr q9.1)), (4, .inr (.inr q2.1)), (0, .inr (.inr (some v0))), (1, .inl v1), (2, .inl v2), (3, .inl v3)]) (st' := [.inl (-1 : Int32)]) (pc' := 32) rfl ?_
    exact Wx.ireturn ok kX6_classOf 16 rfl hres h (by decide)
  · refine Wx.run ok kX6_classOf 10 1 (lv' := [(5, .inr (.inr q9.1)), (4, .inr (.inr q2.1)), (0, .inr (.inr (some v0))), (1, .inl v1), (2, .inl v2), (3, .inl v3)]) (st' := [.inr (.inr q9.1)]) (pc' := 21) rfl ?_
    refine Wx.ifnull ok kX6_classOf 11 (tgt := 31) rfl (by decide) h (fun hc21 h => ?_) (fun hc21 h => ?_)
    · refine Wx.run ok kX6_classOf 15 1 (lv' := [(5, .inr (.inr q9.1)), (4, .inr (.inr q2.1)), (0, .inr (.inr (some v0))), (1, .inl v1), (2, .inl v2), (3, .inl v3)]) (st' := [.inl (-1 : Int32)]) (pc' := 32) rfl ?_
      exact Wx.ireturn ok kX6_classOf 16 rfl hres h (by decide)
    · refine Wx.run ok kX6_classOf 12 1 (lv' := [(5, .inr (.inr q9.1)), (4, .inr (.inr q2.1)), (0, .inr (.inr (some v0))), (1, .inl v1), (2, .inl v2), (3, .inl v3)]) (st' := [.inl v3]) (pc' := 25) rfl ?_
      obtain ⟨q25, hq25, h⟩ := gob h
      refine Wx.callS ok kX6_classOf 13 rfl lm_RX6_62 cd_X6_isLane [.inl v3] (some (.inl q25.1)) (aX6_isLane _ _ hq25) (by decide) rfl (Nat.le_of_ble_eq_true rfl) rfl rfl ?_
      refine Wx.if_ne ok kX6_classOf 14 (tgt := 33) rfl (by decide) h (fun hc28 h => ?_) (fun hc28 h => ?_)
      · refine Wx.run ok kX6_classOf 15 1 (lv' := [(5, .inr (.inr q9.1)), (4, .inr (.inr q2.1)), (0, .inr (.inr (some v0))), (1, .inl v1), (2, .inl v2), (3, .inl v3)]) (st' := [.inl (-1 : Int32)]) (pc' := 32) rfl ?_
        exact Wx.ireturn ok kX6_classOf 16 rfl hres h (by decide)
      · refine Wx.run ok kX6_classOf 17 2 (lv' := [(5, .inr (.inr q9.1)), (4, .inr (.inr q2.1)), (0, .inr (.inr (some v0))), (1, .inl v1), (2, .inl v2), (3, .inl v3)]) (st' := [.inr (.inr q2.1), .inr (.inr (some v0))]) (pc' := 36) rfl ?_
        obtain ⟨a36, ha36, h⟩ := gob h
        obtain ⟨q36, hq36, h⟩ := gob h
        refine Wx.callV ok kX6_classOf 19 rfl lm_RX6_168 cd_X6_solve ha36 [.inr (.inr q2.1)] none (aX6_solve _ _ hq36) (by decide) rfl (Nat.le_of_ble_eq_true rfl) rfl rfl ?_
        refine Wx.run ok kX6_classOf 20 1 (lv' := [(5, .inr (.inr q9.1)), (4, .inr (.inr q2.1)), (0, .inr (.inr (some v0))), (1, .inl v1), (2, .inl v2), (3, .inl v3)]) (st' := [.inr (.inr q2.1)]) (pc' := 41) rfl ?_
        refine Wx.getI ok kX6_classOf 21 rfl lk_RX6_172_0 h (fun t41 h => ?_)
        refine Wx.if_ne ok kX6_classOf 22 (tgt := 50) rfl (by decide) h (fun hc44 h => ?_) (fun hc44 h => ?_)
        · refine Wx.run ok kX6_classOf 23 1 (lv' := [(5, .inr (.inr q9.1)), (4, .inr (.inr q2.1)), (0, .inr (.inr (some v0))), (1, .inl v1), (2, .inl v2), (3, .inl v3)]) (st' := [.inl (-2 : Int32)]) (pc' := 49) rfl ?_
          exact Wx.ireturn ok kX6_classOf 24 rfl hres h (by decide)
        · refine Wx.run ok kX6_classOf 25 3 (lv' := [(5, .inr (.inr q9.1)), (4, .inr (.inr q2.1)), (0, .inr (.inr (some v0))), (1, .inl v1), (2, .inl v2), (3, .inl v3)]) (st' := [.inr (.inr q2.1), .inl v3, .inr (.inr q9.1)]) (pc' := 55) rfl ?_
          refine Wx.getI ok kX6_classOf 28 rfl lk_RX6_159_0 h (fun t55 h => ?_)
          refine Wx.run ok kX6_classOf 29 1 (lv' := [(5, .inr (.inr q9.1)), (4, .inr (.inr q2.1)), (0, .inr (.inr (some v0))), (1, .inl v1), (2, .inl v2), (3, .inl v3)]) (st' := [.inr (.inr q2.1), .inl t55, .inl v3, .inr (.inr q9.1)]) (pc' := 60) rfl ?_
          refine Wx.getR ok kX6_classOf 30 rfl lk_RX6_93_0 h (fun t60 h => ?_)
          refine Wx.getI ok kX6_classOf 31 rfl lk_RX6_50_0 h (fun t63 h => ?_)
          refine Wx.run ok kX6_classOf 32 2 (lv' := [(5, .inr (.inr q9.1)), (4, .inr (.inr q2.1)), (0, .inr (.inr (some v0))), (1, .inl v1), (2, .inl v2), (3, .inl v3)]) (st' := [.inr (.inr q2.1), .inl (t55 * t63), .inl v3, .inr (.inr q9.1)]) (pc' := 69) rfl ?_
          refine Wx.getR ok kX6_classOf 34 rfl lk_RX6_93_0 h (fun t69 h => ?_)
          refine Wx.getI ok kX6_classOf 35 rfl lk_RX6_50_0 h (fun t72 h => ?_)
          refine Wx.run ok kX6_classOf 36 1 (lv' := [(5, .inr (.inr q9.1)), (4, .inr (.inr q2.1)), (0, .inr (.inr (some v0))), (1, .inl v1), (2, .inl v2), (3, .inl v3)]) (st' := [.inl ((t55 * t63) * t72), .inl v3, .inr (.inr q9.1)]) (pc' := 76) rfl ?_
          obtain ⟨a76, ha76, h⟩ := gob h
          obtain ⟨q76, hq76, h⟩ := gob h
          refine Wx.callV ok kX6_classOf 37 rfl lm_RX6_79 cd_X4_faultOfReading ha76 [.inl v3, .inl ((t55 * t63) * t72)] (some (.inl q76.1)) (aX4_faultOfReading _ _ hq76) (by decide) rfl (Nat.le_of_ble_eq_true rfl) rfl rfl ?_
          refine Wx.run ok kX6_classOf 38 2 (lv' := [(6, .inl q76.1), (5, .inr (.inr q9.1)), (4, .inr (.inr q2.1)), (0, .inr (.inr (some v0))), (1, .inl v1), (2, .inl v2), (3, .inl v3)]) (st' := [.inl q76.1]) (pc' := 83) rfl ?_
          refine Wx.if_eq ok kX6_classOf 40 (tgt := 92) rfl (by decide) h (fun hc83 h => ?_) (fun hc83 h => ?_)
          · refine Wx.run ok kX6_classOf 45 1 (lv' := [(6, .inl q76.1), (5, .inr (.inr q9.1)), (4, .inr (.inr q2.1)), (0, .inr (.inr (some v0))), (1, .inl v1), (2, .inl v2), (3, .inl v3)]) (st' := [.inr (.inr q2.1)]) (pc' := 94) rfl ?_
            refine Wx.getR ok kX6_classOf 46 rfl lk_RX6_176_0 h (fun t94 h => ?_)
            refine Wx.run ok kX6_classOf 47 2 (lv' := [(6, .inl q76.1), (5, .inr (.inr q9.1)), (4, .inr (.inr q2.1)), (0, .inr (.inr (some v0))), (1, .inl v1), (2, .inl v2), (3, .inl v3)]) (st' := [.inr (.inr q9.1), .inr (.inr q2.1), .inr (.inr t94)]) (pc' := 101) rfl ?_
            obtain ⟨a101, ha101, h⟩ := gob h
            obtain ⟨q101, hq101, h⟩ := gob h
            refine Wx.callV ok kX6_classOf 49 rfl lm_RX6_200 cd_X5_classRead ha101 [.inr (.inr q2.1), .inr (.inr q9.1)] (some (.inl q101.1)) (aX5_classRead _ _ hq101) (by decide) rfl (Nat.le_of_ble_eq_true rfl) rfl rfl ?_
            exact Wx.ireturn ok kX6_classOf 50 rfl hres h (by decide)
          · refine Wx.run ok kX6_classOf 41 3 (lv' := [(6, .inl q76.1), (5, .inr (.inr q9.1)), (4, .inr (.inr q2.1)), (0, .inr (.inr (some v0))), (1, .inl v1), (2, .inl v2), (3, .inl v3)]) (st' := [.inl ((-10 : Int32) - q76.1)]) (pc' := 91) rfl ?_
            exact Wx.ireturn ok kX6_classOf 44 rfl hres h (by decide)
set_option maxRecDepth 100000 in
set_option maxHeartbeats 4000000 in
theorem aX6_dimension (l : Launch) (G : gG) {F : Nat} {v0 : Nat} {v1 : Int32} {v2 : Int32} {w : gW} {res : Int32 × gW} (h : mX6_dimension F v0 v1 v2 w = some res) : gM l yX6_dimension cX6_dimension 4 (some .int) rmX6_dimension G w (gTs [.inr (.inr (some v0)), .inl v1, .inl v2]) (some (.int res.1)) res.2 := by
  refine gM_of (y := yX6_dimension) (by decide +kernel) (Nat.le_of_ble_eq_true rfl) ?_
  intro X ok hl hG hres hnm
  subst hl; subst hG
  unfold mX6_dimension at h
  show Wx X w 0 0 0 [(0, .inr (.inr (some v0))), (1, .inl v1), (2, .inl v2)] []
  refine Wx.run ok kX6_dimension 0 2 (lv' := [(0, .inr (.inr (some v0))), (1, .inl v1), (2, .inl v2)]) (st' := [.inl v1, .inr (.inr (some v0))]) (pc' := 2) rfl ?_
  obtain ⟨a2, ha2, h⟩ := gob h
  obtain ⟨q2, hq2, h⟩ := gob h
  refine Wx.callV ok kX6_dimension 2 rfl lm_RX6_152 cd_X6_actionAt ha2 [.inl v1] (some (.inr (.inr q2.1))) (aX6_actionAt _ _ hq2) (by decide) rfl (Nat.le_of_ble_eq_true rfl) rfl rfl ?_
  refine Wx.run ok kX6_dimension 3 2 (lv' := [(3, .inr (.inr q2.1)), (0, .inr (.inr (some v0))), (1, .inl v1), (2, .inl v2)]) (st' := [.inr (.inr q2.1)]) (pc' := 7) rfl ?_
  refine Wx.ifnull ok kX6_dimension 5 (tgt := 20) rfl (by decide) h (fun hc7 h => ?_) (fun hc7 h => ?_)
  · refine Wx.run ok kX6_dimension 11 1 (lv' := [(3, .inr (.inr q2.1)), (0, .inr (.inr (some v0))), (1, .inl v1), (2, .inl v2)]) (st' := [.inl (-1 : Int32)]) (pc' := 21) rfl ?_
    exact Wx.ireturn ok kX6_dimension 12 rfl hres h (by decide)
  · refine Wx.run ok kX6_dimension 6 1 (lv' := [(3, .inr (.inr q2.1)), (0, .inr (.inr (some v0))), (1, .inl v1), (2, .inl v2)]) (st' := [.inl v2]) (pc' := 11) rfl ?_
    refine Wx.if_lt ok kX6_dimension 7 (tgt := 20) rfl (by decide) h (fun hc11 h => ?_) (fun hc11 h => ?_)
    · refine Wx.run ok kX6_dimension 11 1 (lv' := [(3, .inr (.inr q2.1)), (0, .inr (.inr (some v0))), (1, .inl v1), (2, .inl v2)]) (st' := [.inl (-1 : Int32)]) (pc' := 21) rfl ?_
      exact Wx.ireturn ok kX6_dimension 12 rfl hres h (by decide)
    · refine Wx.run ok kX6_dimension 8 2 (lv' := [(3, .inr (.inr q2.1)), (0, .inr (.inr (some v0))), (1, .inl v1), (2, .inl v2)]) (st' := [.inl (6 : Int32), .inl v2]) (pc' := 17) rfl ?_
      refine Wx.icmp_le ok kX6_dimension 10 (tgt := 22) rfl (by decide) h (fun hc17 h => ?_) (fun hc17 h => ?_)
      · refine Wx.run ok kX6_dimension 13 2 (lv' := [(3, .inr (.inr q2.1)), (0, .inr (.inr (some v0))), (1, .inl v1), (2, .inl v2)]) (st' := [.inr (.inr q2.1), .inr (.inr (some v0))]) (pc' := 24) rfl ?_
        obtain ⟨a24, ha24, h⟩ := gob h
        obtain ⟨q24, hq24, h⟩ := gob h
        refine Wx.callV ok kX6_dimension 15 rfl lm_RX6_168 cd_X6_solve ha24 [.inr (.inr q2.1)] none (aX6_solve _ _ hq24) (by decide) rfl (Nat.le_of_ble_eq_true rfl) rfl rfl ?_
        refine Wx.run ok kX6_dimension 16 1 (lv' := [(3, .inr (.inr q2.1)), (0, .inr (.inr (some v0))), (1, .inl v1), (2, .inl v2)]) (st' := [.inr (.inr q2.1)]) (pc' := 28) rfl ?_
        refine Wx.getI ok kX6_dimension 17 rfl lk_RX6_172_0 h (fun t28 h => ?_)
        refine Wx.if_eq ok kX6_dimension 18 (tgt := 45) rfl (by decide) h (fun hc31 h => ?_) (fun hc31 h => ?_)
        · refine Wx.run ok kX6_dimension 24 1 (lv' := [(3, .inr (.inr q2.1)), (0, .inr (.inr (some v0))), (1, .inl v1), (2, .inl v2)]) (st' := [.inl (-2 : Int32)]) (pc' := 47) rfl ?_
          exact Wx.ireturn ok kX6_dimension 25 rfl hres h (by decide)
        · refine Wx.run ok kX6_dimension 19 1 (lv' := [(3, .inr (.inr q2.1)), (0, .inr (.inr (some v0))), (1, .inl v1), (2, .inl v2)]) (st' := [.inr (.inr q2.1)]) (pc' := 35) rfl ?_
          refine Wx.getR ok kX6_dimension 20 rfl lk_RX6_176_0 h (fun t35 h => ?_)
          refine Wx.run ok kX6_dimension 21 1 (lv' := [(3, .inr (.inr q2.1)), (0, .inr (.inr (some v0))), (1, .inl v1), (2, .inl v2)]) (st' := [.inl v2, .inr (.inr t35)]) (pc' := 39) rfl ?_
          obtain ⟨a39, ha39, h⟩ := gob h
          obtain ⟨q39, hq39, h⟩ := gob h
          refine Wx.callV ok kX6_dimension 22 rfl lm_RX6_180 cd_X5_dimensionOf ha39 [.inl v2] (some (.inl q39.1)) (aX5_dimensionOf _ _ hq39) (by decide) rfl (Nat.le_of_ble_eq_true rfl) rfl rfl ?_
          refine Wx.jump ok kX6_dimension 23 (tgt := 47) rfl (by decide) ?_
          exact Wx.ireturn ok kX6_dimension 25 rfl hres h (by decide)
      · refine Wx.run ok kX6_dimension 11 1 (lv' := [(3, .inr (.inr q2.1)), (0, .inr (.inr (some v0))), (1, .inl v1), (2, .inl v2)]) (st' := [.inl (-1 : Int32)]) (pc' := 21) rfl ?_
        exact Wx.ireturn ok kX6_dimension 12 rfl hres h (by decide)
set_option maxRecDepth 100000 in
set_option maxHeartbeats 4000000 in
theorem aX6_over (l : Launch) (G : gG) {F : Nat} {v0 : Nat} {v1 : Int32} {v2 : Int32} {w : gW} {res : Int32 × gW} (h : mX6_over F v0 v1 v2 w = some res) : gM l yX6_over cX6_over 6 (some .int) rmX6_over G w (gTs [.inr (.inr (some v0)), .inl v1, .inl v2]) (some (.int res.1)) res.2 := by
  refine gM_of (y := yX6_over) (by decide +kernel) (Nat.le_of_ble_eq_true rfl) ?_
  intro X ok hl hG hres hnm
  subst hl; subst hG
  unfold mX6_over at h
  show Wx X w 0 0 0 [(0, .inr (.inr (some v0))), (1, .inl v1), (2, .inl v2)] []
  refine Wx.run ok kX6_over 0 2 (lv' := [(0, .inr (.inr (some v0))), (1, .inl v1), (2, .inl v2)]) (st' := [.inl v1, .inr (.inr (some v0))]) (pc' := 2) rfl ?_
  obtain ⟨a2, ha2, h⟩ := gob h
  obtain ⟨q2, hq2, h⟩ := gob h
  refine Wx.callV ok kX6_over 2 rfl lm_RX6_152 cd_X6_actionAt ha2 [.inl v1] (some (.inr (.inr q2.1))) (aX6_actionAt _ _ hq2) (by decide) rfl (Nat.le_of_ble_eq_true rfl) rfl rfl ?_
  refine Wx.run ok kX6_over 3 2 (lv' := [(3, .inr (.inr q2.1)), (0, .inr (.inr (some v0))), (1, .inl v1), (2, .inl v2)]) (st' := [.inr (.inr q2.1)]) (pc' := 7) rfl ?_
  refine Wx.ifnonnull ok kX6_over 5 (tgt := 12) rfl (by decide) h (fun hc7 h => ?_) (fun hc7 h => ?_)
  · refine Wx.run ok kX6_over 6 1 (lv' := [(3, .inr (.inr q2.1)), (0, .inr (.inr (some v0))), (1, .inl v1), (2, .inl v2)]) (st' := [.inl (-1 : Int32)]) (pc' := 11) rfl ?_
    exact Wx.ireturn ok kX6_over 7 rfl hres h (by decide)
  · refine Wx.run ok kX6_over 8 2 (lv' := [(3, .inr (.inr q2.1)), (0, .inr (.inr (some v0))), (1, .inl v1), (2, .inl v2)]) (st' := [.inr (.inr q2.1), .inr (.inr (some v0))]) (pc' := 14) rfl ?_
    obtain ⟨a14, ha14, h⟩ := gob h
    obtain ⟨q14, hq14, h⟩ := gob h
    refine Wx.callV ok kX6_over 10 rfl lm_RX6_168 cd_X6_solve ha14 [.inr (.inr q2.1)] none (aX6_solve _ _ hq14) (by decide) rfl (Nat.le_of_ble_eq_true rfl) rfl rfl ?_
    refine Wx.run ok kX6_over 11 2 (lv' := [(3, .inr (.inr q2.1)), (0, .inr (.inr (some v0))), (1, .inl v1), (2, .inl v2)]) (st' := [.inl v2, .inr (.inr q2.1)]) (pc' := 19) rfl ?_
    obtain ⟨q19, hq19, h⟩ := gob h
    refine Wx.callS ok kX6_over 13 rfl lm_RX6_185 cd_X6_refusalOf [.inr (.inr q2.1), .inl v2] (some (.inl q19.1)) (aX6_refusalOf _ _ hq19) (by decide) rfl (Nat.le_of_ble_eq_true rfl) rfl rfl ?_
    refine Wx.run ok kX6_over 14 2 (lv' := [(4, .inl q19.1), (3, .inr (.inr q2.1)), (0, .inr (.inr (some v0))), (1, .inl v1), (2, .inl v2)]) (st' := [.inl q19.1]) (pc' := 26) rfl ?_
    refine Wx.if_eq ok kX6_over 16 (tgt := 32) rfl (by decide) h (fun hc26 h => ?_) (fun hc26 h => ?_)
    · refine Wx.run ok kX6_over 19 1 (lv' := [(4, .inl q19.1), (3, .inr (.inr q2.1)), (0, .inr (.inr (some v0))), (1, .inl v1), (2, .inl v2)]) (st' := [.inr (.inr q2.1)]) (pc' := 33) rfl ?_
      refine Wx.getI ok kX6_over 20 rfl lk_RX6_193_0 h (fun t33 h => ?_)
      refine Wx.run ok kX6_over 21 1 (lv' := [(4, .inl q19.1), (3, .inr (.inr q2.1)), (0, .inr (.inr (some v0))), (1, .inl v1), (2, .inl v2)]) (st' := [.inr (.inr q2.1), .inl t33]) (pc' := 37) rfl ?_
      refine Wx.getR ok kX6_over 22 rfl lk_RX6_93_0 h (fun t37 h => ?_)
      refine Wx.getI ok kX6_over 23 rfl lk_RX6_50_0 h (fun t40 h => ?_)
      refine Wx.run ok kX6_over 24 2 (lv' := [(4, .inl q19.1), (3, .inr (.inr q2.1)), (0, .inr (.inr (some v0))), (1, .inl v1), (2, .inl v2)]) (st' := [.inl (48 : Int32), .inl (t33 * t40)]) (pc' := 46) rfl ?_
      refine Wx.icmp_le ok kX6_over 26 (tgt := 52) rfl (by decide) h (fun hc46 h => ?_) (fun hc46 h => ?_)
      · refine Wx.run ok kX6_over 29 1 (lv' := [(4, .inl q19.1), (3, .inr (.inr q2.1)), (0, .inr (.inr (some v0))), (1, .inl v1), (2, .inl v2)]) (st' := [.inr (.inr (some v0))]) (pc' := 53) rfl ?_
        obtain ⟨a53, ha53, h⟩ := gob h
        obtain ⟨q53, hq53, h⟩ := gob h
        refine Wx.callV ok kX6_over 30 rfl lm_RX6_28 cd_X6_spareGroup ha53 [] (some (.inr (.inr q53.1))) (aX6_spareGroup _ _ hq53) (by decide) rfl (Nat.le_of_ble_eq_true rfl) rfl rfl ?_
        refine Wx.run ok kX6_over 31 2 (lv' := [(5, .inr (.inr q53.1)), (4, .inl q19.1), (3, .inr (.inr q2.1)), (0, .inr (.inr (some v0))), (1, .inl v1), (2, .inl v2)]) (st' := [.inr (.inr q53.1)]) (pc' := 60) rfl ?_
        refine Wx.ifnonnull ok kX6_over 33 (tgt := 66) rfl (by decide) h (fun hc60 h => ?_) (fun hc60 h => ?_)
        · refine Wx.run ok kX6_over 34 1 (lv' := [(5, .inr (.inr q53.1)), (4, .inl q19.1), (3, .inr (.inr q2.1)), (0, .inr (.inr (some v0))), (1, .inl v1), (2, .inl v2)]) (st' := [.inl (-3 : Int32)]) (pc' := 65) rfl ?_
          exact Wx.ireturn ok kX6_over 35 rfl hres h (by decide)
        · refine Wx.run ok kX6_over 36 3 (lv' := [(5, .inr (.inr q53.1)), (4, .inl q19.1), (3, .inr (.inr q2.1)), (0, .inr (.inr (some v0))), (1, .inl v1), (2, .inl v2)]) (st' := [.inl v2, .inr (.inr q2.1), .inr (.inr q53.1)]) (pc' := 70) rfl ?_
          obtain ⟨a70, ha70, h⟩ := gob h
          obtain ⟨q70, hq70, h⟩ := gob h
          refine Wx.callV ok kX6_over 39 rfl lm_RX6_196 cd_X2_fillOver ha70 [.inr (.inr q2.1), .inl v2] none (aX2_fillOver _ _ hq70) (by decide) rfl (Nat.le_of_ble_eq_true rfl) rfl rfl ?_
          refine Wx.run ok kX6_over 40 2 (lv' := [(5, .inr (.inr q53.1)), (4, .inl q19.1), (3, .inr (.inr q2.1)), (0, .inr (.inr (some v0))), (1, .inl v1), (2, .inl v2)]) (st' := [.inr (.inr q53.1), .inr (.inr (some v0))]) (pc' := 76) rfl ?_
          obtain ⟨a76, ha76, h⟩ := gob h
          obtain ⟨q76, hq76, h⟩ := gob h
          refine Wx.callV ok kX6_over 42 rfl lm_RX6_36 cd_X6_keep ha76 [.inr (.inr q53.1)] (some (.inl q76.1)) (aX6_keep _ _ hq76) (by decide) rfl (Nat.le_of_ble_eq_true rfl) rfl rfl ?_
          exact Wx.ireturn ok kX6_over 43 rfl hres h (by decide)
      · refine Wx.run ok kX6_over 27 1 (lv' := [(4, .inl q19.1), (3, .inr (.inr q2.1)), (0, .inr (.inr (some v0))), (1, .inl v1), (2, .inl v2)]) (st' := [.inl (-3 : Int32)]) (pc' := 51) rfl ?_
        exact Wx.ireturn ok kX6_over 28 rfl hres h (by decide)
    · refine Wx.run ok kX6_over 17 1 (lv' := [(4, .inl q19.1), (3, .inr (.inr q2.1)), (0, .inr (.inr (some v0))), (1, .inl v1), (2, .inl v2)]) (st' := [.inl q19.1]) (pc' := 31) rfl ?_
      exact Wx.ireturn ok kX6_over 18 rfl hres h (by decide)
set_option maxRecDepth 100000 in
set_option maxHeartbeats 4000000 in
theorem aX6_parts (l : Launch) (G : gG) {F : Nat} {v0 : Nat} {v1 : Int32} {v2 : Int32} {w : gW} {res : Int32 × gW} (h : mX6_parts F v0 v1 v2 w = some res) : gM l yX6_parts cX6_parts 5 (some .int) rmX6_parts G w (gTs [.inr (.inr (some v0)), .inl v1, .inl v2]) (some (.int res.1)) res.2 := by
  refine gM_of (y := yX6_parts) (by decide +kernel) (Nat.le_of_ble_eq_true rfl) ?_
  intro X ok hl hG hres hnm
  subst hl; subst hG
  unfold mX6_parts at h
  show Wx X w 0 0 0 [(0, .inr (.inr (some v0))), (1, .inl v1), (2, .inl v2)] []
  refine Wx.run ok kX6_parts 0 2 (lv' := [(0, .inr (.inr (some v0))), (1, .inl v1), (2, .inl v2)]) (st' := [.inl v1, .inr (.inr (some v0))]) (pc' := 2) rfl ?_
  obtain ⟨a2, ha2, h⟩ := gob h
  obtain ⟨q2, hq2, h⟩ := gob h
  refine Wx.callV ok kX6_parts 2 rfl lm_RX6_152 cd_X6_actionAt ha2 [.inl v1] (some (.inr (.inr q2.1))) (aX6_actionAt _ _ hq2) (by decide) rfl (Nat.le_of_ble_eq_true rfl) rfl rfl ?_
  refine Wx.run ok kX6_parts 3 2 (lv' := [(3, .inr (.inr q2.1)), (0, .inr (.inr (some v0))), (1, .inl v1), (2, .inl v2)]) (st' := [.inr (.inr q2.1)]) (pc' := 7) rfl ?_
  refine Wx.ifnonnull ok kX6_parts 5 (tgt := 12) rfl (by decide) h (fun hc7 h => ?_) (fun hc7 h => ?_)
  · refine Wx.run ok kX6_parts 6 1 (lv' := [(3, .inr (.inr q2.1)), (0, .inr (.inr (some v0))), (1, .inl v1), (2, .inl v2)]) (st' := [.inl (-1 : Int32)]) (pc' := 11) rfl ?_
    exact Wx.ireturn ok kX6_parts 7 rfl hres h (by decide)
  · refine Wx.run ok kX6_parts 8 2 (lv' := [(3, .inr (.inr q2.1)), (0, .inr (.inr (some v0))), (1, .inl v1), (2, .inl v2)]) (st' := [.inr (.inr q2.1), .inr (.inr (some v0))]) (pc' := 14) rfl ?_
    obtain ⟨a14, ha14, h⟩ := gob h
    obtain ⟨q14, hq14, h⟩ := gob h
    refine Wx.callV ok kX6_parts 10 rfl lm_RX6_168 cd_X6_solve ha14 [.inr (.inr q2.1)] none (aX6_solve _ _ hq14) (by decide) rfl (Nat.le_of_ble_eq_true rfl) rfl rfl ?_
    refine Wx.run ok kX6_parts 11 2 (lv' := [(3, .inr (.inr q2.1)), (0, .inr (.inr (some v0))), (1, .inl v1), (2, .inl v2)]) (st' := [.inl v2, .inr (.inr q2.1)]) (pc' := 19) rfl ?_
    obtain ⟨q19, hq19, h⟩ := gob h
    refine Wx.callS ok kX6_parts 13 rfl lm_RX6_185 cd_X6_refusalOf [.inr (.inr q2.1), .inl v2] (some (.inl q19.1)) (aX6_refusalOf _ _ hq19) (by decide) rfl (Nat.le_of_ble_eq_true rfl) rfl rfl ?_
    refine Wx.run ok kX6_parts 14 2 (lv' := [(4, .inl q19.1), (3, .inr (.inr q2.1)), (0, .inr (.inr (some v0))), (1, .inl v1), (2, .inl v2)]) (st' := [.inl q19.1]) (pc' := 26) rfl ?_
    refine Wx.if_eq ok kX6_parts 16 (tgt := 32) rfl (by decide) h (fun hc26 h => ?_) (fun hc26 h => ?_)
    · refine Wx.run ok kX6_parts 19 1 (lv' := [(4, .inl q19.1), (3, .inr (.inr q2.1)), (0, .inr (.inr (some v0))), (1, .inl v1), (2, .inl v2)]) (st' := [.inl v2]) (pc' := 33) rfl ?_
      refine Wx.if_ne ok kX6_parts 20 (tgt := 54) rfl (by decide) h (fun hc33 h => ?_) (fun hc33 h => ?_)
      · refine Wx.run ok kX6_parts 21 1 (lv' := [(4, .inl q19.1), (3, .inr (.inr q2.1)), (0, .inr (.inr (some v0))), (1, .inl v1), (2, .inl v2)]) (st' := [.inr (.inr q2.1)]) (pc' := 37) rfl ?_
        refine Wx.getI ok kX6_parts 22 rfl lk_RX6_204_0 h (fun t37 h => ?_)
        refine Wx.run ok kX6_parts 23 1 (lv' := [(4, .inl q19.1), (3, .inr (.inr q2.1)), (0, .inr (.inr (some v0))), (1, .inl v1), (2, .inl v2)]) (st' := [.inr (.inr q2.1), .inl t37]) (pc' := 41) rfl ?_
        refine Wx.getR ok kX6_parts 24 rfl lk_RX6_176_0 h (fun t41 h => ?_)
        refine Wx.run ok kX6_parts 25 1 (lv' := [(4, .inl q19.1), (3, .inr (.inr q2.1)), (0, .inr (.inr (some v0))), (1, .inl v1), (2, .inl v2)]) (st' := [.inl (1 : Int32), .inr (.inr t41), .inl t37]) (pc' := 45) rfl ?_
        obtain ⟨a45, ha45, h⟩ := gob h
        obtain ⟨q45, hq45, h⟩ := gob h
        refine Wx.callV ok kX6_parts 26 rfl lm_RX6_180 cd_X5_dimensionOf ha45 [.inl (1 : Int32)] (some (.inl q45.1)) (aX5_dimensionOf _ _ hq45) (by decide) rfl (Nat.le_of_ble_eq_true rfl) rfl rfl ?_
        obtain ⟨q48, hq48, h⟩ := gob h
        refine Wx.callS ok kX6_parts 27 rfl lm_RX6_207 cd_X6_power [.inl t37, .inl q45.1] (some (.inl q48.1)) (aX6_power _ _ hq48) (by decide) rfl (Nat.le_of_ble_eq_true rfl) rfl rfl ?_
        refine Wx.jump ok kX6_parts 28 (tgt := 55) rfl (by decide) ?_
        exact Wx.ireturn ok kX6_parts 30 rfl hres h (by decide)
      · refine Wx.run ok kX6_parts 29 1 (lv' := [(4, .inl q19.1), (3, .inr (.inr q2.1)), (0, .inr (.inr (some v0))), (1, .inl v1), (2, .inl v2)]) (st' := [.inl (0 : Int32)]) (pc' := 55) rfl ?_
        exact Wx.ireturn ok kX6_parts 30 rfl hres h (by decide)
    · refine Wx.run ok kX6_parts 17 1 (lv' := [(4, .inl q19.1), (3, .inr (.inr q2.1)), (0, .inr (.inr (some v0))), (1, .inl v1), (2, .inl v2)]) (st' := [.inl q19.1]) (pc' := 31) rfl ?_
      exact Wx.ireturn ok kX6_parts 18 rfl hres h (by decide)
set_option maxRecDepth 100000 in
set_option maxHeartbeats 4000000 in
theorem aX6_sum_b41 {X : gX} (ok : gOk X cX6_sum RX6 6 (some .int) rmX6_sum) {res : Int32 × gW} (hres : gRs X (some (.int res.1)) res.2) {F : Nat} : ∀ (v2 : Int32) (v3 : Int32) (v4 : Option Nat) (v5 : Int32) (w : gW), mX6_sum_b41 F v2 v3 v4 v5 w = some res → Wx X w 4 9806 41 [(2, .inl v2), (3, .inl v3), (4, .inr (.inr v4)), (5, .inl v5)] [] := by
  intro v2 v3 v4 v5 w h
  unfold mX6_sum_b41 at h
  refine Wx.run ok kX6_sum 21 1 (lv' := [(2, .inl v2), (3, .inl v3), (4, .inr (.inr v4)), (5, .inl v5)]) (st' := [.inl v5]) (pc' := 43) rfl ?_
  refine Wx.if_eq ok kX6_sum 22 (tgt := 51) rfl (by decide) h (fun hc43 h => ?_) (fun hc43 h => ?_)
  · refine Wx.run ok kX6_sum 25 3 (lv' := [(2, .inl v2), (3, .inl v3), (4, .inr (.inr v4)), (5, .inl v5)]) (st' := [.inr (.inr v4), .inl v3, .inl v2]) (pc' := 55) rfl ?_
    refine Wx.getI ok kX6_sum 28 rfl lk_RX6_204_0 h (fun t55 h => ?_)
    refine Wx.run ok kX6_sum 29 1 (lv' := [(2, .inl v2), (3, .inl v3), (4, .inr (.inr v4)), (5, .inl v5)]) (st' := [.inr (.inr v4), .inl t55, .inl v3, .inl v2]) (pc' := 60) rfl ?_
    refine Wx.getR ok kX6_sum 30 rfl lk_RX6_176_0 h (fun t60 h => ?_)
    refine Wx.getR ok kX6_sum 31 rfl lk_RX6_210_0 h (fun t63 h => ?_)
    refine Wx.getI ok kX6_sum 32 rfl lk_RX6_214_0 h (fun t66 h => ?_)
    obtain ⟨q69, hq69, h⟩ := gob h
    refine Wx.callS ok kX6_sum 33 rfl lm_RX6_219 cd_X6_addDigits [.inl v2, .inl v3, .inl t55, .inl t66] (some (.inl q69.1)) (aX6_addDigits _ _ hq69) (by decide) rfl (Nat.le_of_ble_eq_true rfl) rfl rfl ?_
    exact Wx.ireturn ok kX6_sum 34 rfl hres h (by decide)
  · refine Wx.run ok kX6_sum 23 1 (lv' := [(2, .inl v2), (3, .inl v3), (4, .inr (.inr v4)), (5, .inl v5)]) (st' := [.inl v5]) (pc' := 48) rfl ?_
    refine Wx.jump ok kX6_sum 24 (tgt := 72) rfl (by decide) ?_
    exact Wx.ireturn ok kX6_sum 34 rfl hres h (by decide)
set_option maxRecDepth 100000 in
set_option maxHeartbeats 4000000 in
theorem aX6_sum (l : Launch) (G : gG) {F : Nat} {v0 : Nat} {v1 : Int32} {v2 : Int32} {v3 : Int32} {w : gW} {res : Int32 × gW} (h : mX6_sum F v0 v1 v2 v3 w = some res) : gM l yX6_sum cX6_sum 6 (some .int) rmX6_sum G w (gTs [.inr (.inr (some v0)), .inl v1, .inl v2, .inl v3]) (some (.int res.1)) res.2 := by
  refine gM_of (y := yX6_sum) (by decide +kernel) (Nat.le_of_ble_eq_true rfl) ?_
  intro X ok hl hG hres hnm
  subst hl; subst hG
  unfold mX6_sum at h
  show Wx X w 0 0 0 [(0, .inr (.inr (some v0))), (1, .inl v1), (2, .inl v2), (3, .inl v3)] []
  refine Wx.run ok kX6_sum 0 2 (lv' := [(0, .inr (.inr (some v0))), (1, .inl v1), (2, .inl v2), (3, .inl v3)]) (st' := [.inl v1, .inr (.inr (some v0))]) (pc' := 2) rfl ?_
  obtain ⟨a2, ha2, h⟩ := gob h
  obtain ⟨q2, hq2, h⟩ := gob h
  refine Wx.callV ok kX6_sum 2 rfl lm_RX6_152 cd_X6_actionAt ha2 [.inl v1] (some (.inr (.inr q2.1))) (aX6_actionAt _ _ hq2) (by decide) rfl (Nat.le_of_ble_eq_true rfl) rfl rfl ?_
  refine Wx.run ok kX6_sum 3 2 (lv' := [(4, .inr (.inr q2.1)), (0, .inr (.inr (some v0))), (1, .inl v1), (2, .inl v2), (3, .inl v3)]) (st' := [.inr (.inr q2.1)]) (pc' := 9) rfl ?_
  refine Wx.ifnonnull ok kX6_sum 5 (tgt := 14) rfl (by decide) h (fun hc9 h => ?_) (fun hc9 h => ?_)
  · refine Wx.run ok kX6_sum 6 1 (lv' := [(4, .inr (.inr q2.1)), (0, .inr (.inr (some v0))), (1, .inl v1), (2, .inl v2), (3, .inl v3)]) (st' := [.inl (-1 : Int32)]) (pc' := 13) rfl ?_
    exact Wx.ireturn ok kX6_sum 7 rfl hres h (by decide)
  · refine Wx.run ok kX6_sum 8 2 (lv' := [(4, .inr (.inr q2.1)), (0, .inr (.inr (some v0))), (1, .inl v1), (2, .inl v2), (3, .inl v3)]) (st' := [.inr (.inr q2.1), .inr (.inr (some v0))]) (pc' := 17) rfl ?_
    obtain ⟨a17, ha17, h⟩ := gob h
    obtain ⟨q17, hq17, h⟩ := gob h
    refine Wx.callV ok kX6_sum 10 rfl lm_RX6_168 cd_X6_solve ha17 [.inr (.inr q2.1)] none (aX6_solve _ _ hq17) (by decide) rfl (Nat.le_of_ble_eq_true rfl) rfl rfl ?_
    refine Wx.run ok kX6_sum 11 2 (lv' := [(4, .inr (.inr q2.1)), (0, .inr (.inr (some v0))), (1, .inl v1), (2, .inl v2), (3, .inl v3)]) (st' := [.inl v2, .inr (.inr q2.1)]) (pc' := 23) rfl ?_
    obtain ⟨q23, hq23, h⟩ := gob h
    refine Wx.callS ok kX6_sum 13 rfl lm_RX6_185 cd_X6_refusalOf [.inr (.inr q2.1), .inl v2] (some (.inl q23.1)) (aX6_refusalOf _ _ hq23) (by decide) rfl (Nat.le_of_ble_eq_true rfl) rfl rfl ?_
    refine Wx.run ok kX6_sum 14 2 (lv' := [(5, .inl q23.1), (4, .inr (.inr q2.1)), (0, .inr (.inr (some v0))), (1, .inl v1), (2, .inl v2), (3, .inl v3)]) (st' := [.inl q23.1]) (pc' := 30) rfl ?_
    refine Wx.if_ne ok kX6_sum 16 (tgt := 41) rfl (by decide) h (fun hc30 h => ?_) (fun hc30 h => ?_)
    · refine Wx.run ok kX6_sum 17 2 (lv' := [(5, .inl q23.1), (4, .inr (.inr q2.1)), (0, .inr (.inr (some v0))), (1, .inl v1), (2, .inl v2), (3, .inl v3)]) (st' := [.inl v3, .inr (.inr q2.1)]) (pc' := 36) rfl ?_
      obtain ⟨q36, hq36, h⟩ := gob h
      refine Wx.callS ok kX6_sum 19 rfl lm_RX6_185 cd_X6_refusalOf [.inr (.inr q2.1), .inl v3] (some (.inl q36.1)) (aX6_refusalOf _ _ hq36) (by decide) rfl (Nat.le_of_ble_eq_true rfl) rfl rfl ?_
      refine Wx.run ok kX6_sum 20 1 (lv' := [(5, .inl q36.1), (4, .inr (.inr q2.1)), (0, .inr (.inr (some v0))), (1, .inl v1), (2, .inl v2), (3, .inl v3)]) (st' := []) (pc' := 41) rfl ?_
      refine Wx.sub [4, 5, 1, 0] rfl ?_
      exact aX6_sum_b41 ok hres (F := F) _ _ _ _ _ h
    · refine Wx.sub [4, 5, 1, 0] rfl ?_
      exact aX6_sum_b41 ok hres (F := F) _ _ _ _ _ h
set_option maxRecDepth 100000 in
set_option maxHeartbeats 4000000 in
theorem aX6_times_h56 {X : gX} (ok : gOk X cX6_times RX6 8 (some .int) rmX6_times) {res : Int32 × gW} (hres : gRs X (some (.int res.1)) res.2) {F : Nat} (r : Int32 → Int32 → (Option Nat) → Int32 → Int32 → gW → Option (Int32 × gW)) (hr : ∀ (v2 : Int32) (v3 : Int32) (v4 : Option Nat) (v6 : Int32) (v7 : Int32) (w : gW), r v2 v3 v4 v6 v7 w = some res → Wx X w 4 9806 56 [(2, .inl v2), (3, .inl v3), (4, .inr (.inr v4)), (6, .inl v6), (7, .inl v7)] []) : ∀ (v2 : Int32) (v3 : Int32) (v4 : Option Nat) (v6 : Int32) (v7 : Int32) (w : gW), mX6_times_h56 F r v2 v3 v4 v6 v7 w = some res → Wx X w 4 9806 56 [(2, .inl v2), (3, .inl v3), (4, .inr (.inr v4)), (6, .inl v6), (7, .inl v7)] [] := by
  intro v2 v3 v4 v6 v7 w h
  unfold mX6_times_h56 at h
  refine Wx.run ok kX6_times 30 2 (lv' := [(2, .inl v2), (3, .inl v3), (4, .inr (.inr v4)), (6, .inl v6), (7, .inl v7)]) (st' := [.inl v3, .inl v7]) (pc' := 59) rfl ?_
  refine Wx.icmp_ge ok kX6_times 32 (tgt := 92) rfl (by decide) h (fun hc59 h => ?_) (fun hc59 h => ?_)
  · refine Wx.run ok kX6_times 45 1 (lv' := [(2, .inl v2), (3, .inl v3), (4, .inr (.inr v4)), (6, .inl v6), (7, .inl v7)]) (st' := [.inl v6]) (pc' := 94) rfl ?_
    exact Wx.ireturn ok kX6_times 46 rfl hres h (by decide)
  · refine Wx.run ok kX6_times 33 3 (lv' := [(2, .inl v2), (3, .inl v3), (4, .inr (.inr v4)), (6, .inl v6), (7, .inl v7)]) (st' := [.inr (.inr v4), .inl v2, .inl v6]) (pc' := 67) rfl ?_
    refine Wx.getI ok kX6_times 36 rfl lk_RX6_204_0 h (fun t67 h => ?_)
    refine Wx.run ok kX6_times 37 1 (lv' := [(2, .inl v2), (3, .inl v3), (4, .inr (.inr v4)), (6, .inl v6), (7, .inl v7)]) (st' := [.inr (.inr v4), .inl t67, .inl v2, .inl v6]) (pc' := 72) rfl ?_
    refine Wx.getR ok kX6_times 38 rfl lk_RX6_176_0 h (fun t72 h => ?_)
    refine Wx.getR ok kX6_times 39 rfl lk_RX6_210_0 h (fun t75 h => ?_)
    refine Wx.getI ok kX6_times 40 rfl lk_RX6_214_0 h (fun t78 h => ?_)
    obtain ⟨q81, hq81, h⟩ := gob h
    refine Wx.callS ok kX6_times 41 rfl lm_RX6_219 cd_X6_addDigits [.inl v6, .inl v2, .inl t67, .inl t78] (some (.inl q81.1)) (aX6_addDigits _ _ hq81) (by decide) rfl (Nat.le_of_ble_eq_true rfl) rfl rfl ?_
    refine Wx.run ok kX6_times 42 2 (lv' := [(7, .inl (v7 + (1 : Int32))), (6, .inl q81.1), (2, .inl v2), (3, .inl v3), (4, .inr (.inr v4))]) (st' := []) (pc' := 89) rfl ?_
    refine Wx.jump ok kX6_times 44 (tgt := 56) rfl (by decide) ?_
    refine Wx.sub [2, 3, 4, 1, 0] rfl ?_
    exact hr _ _ _ _ _ _ h
set_option maxRecDepth 100000 in
set_option maxHeartbeats 4000000 in
theorem aX6_times_l56 {X : gX} (ok : gOk X cX6_times RX6 8 (some .int) rmX6_times) {res : Int32 × gW} (hres : gRs X (some (.int res.1)) res.2) {F : Nat} : ∀ (n : Nat) (v2 : Int32) (v3 : Int32) (v4 : Option Nat) (v6 : Int32) (v7 : Int32) (w : gW), mX6_times_l56 F n v2 v3 v4 v6 v7 w = some res → Wx X w 4 9806 56 [(2, .inl v2), (3, .inl v3), (4, .inr (.inr v4)), (6, .inl v6), (7, .inl v7)] [] := by
  intro n
  induction n with
  | zero => intro v2 v3 v4 v6 v7 w h; cases (show (none : Option (Int32 × gW)) = some res from h)
  | succ n ih =>
    intro v2 v3 v4 v6 v7 w h
    exact aX6_times_h56 ok hres (F := F) (mX6_times_l56 F n) ih v2 v3 v4 v6 v7 w h
set_option maxRecDepth 100000 in
set_option maxHeartbeats 4000000 in
theorem aX6_times (l : Launch) (G : gG) {F : Nat} {v0 : Nat} {v1 : Int32} {v2 : Int32} {v3 : Int32} {w : gW} {res : Int32 × gW} (h : mX6_times F v0 v1 v2 v3 w = some res) : gM l yX6_times cX6_times 8 (some .int) rmX6_times G w (gTs [.inr (.inr (some v0)), .inl v1, .inl v2, .inl v3]) (some (.int res.1)) res.2 := by
  refine gM_of (y := yX6_times) (by decide +kernel) (Nat.le_of_ble_eq_true rfl) ?_
  intro X ok hl hG hres hnm
  subst hl; subst hG
  unfold mX6_times at h
  show Wx X w 0 0 0 [(0, .inr (.inr (some v0))), (1, .inl v1), (2, .inl v2), (3, .inl v3)] []
  refine Wx.run ok kX6_times 0 2 (lv' := [(0, .inr (.inr (some v0))), (1, .inl v1), (2, .inl v2), (3, .inl v3)]) (st' := [.inl v1, .inr (.inr (some v0))]) (pc' := 2) rfl ?_
  obtain ⟨a2, ha2, h⟩ := gob h
  obtain ⟨q2, hq2, h⟩ := gob h
  refine Wx.callV ok kX6_times 2 rfl lm_RX6_152 cd_X6_actionAt ha2 [.inl v1] (some (.inr (.inr q2.1))) (aX6_actionAt _ _ hq2) (by decide) rfl (Nat.le_of_ble_eq_true rfl) rfl rfl ?_
  refine Wx.run ok kX6_times 3 2 (lv' := [(4, .inr (.inr q2.1)), (0, .inr (.inr (some v0))), (1, .inl v1), (2, .inl v2), (3, .inl v3)]) (st' := [.inr (.inr q2.1)]) (pc' := 9) rfl ?_
  refine Wx.ifnull ok kX6_times 5 (tgt := 26) rfl (by decide) h (fun hc9 h => ?_) (fun hc9 h => ?_)
  · refine Wx.run ok kX6_times 13 1 (lv' := [(4, .inr (.inr q2.1)), (0, .inr (.inr (some v0))), (1, .inl v1), (2, .inl v2), (3, .inl v3)]) (st' := [.inl (-1 : Int32)]) (pc' := 27) rfl ?_
    exact Wx.ireturn ok kX6_times 14 rfl hres h (by decide)
  · refine Wx.run ok kX6_times 6 2 (lv' := [(4, .inr (.inr q2.1)), (0, .inr (.inr (some v0))), (1, .inl v1), (2, .inl v2), (3, .inl v3)]) (st' := [.inl (1 : Int32), .inl v3]) (pc' := 14) rfl ?_
    refine Wx.icmp_lt ok kX6_times 8 (tgt := 26) rfl (by decide) h (fun hc14 h => ?_) (fun hc14 h => ?_)
    · refine Wx.run ok kX6_times 13 1 (lv' := [(4, .inr (.inr q2.1)), (0, .inr (.inr (some v0))), (1, .inl v1), (2, .inl v2), (3, .inl v3)]) (st' := [.inl (-1 : Int32)]) (pc' := 27) rfl ?_
      exact Wx.ireturn ok kX6_times 14 rfl hres h (by decide)
    · refine Wx.run ok kX6_times 9 2 (lv' := [(4, .inr (.inr q2.1)), (0, .inr (.inr (some v0))), (1, .inl v1), (2, .inl v2), (3, .inl v3)]) (st' := [.inr (.inr q2.1), .inl v3]) (pc' := 20) rfl ?_
      refine Wx.getI ok kX6_times 11 rfl lk_RX6_204_0 h (fun t20 h => ?_)
      refine Wx.icmp_lt ok kX6_times 12 (tgt := 28) rfl (by decide) h (fun hc23 h => ?_) (fun hc23 h => ?_)
      · refine Wx.run ok kX6_times 15 2 (lv' := [(4, .inr (.inr q2.1)), (0, .inr (.inr (some v0))), (1, .inl v1), (2, .inl v2), (3, .inl v3)]) (st' := [.inr (.inr q2.1), .inr (.inr (some v0))]) (pc' := 31) rfl ?_
        obtain ⟨a31, ha31, h⟩ := gob h
        obtain ⟨q31, hq31, h⟩ := gob h
        refine Wx.callV ok kX6_times 17 rfl lm_RX6_168 cd_X6_solve ha31 [.inr (.inr q2.1)] none (aX6_solve _ _ hq31) (by decide) rfl (Nat.le_of_ble_eq_true rfl) rfl rfl ?_
        refine Wx.run ok kX6_times 18 2 (lv' := [(4, .inr (.inr q2.1)), (0, .inr (.inr (some v0))), (1, .inl v1), (2, .inl v2), (3, .inl v3)]) (st' := [.inl v2, .inr (.inr q2.1)]) (pc' := 37) rfl ?_
        obtain ⟨q37, hq37, h⟩ := gob h
        refine Wx.callS ok kX6_times 20 rfl lm_RX6_185 cd_X6_refusalOf [.inr (.inr q2.1), .inl v2] (some (.inl q37.1)) (aX6_refusalOf _ _ hq37) (by decide) rfl (Nat.le_of_ble_eq_true rfl) rfl rfl ?_
        refine Wx.run ok kX6_times 21 2 (lv' := [(5, .inl q37.1), (4, .inr (.inr q2.1)), (0, .inr (.inr (some v0))), (1, .inl v1), (2, .inl v2), (3, .inl v3)]) (st' := [.inl q37.1]) (pc' := 44) rfl ?_
        refine Wx.if_eq ok kX6_times 23 (tgt := 50) rfl (by decide) h (fun hc44 h => ?_) (fun hc44 h => ?_)
        · refine Wx.run ok kX6_times 26 4 (lv' := [(7, .inl (0 : Int32)), (6, .inl (0 : Int32)), (5, .inl q37.1), (4, .inr (.inr q2.1)), (0, .inr (.inr (some v0))), (1, .inl v1), (2, .inl v2), (3, .inl v3)]) (st' := []) (pc' := 56) rfl ?_
          refine Wx.sub [6, 7, 3, 1, 0] rfl ?_
          refine aX6_times_l56 ok hres (F := F) F _ _ _ _ _ _ h
        · refine Wx.run ok kX6_times 24 1 (lv' := [(5, .inl q37.1), (4, .inr (.inr q2.1)), (0, .inr (.inr (some v0))), (1, .inl v1), (2, .inl v2), (3, .inl v3)]) (st' := [.inl q37.1]) (pc' := 49) rfl ?_
          exact Wx.ireturn ok kX6_times 25 rfl hres h (by decide)
      · refine Wx.run ok kX6_times 13 1 (lv' := [(4, .inr (.inr q2.1)), (0, .inr (.inr (some v0))), (1, .inl v1), (2, .inl v2), (3, .inl v3)]) (st' := [.inl (-1 : Int32)]) (pc' := 27) rfl ?_
        exact Wx.ireturn ok kX6_times 14 rfl hres h (by decide)
set_option maxRecDepth 100000 in
set_option maxHeartbeats 4000000 in
theorem aX6_twist (l : Launch) (G : gG) {F : Nat} {v0 : Nat} {v1 : Int32} {v2 : Int32} {v3 : Int32} {v4 : Int32} {v5 : Int32} {w : gW} {res : Int32 × gW} (h : mX6_twist F v0 v1 v2 v3 v4 v5 w = some res) : gM l yX6_twist cX6_twist 8 (some .int) rmX6_twist G w (gTs [.inr (.inr (some v0)), .inl v1, .inl v2, .inl v3, .inl v4, .inl v5]) (some (.int res.1)) res.2 := by
  refine gM_of (y := yX6_twist) (by decide +kernel) (Nat.le_of_ble_eq_true rfl) ?_
  intro X ok hl hG hres hnm
  subst hl; subst hG
  unfold mX6_twist at h
  show Wx X w 0 0 0 [(0, .inr (.inr (some v0))), (1, .inl v1), (2, .inl v2), (3, .inl v3), (4, .inl v4), (5, .inl v5)] []
  refine Wx.run ok kX6_twist 0 2 (lv' := [(0, .inr (.inr (some v0))), (1, .inl v1), (2, .inl v2), (3, .inl v3), (4, .inl v4), (5, .inl v5)]) (st' := [.inl v1, .inr (.inr (some v0))]) (pc' := 2) rfl ?_
  obtain ⟨a2, ha2, h⟩ := gob h
  obtain ⟨q2, hq2, h⟩ := gob h
  refine Wx.callV ok kX6_twist 2 rfl lm_RX6_152 cd_X6_actionAt ha2 [.inl v1] (some (.inr (.inr q2.1))) (aX6_actionAt _ _ hq2) (by decide) rfl (Nat.le_of_ble_eq_true rfl) rfl rfl ?_
  refine Wx.run ok kX6_twist 3 2 (lv' := [(6, .inr (.inr q2.1)), (0, .inr (.inr (some v0))), (1, .inl v1), (2, .inl v2), (3, .inl v3), (4, .inl v4), (5, .inl v5)]) (st' := [.inr (.inr q2.1)]) (pc' := 9) rfl ?_
  refine Wx.ifnull ok kX6_twist 5 (tgt := 52) rfl (by decide) h (fun hc9 h => ?_) (fun hc9 h => ?_)
  · refine Wx.run ok kX6_twist 22 1 (lv' := [(6, .inr (.inr q2.1)), (0, .inr (.inr (some v0))), (1, .inl v1), (2, .inl v2), (3, .inl v3), (4, .inl v4), (5, .inl v5)]) (st' := [.inl (-1 : Int32)]) (pc' := 53) rfl ?_
    exact Wx.ireturn ok kX6_twist 23 rfl hres h (by decide)
  · refine Wx.run ok kX6_twist 6 1 (lv' := [(6, .inr (.inr q2.1)), (0, .inr (.inr (some v0))), (1, .inl v1), (2, .inl v2), (3, .inl v3), (4, .inl v4), (5, .inl v5)]) (st' := [.inr (.inr q2.1)]) (pc' := 14) rfl ?_
    refine Wx.getR ok kX6_twist 7 rfl lk_RX6_93_0 h (fun t14 h => ?_)
    refine Wx.run ok kX6_twist 8 1 (lv' := [(6, .inr (.inr q2.1)), (0, .inr (.inr (some v0))), (1, .inl v1), (2, .inl v2), (3, .inl v3), (4, .inl v4), (5, .inl v5)]) (st' := [.inl v3, .inr (.inr t14)]) (pc' := 18) rfl ?_
    obtain ⟨a18, ha18, h⟩ := gob h
    obtain ⟨q18, hq18, h⟩ := gob h
    refine Wx.callV ok kX6_twist 9 rfl lm_RX6_97 cd_X2_has ha18 [.inl v3] (some (.inl q18.1)) (aX2_has _ _ hq18) (by decide) rfl (Nat.le_of_ble_eq_true rfl) rfl rfl ?_
    refine Wx.if_eq ok kX6_twist 10 (tgt := 52) rfl (by decide) h (fun hc21 h => ?_) (fun hc21 h => ?_)
    · refine Wx.run ok kX6_twist 22 1 (lv' := [(6, .inr (.inr q2.1)), (0, .inr (.inr (some v0))), (1, .inl v1), (2, .inl v2), (3, .inl v3), (4, .inl v4), (5, .inl v5)]) (st' := [.inl (-1 : Int32)]) (pc' := 53) rfl ?_
      exact Wx.ireturn ok kX6_twist 23 rfl hres h (by decide)
    · refine Wx.run ok kX6_twist 11 1 (lv' := [(6, .inr (.inr q2.1)), (0, .inr (.inr (some v0))), (1, .inl v1), (2, .inl v2), (3, .inl v3), (4, .inl v4), (5, .inl v5)]) (st' := [.inr (.inr q2.1)]) (pc' := 26) rfl ?_
      refine Wx.getR ok kX6_twist 12 rfl lk_RX6_93_0 h (fun t26 h => ?_)
      refine Wx.run ok kX6_twist 13 1 (lv' := [(6, .inr (.inr q2.1)), (0, .inr (.inr (some v0))), (1, .inl v1), (2, .inl v2), (3, .inl v3), (4, .inl v4), (5, .inl v5)]) (st' := [.inl v4, .inr (.inr t26)]) (pc' := 31) rfl ?_
      obtain ⟨a31, ha31, h⟩ := gob h
      obtain ⟨q31, hq31, h⟩ := gob h
      refine Wx.callV ok kX6_twist 14 rfl lm_RX6_97 cd_X2_has ha31 [.inl v4] (some (.inl q31.1)) (aX2_has _ _ hq31) (by decide) rfl (Nat.le_of_ble_eq_true rfl) rfl rfl ?_
      refine Wx.if_eq ok kX6_twist 15 (tgt := 52) rfl (by decide) h (fun hc34 h => ?_) (fun hc34 h => ?_)
      · refine Wx.run ok kX6_twist 22 1 (lv' := [(6, .inr (.inr q2.1)), (0, .inr (.inr (some v0))), (1, .inl v1), (2, .inl v2), (3, .inl v3), (4, .inl v4), (5, .inl v5)]) (st' := [.inl (-1 : Int32)]) (pc' := 53) rfl ?_
        exact Wx.ireturn ok kX6_twist 23 rfl hres h (by decide)
      · refine Wx.run ok kX6_twist 16 1 (lv' := [(6, .inr (.inr q2.1)), (0, .inr (.inr (some v0))), (1, .inl v1), (2, .inl v2), (3, .inl v3), (4, .inl v4), (5, .inl v5)]) (st' := [.inl v5]) (pc' := 39) rfl ?_
        refine Wx.if_lt ok kX6_twist 17 (tgt := 52) rfl (by decide) h (fun hc39 h => ?_) (fun hc39 h => ?_)
        · refine Wx.run ok kX6_twist 22 1 (lv' := [(6, .inr (.inr q2.1)), (0, .inr (.inr (some v0))), (1, .inl v1), (2, .inl v2), (3, .inl v3), (4, .inl v4), (5, .inl v5)]) (st' := [.inl (-1 : Int32)]) (pc' := 53) rfl ?_
          exact Wx.ireturn ok kX6_twist 23 rfl hres h (by decide)
        · refine Wx.run ok kX6_twist 18 2 (lv' := [(6, .inr (.inr q2.1)), (0, .inr (.inr (some v0))), (1, .inl v1), (2, .inl v2), (3, .inl v3), (4, .inl v4), (5, .inl v5)]) (st' := [.inr (.inr q2.1), .inl v5]) (pc' := 46) rfl ?_
          refine Wx.getI ok kX6_twist 20 rfl lk_RX6_159_0 h (fun t46 h => ?_)
          refine Wx.icmp_lt ok kX6_twist 21 (tgt := 54) rfl (by decide) h (fun hc49 h => ?_) (fun hc49 h => ?_)
          · refine Wx.run ok kX6_twist 24 2 (lv' := [(6, .inr (.inr q2.1)), (0, .inr (.inr (some v0))), (1, .inl v1), (2, .inl v2), (3, .inl v3), (4, .inl v4), (5, .inl v5)]) (st' := [.inr (.inr q2.1), .inr (.inr (some v0))]) (pc' := 57) rfl ?_
            obtain ⟨a57, ha57, h⟩ := gob h
            obtain ⟨q57, hq57, h⟩ := gob h
            refine Wx.callV ok kX6_twist 26 rfl lm_RX6_168 cd_X6_solve ha57 [.inr (.inr q2.1)] none (aX6_solve _ _ hq57) (by decide) rfl (Nat.le_of_ble_eq_true rfl) rfl rfl ?_
            refine Wx.run ok kX6_twist 27 2 (lv' := [(6, .inr (.inr q2.1)), (0, .inr (.inr (some v0))), (1, .inl v1), (2, .inl v2), (3, .inl v3), (4, .inl v4), (5, .inl v5)]) (st' := [.inl v2, .inr (.inr q2.1)]) (pc' := 63) rfl ?_
            obtain ⟨q63, hq63, h⟩ := gob h
            refine Wx.callS ok kX6_twist 29 rfl lm_RX6_185 cd_X6_refusalOf [.inr (.inr q2.1), .inl v2] (some (.inl q63.1)) (aX6_refusalOf _ _ hq63) (by decide) rfl (Nat.le_of_ble_eq_true rfl) rfl rfl ?_
            refine Wx.run ok kX6_twist 30 2 (lv' := [(7, .inl q63.1), (6, .inr (.inr q2.1)), (0, .inr (.inr (some v0))), (1, .inl v1), (2, .inl v2), (3, .inl v3), (4, .inl v4), (5, .inl v5)]) (st' := [.inl q63.1]) (pc' := 70) rfl ?_
            refine Wx.if_eq ok kX6_twist 32 (tgt := 78) rfl (by decide) h (fun hc70 h => ?_) (fun hc70 h => ?_)
            · refine Wx.run ok kX6_twist 35 1 (lv' := [(7, .inl q63.1), (6, .inr (.inr q2.1)), (0, .inr (.inr (some v0))), (1, .inl v1), (2, .inl v2), (3, .inl v3), (4, .inl v4), (5, .inl v5)]) (st' := [.inr (.inr q2.1)]) (pc' := 80) rfl ?_
              refine Wx.getR ok kX6_twist 36 rfl lk_RX6_176_0 h (fun t80 h => ?_)
              refine Wx.run ok kX6_twist 37 5 (lv' := [(7, .inl q63.1), (6, .inr (.inr q2.1)), (0, .inr (.inr (some v0))), (1, .inl v1), (2, .inl v2), (3, .inl v3), (4, .inl v4), (5, .inl v5)]) (st' := [.inl v5, .inl v4, .inl v3, .inl v2, .inr (.inr q2.1), .inr (.inr t80)]) (pc' := 91) rfl ?_
              obtain ⟨a91, ha91, h⟩ := gob h
              obtain ⟨q91, hq91, h⟩ := gob h
              refine Wx.callV ok kX6_twist 42 rfl lm_RX6_189 cd_X5_numberOf ha91 [.inr (.inr q2.1), .inl v2, .inl v3, .inl v4, .inl v5] (some (.inl q91.1)) (aX5_numberOf _ _ hq91) (by decide) rfl (Nat.le_of_ble_eq_true rfl) rfl rfl ?_
              exact Wx.ireturn ok kX6_twist 43 rfl hres h (by decide)
            · refine Wx.run ok kX6_twist 33 1 (lv' := [(7, .inl q63.1), (6, .inr (.inr q2.1)), (0, .inr (.inr (some v0))), (1, .inl v1), (2, .inl v2), (3, .inl v3), (4, .inl v4), (5, .inl v5)]) (st' := [.inl q63.1]) (pc' := 75) rfl ?_
              refine Wx.jump ok kX6_twist 34 (tgt := 94) rfl (by decide) ?_
              exact Wx.ireturn ok kX6_twist 43 rfl hres h (by decide)
          · refine Wx.run ok kX6_twist 22 1 (lv' := [(6, .inr (.inr q2.1)), (0, .inr (.inr (some v0))), (1, .inl v1), (2, .inl v2), (3, .inl v3), (4, .inl v4), (5, .inl v5)]) (st' := [.inl (-1 : Int32)]) (pc' := 53) rfl ?_
            exact Wx.ireturn ok kX6_twist 23 rfl hres h (by decide)
set_option maxRecDepth 100000 in
set_option maxHeartbeats 4000000 in
theorem aL_law_b1082 {X : gX} (ok : gOk X code RL 4 (some .boolean) room_1) {res : Unit} (hres : gLw X) {F : Nat} {L : Nat} {xs : Nat → Int32} {sb : Nat} (hsc : gScr X L xs sb) {cl sl : Nat} (hb : cl + 12 ≤ 6197 ∧ sl + 12315 ≤ 6451316) (r : (Option Nat) → (Option Nat) → Int32 → gW → Option (Unit)) (hr : ∀ (v1 : Option Nat) (v2 : Option Nat) (v3 : Int32) (w : gW), r v1 v2 v3 w = some res → Wx X w (cl + 12) (sl + 12315) 18 [(0, .inr (.inr (some sb))), (1, .inr (.inr v1)), (2, .inr (.inr v2)), (3, .inl v3)] []) : ∀ (v1 : Option Nat) (v2 : Option Nat) (v3 : Int32) (w : gW), mL_law_b1082 F L xs r v1 v2 v3 w = some res → Wx X w (cl + 12) (sl + 12315) 1082 [(0, .inr (.inr (some sb))), (1, .inr (.inr v1)), (2, .inr (.inr v2)), (3, .inl v3)] [] := by
  intro v1 v2 v3 w h
  unfold mL_law_b1082 at h
  refine Wx.run ok kL_law 794 1 (lv' := [(3, .inl (v3 + (7 : Int32))), (0, .inr (.inr (some sb))), (1, .inr (.inr v1)), (2, .inr (.inr v2))]) (st' := []) (pc' := 1085) rfl ?_
  refine Wx.jump ok kL_law 795 (tgt := 18) rfl (by decide) ?_
  refine Wx.sub [1, 2, 3, 0] rfl ?_
  exact hr _ _ _ _ h
set_option maxRecDepth 100000 in
set_option maxHeartbeats 4000000 in
theorem aL_law_h18 {X : gX} (ok : gOk X code RL 4 (some .boolean) room_1) {res : Unit} (hres : gLw X) {F : Nat} {L : Nat} {xs : Nat → Int32} {sb : Nat} (hsc : gScr X L xs sb) {cl sl : Nat} (hb : cl + 12 ≤ 6197 ∧ sl + 12315 ≤ 6451316) (r : (Option Nat) → (Option Nat) → Int32 → gW → Option (Unit)) (hr : ∀ (v1 : Option Nat) (v2 : Option Nat) (v3 : Int32) (w : gW), r v1 v2 v3 w = some res → Wx X w (cl + 12) (sl + 12315) 18 [(0, .inr (.inr (some sb))), (1, .inr (.inr v1)), (2, .inr (.inr v2)), (3, .inl v3)] []) : ∀ (v1 : Option Nat) (v2 : Option Nat) (v3 : Int32) (w : gW), mL_law_h18 F L xs r v1 v2 v3 w = some res → Wx X w cl sl 18 [(0, .inr (.inr (some sb))), (1, .inr (.inr v1)), (2, .inr (.inr v2)), (3, .inl v3)] [] := by
  intro v1 v2 v3 w h
  unfold mL_law_h18 at h
  refine Wx.run ok kL_law 10 2 (lv' := [(0, .inr (.inr (some sb))), (1, .inr (.inr v1)), (2, .inr (.inr v2)), (3, .inl v3)]) (st' := [.inr (.inr (some sb)), .inl v3]) (pc' := 20) rfl ?_
  refine Wx.scrLen ok kL_law 12 rfl hsc ?_
  refine Wx.run ok kL_law 13 2 (lv' := [(0, .inr (.inr (some sb))), (1, .inr (.inr v1)), (2, .inr (.inr v2)), (3, .inl v3)]) (st' := [.inl ((Int32.ofNat L) - (7 : Int32)), .inl v3]) (pc' := 24) rfl ?_
  refine Wx.icmp_gt ok kL_law 15 (tgt := 1088) rfl (by decide) h (fun hc24 h => ?_) (fun hc24 h => ?_)
  · refine Wx.run ok kL_law 796 1 (lv' := [(0, .inr (.inr (some sb))), (1, .inr (.inr v1)), (2, .inr (.inr v2)), (3, .inl v3)]) (st' := [.inl (1 : Int32)]) (pc' := 1089) rfl ?_
    exact Wx.lawret ok kL_law 797 rfl hres (by have hb1 := hb.1; have hb2 := hb.2; constructor <;> omega)
  · refine Wx.run ok kL_law 16 2 (lv' := [(0, .inr (.inr (some sb))), (1, .inr (.inr v1)), (2, .inr (.inr v2)), (3, .inl v3)]) (st' := [.inl v3, .inr (.inr (some sb))]) (pc' := 29) rfl ?_
    refine Wx.scr ok kL_law 18 rfl hsc h (fun t29 h => ?_)
    refine Wx.run ok kL_law 19 2 (lv' := [(0, .inr (.inr (some sb))), (1, .inr (.inr v1)), (2, .inr (.inr v2)), (3, .inl v3)]) (st' := [.inl (t29 &&& (31 : Int32))]) (pc' := 33) rfl ?_
    refine gIte h (fun hx h => ?_) (fun hx0 h => ?_)
    · refine Wx.swIn ok kL_law 21 rfl (tgt := 152) (by rw [hx]; decide) (by rw [hx]; decide) (by rw [hx]; rfl) (by decide) ?_
      refine Wx.run ok kL_law 22 5 (lv' := [(0, .inr (.inr (some sb))), (1, .inr (.inr v1)), (2, .inr (.inr v2)), (3, .inl v3)]) (st' := [.inl (v3 + (1 : Int32)), .inr (.inr (some sb)), .inr (.inr v1)]) (pc' := 157) rfl ?_
      refine Wx.scr ok kL_law 27 rfl hsc h (fun t157 h => ?_)
      obtain ⟨a158, ha158, h⟩ := gob h
      obtain ⟨q158, hq158, h⟩ := gob h
      refine Wx.callV ok kL_law 28 rfl lm_RL_13 cd_X6_cyclic ha158 [.inl t157] (some (.inl q158.1)) (aX6_cyclic _ _ hq158) (by have hb1 := hb.1; have hb2 := hb.2; refine ⟨?_, ?_, ?_, ?_⟩ <;> simp only [rmX6_cyclic, room_1] <;> omega) rfl (Nat.le_of_ble_eq_true rfl) rfl rfl ?_
      refine Wx.run ok kL_law 29 5 (lv' := [(0, .inr (.inr (some sb))), (1, .inr (.inr v1)), (2, .inr (.inr v2)), (3, .inl v3)]) (st' := [.inl (v3 + (1 : Int32)), .inr (.inr (some sb)), .inr (.inr v2), .inl q158.1]) (pc' := 166) rfl ?_
      refine Wx.scr ok kL_law 34 rfl hsc h (fun t166 h => ?_)
      obtain ⟨a167, ha167, h⟩ := gob h
      obtain ⟨q167, hq167, h⟩ := gob h
      refine Wx.callV ok kL_law 35 rfl lm_RL_17 cd_X7_cyclic ha167 [.inl t166] (some (.inl q167.1)) (aX7_cyclic _ _ hq167) (by have hb1 := hb.1; have hb2 := hb.2; refine ⟨?_, ?_, ?_, ?_⟩ <;> simp only [rmX6_cyclic, rmX7_cyclic, room_1] <;> omega) rfl (Nat.le_of_ble_eq_true rfl) rfl rfl ?_
      refine Wx.icmp_eq ok kL_law 36 (tgt := 1082) rfl (by decide) h (fun hc170 h => ?_) (fun hc170 h => ?_)
      · refine Wx.widen (k := (cl + 12)) (n := (sl + 12315)) (by have hb1 := hb.1; have hb2 := hb.2; first | omega | (simp only [rmX6_cyclic, rmX7_cyclic, room_1]; omega)) (by have hb1 := hb.1; have hb2 := hb.2; first | omega | (simp only [rmX6_cyclic, rmX7_cyclic, room_1]; omega)) ?_
        exact aL_law_b1082 ok hres (F := F) hsc hb r hr _ _ _ _ h
      · refine Wx.run ok kL_law 37 1 (lv' := [(0, .inr (.inr (some sb))), (1, .inr (.inr v1)), (2, .inr (.inr v2)), (3, .inl v3)]) (st' := [.inl (0 : Int32)]) (pc' := 174) rfl ?_
        cases h
    refine gIte h (fun hx h => ?_) (fun hx1 h => ?_)
    · refine Wx.swIn ok kL_law 21 rfl (tgt := 175) (by rw [hx]; decide) (by rw [hx]; decide) (by rw [hx]; rfl) (by decide) ?_
      refine Wx.run ok kL_law 39 5 (lv' := [(0, .inr (.inr (some sb))), (1, .inr (.inr v1)), (2, .inr (.inr v2)), (3, .inl v3)]) (st' := [.inl (v3 + (1 : Int32)), .inr (.inr (some sb)), .inr (.inr v1)]) (pc' := 180) rfl ?_
      refine Wx.scr ok kL_law 44 rfl hsc h (fun t180 h => ?_)
      obtain ⟨a181, ha181, h⟩ := gob h
      obtain ⟨q181, hq181, h⟩ := gob h
      refine Wx.callV ok kL_law 45 rfl lm_RL_18 cd_X6_dihedral ha181 [.inl t180] (some (.inl q181.1)) (aX6_dihedral _ _ hq181) (by have hb1 := hb.1; have hb2 := hb.2; refine ⟨?_, ?_, ?_, ?_⟩ <;> simp only [rmX6_dihedral, room_1] <;> omega) rfl (Nat.le_of_ble_eq_true rfl) rfl rfl ?_
      refine Wx.run ok kL_law 46 5 (lv' := [(0, .inr (.inr (some sb))), (1, .inr (.inr v1)), (2, .inr (.inr v2)), (3, .inl v3)]) (st' := [.inl (v3 + (1 : Int32)), .inr (.inr (some sb)), .inr (.inr v2), .inl q181.1]) (pc' := 189) rfl ?_
      refine Wx.scr ok kL_law 51 rfl hsc h (fun t189 h => ?_)
      obtain ⟨a190, ha190, h⟩ := gob h
      obtain ⟨q190, hq190, h⟩ := gob h
      refine Wx.callV ok kL_law 52 rfl lm_RL_21 cd_X7_dihedral ha190 [.inl t189] (some (.inl q190.1)) (aX7_dihedral _ _ hq190) (by have hb1 := hb.1; have hb2 := hb.2; refine ⟨?_, ?_, ?_, ?_⟩ <;> simp only [rmX6_dihedral, rmX7_dihedral, room_1] <;> omega) rfl (Nat.le_of_ble_eq_true rfl) rfl rfl ?_
      refine Wx.icmp_eq ok kL_law 53 (tgt := 1082) rfl (by decide) h (fun hc193 h => ?_) (fun hc193 h => ?_)
      · refine Wx.widen (k := (cl + 12)) (n := (sl + 12315)) (by have hb1 := hb.1; have hb2 := hb.2; first | omega | (simp only [rmX6_dihedral, rmX7_dihedral, room_1]; omega)) (by have hb1 := hb.1; have hb2 := hb.2; first | omega | (simp only [rmX6_dihedral, rmX7_dihedral, room_1]; omega)) ?_
        exact aL_law_b1082 ok hres (F := F) hsc hb r hr _ _ _ _ h
      · refine Wx.run ok kL_law 54 1 (lv' := [(0, .inr (.inr (some sb))), (1, .inr (.inr v1)), (2, .inr (.inr v2)), (3, .inl v3)]) (st' := [.inl (0 : Int32)]) (pc' := 197) rfl ?_
        cases h
    refine gIte h (fun hx h => ?_) (fun hx2 h => ?_)
    · refine Wx.swIn ok kL_law 21 rfl (tgt := 198) (by rw [hx]; decide) (by rw [hx]; decide) (by rw [hx]; rfl) (by decide) ?_
      refine Wx.run ok kL_law 56 1 (lv' := [(0, .inr (.inr (some sb))), (1, .inr (.inr v1)), (2, .inr (.inr v2)), (3, .inl v3)]) (st' := [.inr (.inr v1)]) (pc' := 199) rfl ?_
      obtain ⟨a199, ha199, h⟩ := gob h
      obtain ⟨q199, hq199, h⟩ := gob h
      refine Wx.callV ok kL_law 57 rfl lm_RL_22 cd_X6_quaternions ha199 [] (some (.inl q199.1)) (aX6_quaternions _ _ hq199) (by have hb1 := hb.1; have hb2 := hb.2; refine ⟨?_, ?_, ?_, ?_⟩ <;> simp only [rmX6_quaternions, room_1] <;> omega) rfl (Nat.le_of_ble_eq_true rfl) rfl rfl ?_
      refine Wx.run ok kL_law 58 1 (lv' := [(0, .inr (.inr (some sb))), (1, .inr (.inr v1)), (2, .inr (.inr v2)), (3, .inl v3)]) (st' := [.inr (.inr v2), .inl q199.1]) (pc' := 203) rfl ?_
      obtain ⟨a203, ha203, h⟩ := gob h
      obtain ⟨q203, hq203, h⟩ := gob h
      refine Wx.callV ok kL_law 59 rfl lm_RL_26 cd_X7_quaternions ha203 [] (some (.inl q203.1)) (aX7_quaternions _ _ hq203) (by have hb1 := hb.1; have hb2 := hb.2; refine ⟨?_, ?_, ?_, ?_⟩ <;> simp only [rmX6_quaternions, rmX7_quaternions, room_1] <;> omega) rfl (Nat.le_of_ble_eq_true rfl) rfl rfl ?_
      refine Wx.icmp_eq ok kL_law 60 (tgt := 1082) rfl (by decide) h (fun hc206 h => ?_) (fun hc206 h => ?_)
      · refine Wx.widen (k := (cl + 12)) (n := (sl + 12315)) (by have hb1 := hb.1; have hb2 := hb.2; first | omega | (simp only [rmX6_quaternions, rmX7_quaternions, room_1]; omega)) (by have hb1 := hb.1; have hb2 := hb.2; first | omega | (simp only [rmX6_quaternions, rmX7_quaternions, room_1]; omega)) ?_
        exact aL_law_b1082 ok hres (F := F) hsc hb r hr _ _ _ _ h
      · refine Wx.run ok kL_law 61 1 (lv' := [(0, .inr (.inr (some sb))), (1, .inr (.inr v1)), (2, .inr (.inr v2)), (3, .inl v3)]) (st' := [.inl (0 : Int32)]) (pc' := 210) rfl ?_
        cases h
    refine gIte h (fun hx h => ?_) (fun hx3 h => ?_)
    · refine Wx.swIn ok kL_law 21 rfl (tgt := 211) (by rw [hx]; decide) (by rw [hx]; decide) (by rw [hx]; rfl) (by decide) ?_
      refine Wx.run ok kL_law 63 5 (lv' := [(0, .inr (.inr (some sb))), (1, .inr (.inr v1)), (2, .inr (.inr v2)), (3, .inl v3)]) (st' := [.inl (v3 + (1 : Int32)), .inr (.inr (some sb)), .inr (.inr v1)]) (pc' := 216) rfl ?_
      refine Wx.scr ok kL_law 68 rfl hsc h (fun t216 h => ?_)
      refine Wx.run ok kL_law 69 4 (lv' := [(0, .inr (.inr (some sb))), (1, .inr (.inr v1)), (2, .inr (.inr v2)), (3, .inl v3)]) (st' := [.inl (v3 + (2 : Int32)), .inr (.inr (some sb)), .inl t216, .inr (.inr v1)]) (pc' := 221) rfl ?_
      refine Wx.scr ok kL_law 73 rfl hsc h (fun t221 h => ?_)
      obtain ⟨a222, ha222, h⟩ := gob h
      obtain ⟨q222, hq222, h⟩ := gob h
      refine Wx.callV ok kL_law 74 rfl lm_RL_27 cd_X6_pair ha222 [.inl t216, .inl t221] (some (.inl q222.1)) (aX6_pair _ _ hq222) (by have hb1 := hb.1; have hb2 := hb.2; refine ⟨?_, ?_, ?_, ?_⟩ <;> simp only [rmX6_pair, room_1] <;> omega) rfl (Nat.le_of_ble_eq_true rfl) rfl rfl ?_
      refine Wx.run ok kL_law 75 5 (lv' := [(0, .inr (.inr (some sb))), (1, .inr (.inr v1)), (2, .inr (.inr v2)), (3, .inl v3)]) (st' := [.inl (v3 + (1 : Int32)), .inr (.inr (some sb)), .inr (.inr v2), .inl q222.1]) (pc' := 230) rfl ?_
      refine Wx.scr ok kL_law 80 rfl hsc h (fun t230 h => ?_)
      refine Wx.run ok kL_law 81 4 (lv' := [(0, .inr (.inr (some sb))), (1, .inr (.inr v1)), (2, .inr (.inr v2)), (3, .inl v3)]) (st' := [.inl (v3 + (2 : Int32)), .inr (.inr (some sb)), .inl t230, .inr (.inr v2), .inl q222.1]) (pc' := 235) rfl ?_
      refine Wx.scr ok kL_law 85 rfl hsc h (fun t235 h => ?_)
      obtain ⟨a236, ha236, h⟩ := gob h
      obtain ⟨q236, hq236, h⟩ := gob h
      refine Wx.callV ok kL_law 86 rfl lm_RL_31 cd_X7_pair ha236 [.inl t230, .inl t235] (some (.inl q236.1)) (aX7_pair _ _ hq236) (by have hb1 := hb.1; have hb2 := hb.2; refine ⟨?_, ?_, ?_, ?_⟩ <;> simp only [rmX6_pair, rmX7_pair, room_1] <;> omega) rfl (Nat.le_of_ble_eq_true rfl) rfl rfl ?_
      refine Wx.icmp_eq ok kL_law 87 (tgt := 1082) rfl (by decide) h (fun hc239 h => ?_) (fun hc239 h => ?_)
      · refine Wx.widen (k := (cl + 12)) (n := (sl + 12315)) (by have hb1 := hb.1; have hb2 := hb.2; first | omega | (simp only [rmX6_pair, rmX7_pair, room_1]; omega)) (by have hb1 := hb.1; have hb2 := hb.2; first | omega | (simp only [rmX6_pair, rmX7_pair, room_1]; omega)) ?_
        exact aL_law_b1082 ok hres (F := F) hsc hb r hr _ _ _ _ h
      · refine Wx.run ok kL_law 88 1 (lv' := [(0, .inr (.inr (some sb))), (1, .inr (.inr v1)), (2, .inr (.inr v2)), (3, .inl v3)]) (st' := [.inl (0 : Int32)]) (pc' := 243) rfl ?_
        cases h
    refine gIte h (fun hx h => ?_) (fun hx4 h => ?_)
    · refine Wx.swIn ok kL_law 21 rfl (tgt := 244) (by rw [hx]; decide) (by rw [hx]; decide) (by rw [hx]; rfl) (by decide) ?_
      refine Wx.run ok kL_law 90 5 (lv' := [(0, .inr (.inr (some sb))), (1, .inr (.inr v1)), (2, .inr (.inr v2)), (3, .inl v3)]) (st' := [.inl (v3 + (1 : Int32)), .inr (.inr (some sb)), .inr (.inr v1)]) (pc' := 249) rfl ?_
      refine Wx.scr ok kL_law 95 rfl hsc h (fun t249 h => ?_)
      refine Wx.run ok kL_law 96 4 (lv' := [(0, .inr (.inr (some sb))), (1, .inr (.inr v1)), (2, .inr (.inr v2)), (3, .inl v3)]) (st' := [.inl (v3 + (2 : Int32)), .inr (.inr (some sb)), .inl t249, .inr (.inr v1)]) (pc' := 254) rfl ?_
      refine Wx.scr ok kL_law 100 rfl hsc h (fun t254 h => ?_)
      refine Wx.run ok kL_law 101 4 (lv' := [(0, .inr (.inr (some sb))), (1, .inr (.inr v1)), (2, .inr (.inr v2)), (3, .inl v3)]) (st' := [.inl (v3 + (3 : Int32)), .inr (.inr (some sb)), .inl t254, .inl t249, .inr (.inr v1)]) (pc' := 259) rfl ?_
      refine Wx.scr ok kL_law 105 rfl hsc h (fun t259 h => ?_)
      obtain ⟨a260, ha260, h⟩ := gob h
      obtain ⟨q260, hq260, h⟩ := gob h
      refine Wx.callV ok kL_law 106 rfl lm_RL_32 cd_X6_sheet ha260 [.inl t249, .inl t254, .inl t259] (some (.inl q260.1)) (aX6_sheet _ _ hq260) (by have hb1 := hb.1; have hb2 := hb.2; refine ⟨?_, ?_, ?_, ?_⟩ <;> simp only [rmX6_sheet, room_1] <;> omega) rfl (Nat.le_of_ble_eq_true rfl) rfl rfl ?_
      refine Wx.run ok kL_law 107 5 (lv' := [(0, .inr (.inr (some sb))), (1, .inr (.inr v1)), (2, .inr (.inr v2)), (3, .inl v3)]) (st' := [.inl (v3 + (1 : Int32)), .inr (.inr (some sb)), .inr (.inr v2), .inl q260.1]) (pc' := 268) rfl ?_
      refine Wx.scr ok kL_law 112 rfl hsc h (fun t268 h => ?_)
      refine Wx.run ok kL_law 113 4 (lv' := [(0, .inr (.inr (some sb))), (1, .inr (.inr v1)), (2, .inr (.inr v2)), (3, .inl v3)]) (st' := [.inl (v3 + (2 : Int32)), .inr (.inr (some sb)), .inl t268, .inr (.inr v2), .inl q260.1]) (pc' := 273) rfl ?_
      refine Wx.scr ok kL_law 117 rfl hsc h (fun t273 h => ?_)
      refine Wx.run ok kL_law 118 4 (lv' := [(0, .inr (.inr (some sb))), (1, .inr (.inr v1)), (2, .inr (.inr v2)), (3, .inl v3)]) (st' := [.inl (v3 + (3 : Int32)), .inr (.inr (some sb)), .inl t273, .inl t268, .inr (.inr v2), .inl q260.1]) (pc' := 278) rfl ?_
      refine Wx.scr ok kL_law 122 rfl hsc h (fun t278 h => ?_)
      obtain ⟨a279, ha279, h⟩ := gob h
      obtain ⟨q279, hq279, h⟩ := gob h
      refine Wx.callV ok kL_law 123 rfl lm_RL_36 cd_X7_sheet ha279 [.inl t268, .inl t273, .inl t278] (some (.inl q279.1)) (aX7_sheet _ _ hq279) (by have hb1 := hb.1; have hb2 := hb.2; refine ⟨?_, ?_, ?_, ?_⟩ <;> simp only [rmX6_sheet, rmX7_sheet, room_1] <;> omega) rfl (Nat.le_of_ble_eq_true rfl) rfl rfl ?_
      refine Wx.icmp_eq ok kL_law 124 (tgt := 1082) rfl (by decide) h (fun hc282 h => ?_) (fun hc282 h => ?_)
      · refine Wx.widen (k := (cl + 12)) (n := (sl + 12315)) (by have hb1 := hb.1; have hb2 := hb.2; first | omega | (simp only [rmX6_sheet, rmX7_sheet, room_1]; omega)) (by have hb1 := hb.1; have hb2 := hb.2; first | omega | (simp only [rmX6_sheet, rmX7_sheet, room_1]; omega)) ?_
        exact aL_law_b1082 ok hres (F := F) hsc hb r hr _ _ _ _ h
      · refine Wx.run ok kL_law 125 1 (lv' := [(0, .inr (.inr (some sb))), (1, .inr (.inr v1)), (2, .inr (.inr v2)), (3, .inl v3)]) (st' := [.inl (0 : Int32)]) (pc' := 286) rfl ?_
        cases h
    refine gIte h (fun hx h => ?_) (fun hx5 h => ?_)
    · refine Wx.swIn ok kL_law 21 rfl (tgt := 287) (by rw [hx]; decide) (by rw [hx]; decide) (by rw [hx]; rfl) (by decide) ?_
      refine Wx.run ok kL_law 127 5 (lv' := [(0, .inr (.inr (some sb))), (1, .inr (.inr v1)), (2, .inr (.inr v2)), (3, .inl v3)]) (st' := [.inl (v3 + (1 : Int32)), .inr (.inr (some sb)), .inr (.inr v1)]) (pc' := 292) rfl ?_
      refine Wx.scr ok kL_law 132 rfl hsc h (fun t292 h => ?_)
      refine Wx.run ok kL_law 133 4 (lv' := [(0, .inr (.inr (some sb))), (1, .inr (.inr v1)), (2, .inr (.inr v2)), (3, .inl v3)]) (st' := [.inl (v3 + (2 : Int32)), .inr (.inr (some sb)), .inl t292, .inr (.inr v1)]) (pc' := 297) rfl ?_
      refine Wx.scr ok kL_law 137 rfl hsc h (fun t297 h => ?_)
      refine Wx.run ok kL_law 138 4 (lv' := [(0, .inr (.inr (some sb))), (1, .inr (.inr v1)), (2, .inr (.inr v2)), (3, .inl v3)]) (st' := [.inl (v3 + (3 : Int32)), .inr (.inr (some sb)), .inl t297, .inl t292, .inr (.inr v1)]) (pc' := 302) rfl ?_
      refine Wx.scr ok kL_law 142 rfl hsc h (fun t302 h => ?_)
      obtain ⟨a303, ha303, h⟩ := gob h
      obtain ⟨q303, hq303, h⟩ := gob h
      refine Wx.callV ok kL_law 143 rfl lm_RL_37 cd_X6_lay ha303 [.inl t292, .inl t297, .inl t302] (some (.inl q303.1)) (aX6_lay _ _ hq303) (by have hb1 := hb.1; have hb2 := hb.2; refine ⟨?_, ?_, ?_, ?_⟩ <;> simp only [rmX6_lay, room_1] <;> omega) rfl (Nat.le_of_ble_eq_true rfl) rfl rfl ?_
      refine Wx.run ok kL_law 144 5 (lv' := [(0, .inr (.inr (some sb))), (1, .inr (.inr v1)), (2, .inr (.inr v2)), (3, .inl v3)]) (st' := [.inl (v3 + (1 : Int32)), .inr (.inr (some sb)), .inr (.inr v2), .inl q303.1]) (pc' := 311) rfl ?_
      refine Wx.scr ok kL_law 149 rfl hsc h (fun t311 h => ?_)
      refine Wx.run ok kL_law 150 4 (lv' := [(0, .inr (.inr (some sb))), (1, .inr (.inr v1)), (2, .inr (.inr v2)), (3, .inl v3)]) (st' := [.inl (v3 + (2 : Int32)), .inr (.inr (some sb)), .inl t311, .inr (.inr v2), .inl q303.1]) (pc' := 316) rfl ?_
      refine Wx.scr ok kL_law 154 rfl hsc h (fun t316 h => ?_)
      refine Wx.run ok kL_law 155 4 (lv' := [(0, .inr (.inr (some sb))), (1, .inr (.inr v1)), (2, .inr (.inr v2)), (3, .inl v3)]) (st' := [.inl (v3 + (3 : Int32)), .inr (.inr (some sb)), .inl t316, .inl t311, .inr (.inr v2), .inl q303.1]) (pc' := 321) rfl ?_
      refine Wx.scr ok kL_law 159 rfl hsc h (fun t321 h => ?_)
      obtain ⟨a322, ha322, h⟩ := gob h
      obtain ⟨q322, hq322, h⟩ := gob h
      refine Wx.callV ok kL_law 160 rfl lm_RL_40 cd_X7_lay ha322 [.inl t311, .inl t316, .inl t321] (some (.inl q322.1)) (aX7_lay _ _ hq322) (by have hb1 := hb.1; have hb2 := hb.2; refine ⟨?_, ?_, ?_, ?_⟩ <;> simp only [rmX6_lay, rmX7_lay, room_1] <;> omega) rfl (Nat.le_of_ble_eq_true rfl) rfl rfl ?_
      refine Wx.icmp_eq ok kL_law 161 (tgt := 1082) rfl (by decide) h (fun hc325 h => ?_) (fun hc325 h => ?_)
      · refine Wx.widen (k := (cl + 12)) (n := (sl + 12315)) (by have hb1 := hb.1; have hb2 := hb.2; first | omega | (simp only [rmX6_lay, rmX7_lay, room_1]; omega)) (by have hb1 := hb.1; have hb2 := hb.2; first | omega | (simp only [rmX6_lay, rmX7_lay, room_1]; omega)) ?_
        exact aL_law_b1082 ok hres (F := F) hsc hb r hr _ _ _ _ h
      · refine Wx.run ok kL_law 162 1 (lv' := [(0, .inr (.inr (some sb))), (1, .inr (.inr v1)), (2, .inr (.inr v2)), (3, .inl v3)]) (st' := [.inl (0 : Int32)]) (pc' := 329) rfl ?_
        cases h
    refine gIte h (fun hx h => ?_) (fun hx6 h => ?_)
    · refine Wx.swIn ok kL_law 21 rfl (tgt := 330) (by rw [hx]; decide) (by rw [hx]; decide) (by rw [hx]; rfl) (by decide) ?_
      refine Wx.run ok kL_law 164 5 (lv' := [(0, .inr (.inr (some sb))), (1, .inr (.inr v1)), (2, .inr (.inr v2)), (3, .inl v3)]) (st' := [.inl (v3 + (1 : Int32)), .inr (.inr (some sb)), .inr (.inr v1)]) (pc' := 335) rfl ?_
      refine Wx.scr ok kL_law 169 rfl hsc h (fun t335 h => ?_)
      refine Wx.run ok kL_law 170 4 (lv' := [(0, .inr (.inr (some sb))), (1, .inr (.inr v1)), (2, .inr (.inr v2)), (3, .inl v3)]) (st' := [.inl (v3 + (2 : Int32)), .inr (.inr (some sb)), .inl t335, .inr (.inr v1)]) (pc' := 340) rfl ?_
      refine Wx.scr ok kL_law 174 rfl hsc h (fun t340 h => ?_)
      refine Wx.run ok kL_law 175 4 (lv' := [(0, .inr (.inr (some sb))), (1, .inr (.inr v1)), (2, .inr (.inr v2)), (3, .inl v3)]) (st' := [.inl (v3 + (3 : Int32)), .inr (.inr (some sb)), .inl t340, .inl t335, .inr (.inr v1)]) (pc' := 345) rfl ?_
      refine Wx.scr ok kL_law 179 rfl hsc h (fun t345 h => ?_)
      obtain ⟨a346, ha346, h⟩ := gob h
      obtain ⟨q346, hq346, h⟩ := gob h
      refine Wx.callV ok kL_law 180 rfl lm_RL_41 cd_X6_table ha346 [.inl t335, .inl t340, .inl t345] (some (.inl q346.1)) (aX6_table _ _ hq346) (by have hb1 := hb.1; have hb2 := hb.2; refine ⟨?_, ?_, ?_, ?_⟩ <;> simp only [rmX6_table, room_1] <;> omega) rfl (Nat.le_of_ble_eq_true rfl) rfl rfl ?_
      refine Wx.run ok kL_law 181 5 (lv' := [(0, .inr (.inr (some sb))), (1, .inr (.inr v1)), (2, .inr (.inr v2)), (3, .inl v3)]) (st' := [.inl (v3 + (1 : Int32)), .inr (.inr (some sb)), .inr (.inr v2), .inl q346.1]) (pc' := 354) rfl ?_
      refine Wx.scr ok kL_law 186 rfl hsc h (fun t354 h => ?_)
      refine Wx.run ok kL_law 187 4 (lv' := [(0, .inr (.inr (some sb))), (1, .inr (.inr v1)), (2, .inr (.inr v2)), (3, .inl v3)]) (st' := [.inl (v3 + (2 : Int32)), .inr (.inr (some sb)), .inl t354, .inr (.inr v2), .inl q346.1]) (pc' := 359) rfl ?_
      refine Wx.scr ok kL_law 191 rfl hsc h (fun t359 h => ?_)
      refine Wx.run ok kL_law 192 4 (lv' := [(0, .inr (.inr (some sb))), (1, .inr (.inr v1)), (2, .inr (.inr v2)), (3, .inl v3)]) (st' := [.inl (v3 + (3 : Int32)), .inr (.inr (some sb)), .inl t359, .inl t354, .inr (.inr v2), .inl q346.1]) (pc' := 364) rfl ?_
      refine Wx.scr ok kL_law 196 rfl hsc h (fun t364 h => ?_)
      obtain ⟨a365, ha365, h⟩ := gob h
      obtain ⟨q365, hq365, h⟩ := gob h
      refine Wx.callV ok kL_law 197 rfl lm_RL_44 cd_X7_table ha365 [.inl t354, .inl t359, .inl t364] (some (.inl q365.1)) (aX7_table _ _ hq365) (by have hb1 := hb.1; have hb2 := hb.2; refine ⟨?_, ?_, ?_, ?_⟩ <;> simp only [rmX6_table, rmX7_table, room_1] <;> omega) rfl (Nat.le_of_ble_eq_true rfl) rfl rfl ?_
      refine Wx.icmp_eq ok kL_law 198 (tgt := 1082) rfl (by decide) h (fun hc368 h => ?_) (fun hc368 h => ?_)
      · refine Wx.widen (k := (cl + 12)) (n := (sl + 12315)) (by have hb1 := hb.1; have hb2 := hb.2; first | omega | (simp only [rmX6_table, rmX7_table, room_1]; omega)) (by have hb1 := hb.1; have hb2 := hb.2; first | omega | (simp only [rmX6_table, rmX7_table, room_1]; omega)) ?_
        exact aL_law_b1082 ok hres (F := F) hsc hb r hr _ _ _ _ h
      · refine Wx.run ok kL_law 199 1 (lv' := [(0, .inr (.inr (some sb))), (1, .inr (.inr v1)), (2, .inr (.inr v2)), (3, .inl v3)]) (st' := [.inl (0 : Int32)]) (pc' := 372) rfl ?_
        cases h
    refine gIte h (fun hx h => ?_) (fun hx7 h => ?_)
    · refine Wx.swIn ok kL_law 21 rfl (tgt := 373) (by rw [hx]; decide) (by rw [hx]; decide) (by rw [hx]; rfl) (by decide) ?_
      refine Wx.run ok kL_law 201 1 (lv' := [(0, .inr (.inr (some sb))), (1, .inr (.inr v1)), (2, .inr (.inr v2)), (3, .inl v3)]) (st' := [.inr (.inr v1)]) (pc' := 374) rfl ?_
      obtain ⟨a374, ha374, h⟩ := gob h
      obtain ⟨q374, hq374, h⟩ := gob h
      refine Wx.callV ok kL_law 202 rfl lm_RL_45 cd_X6_drop ha374 [] (some (.inl q374.1)) (aX6_drop _ _ hq374) (by have hb1 := hb.1; have hb2 := hb.2; refine ⟨?_, ?_, ?_, ?_⟩ <;> simp only [rmX6_drop, room_1] <;> omega) rfl (Nat.le_of_ble_eq_true rfl) rfl rfl ?_
      refine Wx.run ok kL_law 203 1 (lv' := [(0, .inr (.inr (some sb))), (1, .inr (.inr v1)), (2, .inr (.inr v2)), (3, .inl v3)]) (st' := [.inr (.inr v2), .inl q374.1]) (pc' := 378) rfl ?_
      obtain ⟨a378, ha378, h⟩ := gob h
      obtain ⟨q378, hq378, h⟩ := gob h
      refine Wx.callV ok kL_law 204 rfl lm_RL_48 cd_X7_drop ha378 [] (some (.inl q378.1)) (aX7_drop _ _ hq378) (by have hb1 := hb.1; have hb2 := hb.2; refine ⟨?_, ?_, ?_, ?_⟩ <;> simp only [rmX6_drop, rmX7_drop, room_1] <;> omega) rfl (Nat.le_of_ble_eq_true rfl) rfl rfl ?_
      refine Wx.icmp_eq ok kL_law 205 (tgt := 1082) rfl (by decide) h (fun hc381 h => ?_) (fun hc381 h => ?_)
      · refine Wx.widen (k := (cl + 12)) (n := (sl + 12315)) (by have hb1 := hb.1; have hb2 := hb.2; first | omega | (simp only [rmX6_drop, rmX7_drop, room_1]; omega)) (by have hb1 := hb.1; have hb2 := hb.2; first | omega | (simp only [rmX6_drop, rmX7_drop, room_1]; omega)) ?_
        exact aL_law_b1082 ok hres (F := F) hsc hb r hr _ _ _ _ h
      · refine Wx.run ok kL_law 206 1 (lv' := [(0, .inr (.inr (some sb))), (1, .inr (.inr v1)), (2, .inr (.inr v2)), (3, .inl v3)]) (st' := [.inl (0 : Int32)]) (pc' := 385) rfl ?_
        cases h
    refine gIte h (fun hx h => ?_) (fun hx8 h => ?_)
    · refine Wx.swIn ok kL_law 21 rfl (tgt := 386) (by rw [hx]; decide) (by rw [hx]; decide) (by rw [hx]; rfl) (by decide) ?_
      refine Wx.run ok kL_law 208 5 (lv' := [(0, .inr (.inr (some sb))), (1, .inr (.inr v1)), (2, .inr (.inr v2)), (3, .inl v3)]) (st' := [.inl (v3 + (1 : Int32)), .inr (.inr (some sb)), .inr (.inr v1)]) (pc' := 391) rfl ?_
      refine Wx.scr ok kL_law 213 rfl hsc h (fun t391 h => ?_)
      obtain ⟨a392, ha392, h⟩ := gob h
      obtain ⟨q392, hq392, h⟩ := gob h
      refine Wx.callV ok kL_law 214 rfl lm_RL_49 cd_X6_order ha392 [.inl t391] (some (.inl q392.1)) (aX6_order _ _ hq392) (by have hb1 := hb.1; have hb2 := hb.2; refine ⟨?_, ?_, ?_, ?_⟩ <;> simp only [rmX6_order, room_1] <;> omega) rfl (Nat.le_of_ble_eq_true rfl) rfl rfl ?_
      refine Wx.run ok kL_law 215 5 (lv' := [(0, .inr (.inr (some sb))), (1, .inr (.inr v1)), (2, .inr (.inr v2)), (3, .inl v3)]) (st' := [.inl (v3 + (1 : Int32)), .inr (.inr (some sb)), .inr (.inr v2), .inl q392.1]) (pc' := 400) rfl ?_
      refine Wx.scr ok kL_law 220 rfl hsc h (fun t400 h => ?_)
      obtain ⟨a401, ha401, h⟩ := gob h
      obtain ⟨q401, hq401, h⟩ := gob h
      refine Wx.callV ok kL_law 221 rfl lm_RL_52 cd_X7_order ha401 [.inl t400] (some (.inl q401.1)) (aX7_order _ _ hq401) (by have hb1 := hb.1; have hb2 := hb.2; refine ⟨?_, ?_, ?_, ?_⟩ <;> simp only [rmX6_order, rmX7_order, room_1] <;> omega) rfl (Nat.le_of_ble_eq_true rfl) rfl rfl ?_
      refine Wx.icmp_eq ok kL_law 222 (tgt := 1082) rfl (by decide) h (fun hc404 h => ?_) (fun hc404 h => ?_)
      · refine Wx.widen (k := (cl + 12)) (n := (sl + 12315)) (by have hb1 := hb.1; have hb2 := hb.2; first | omega | (simp only [rmX6_order, rmX7_order, room_1]; omega)) (by have hb1 := hb.1; have hb2 := hb.2; first | omega | (simp only [rmX6_order, rmX7_order, room_1]; omega)) ?_
        exact aL_law_b1082 ok hres (F := F) hsc hb r hr _ _ _ _ h
      · refine Wx.run ok kL_law 223 1 (lv' := [(0, .inr (.inr (some sb))), (1, .inr (.inr v1)), (2, .inr (.inr v2)), (3, .inl v3)]) (st' := [.inl (0 : Int32)]) (pc' := 408) rfl ?_
        cases h
    refine gIte h (fun hx h => ?_) (fun hx9 h => ?_)
    · refine Wx.swIn ok kL_law 21 rfl (tgt := 409) (by rw [hx]; decide) (by rw [hx]; decide) (by rw [hx]; rfl) (by decide) ?_
      refine Wx.run ok kL_law 225 5 (lv' := [(0, .inr (.inr (some sb))), (1, .inr (.inr v1)), (2, .inr (.inr v2)), (3, .inl v3)]) (st' := [.inl (v3 + (1 : Int32)), .inr (.inr (some sb)), .inr (.inr v1)]) (pc' := 414) rfl ?_
      refine Wx.scr ok kL_law 230 rfl hsc h (fun t414 h => ?_)
      refine Wx.run ok kL_law 231 4 (lv' := [(0, .inr (.inr (some sb))), (1, .inr (.inr v1)), (2, .inr (.inr v2)), (3, .inl v3)]) (st' := [.inl (v3 + (2 : Int32)), .inr (.inr (some sb)), .inl t414, .inr (.inr v1)]) (pc' := 419) rfl ?_
      refine Wx.scr ok kL_law 235 rfl hsc h (fun t419 h => ?_)
      refine Wx.run ok kL_law 236 4 (lv' := [(0, .inr (.inr (some sb))), (1, .inr (.inr v1)), (2, .inr (.inr v2)), (3, .inl v3)]) (st' := [.inl (v3 + (3 : Int32)), .inr (.inr (some sb)), .inl t419, .inl t414, .inr (.inr v1)]) (pc' := 424) rfl ?_
      refine Wx.scr ok kL_law 240 rfl hsc h (fun t424 h => ?_)
      obtain ⟨a425, ha425, h⟩ := gob h
      obtain ⟨q425, hq425, h⟩ := gob h
      refine Wx.callV ok kL_law 241 rfl lm_RL_53 cd_X6_product ha425 [.inl t414, .inl t419, .inl t424] (some (.inl q425.1)) (aX6_product _ _ hq425) (by have hb1 := hb.1; have hb2 := hb.2; refine ⟨?_, ?_, ?_, ?_⟩ <;> simp only [rmX6_product, room_1] <;> omega) rfl (Nat.le_of_ble_eq_true rfl) rfl rfl ?_
      refine Wx.run ok kL_law 242 5 (lv' := [(0, .inr (.inr (some sb))), (1, .inr (.inr v1)), (2, .inr (.inr v2)), (3, .inl v3)]) (st' := [.inl (v3 + (1 : Int32)), .inr (.inr (some sb)), .inr (.inr v2), .inl q425.1]) (pc' := 433) rfl ?_
      refine Wx.scr ok kL_law 247 rfl hsc h (fun t433 h => ?_)
      refine Wx.run ok kL_law 248 4 (lv' := [(0, .inr (.inr (some sb))), (1, .inr (.inr v1)), (2, .inr (.inr v2)), (3, .inl v3)]) (st' := [.inl (v3 + (2 : Int32)), .inr (.inr (some sb)), .inl t433, .inr (.inr v2), .inl q425.1]) (pc' := 438) rfl ?_
      refine Wx.scr ok kL_law 252 rfl hsc h (fun t438 h => ?_)
      refine Wx.run ok kL_law 253 4 (lv' := [(0, .inr (.inr (some sb))), (1, .inr (.inr v1)), (2, .inr (.inr v2)), (3, .inl v3)]) (st' := [.inl (v3 + (3 : Int32)), .inr (.inr (some sb)), .inl t438, .inl t433, .inr (.inr v2), .inl q425.1]) (pc' := 443) rfl ?_
      refine Wx.scr ok kL_law 257 rfl hsc h (fun t443 h => ?_)
      obtain ⟨a444, ha444, h⟩ := gob h
      obtain ⟨q444, hq444, h⟩ := gob h
      refine Wx.callV ok kL_law 258 rfl lm_RL_56 cd_X7_product ha444 [.inl t433, .inl t438, .inl t443] (some (.inl q444.1)) (aX7_product _ _ hq444) (by have hb1 := hb.1; have hb2 := hb.2; refine ⟨?_, ?_, ?_, ?_⟩ <;> simp only [rmX6_product, rmX7_product, room_1] <;> omega) rfl (Nat.le_of_ble_eq_true rfl) rfl rfl ?_
      refine Wx.icmp_eq ok kL_law 259 (tgt := 1082) rfl (by decide) h (fun hc447 h => ?_) (fun hc447 h => ?_)
      · refine Wx.widen (k := (cl + 12)) (n := (sl + 12315)) (by have hb1 := hb.1; have hb2 := hb.2; first | omega | (simp only [rmX6_product, rmX7_product, room_1]; omega)) (by have hb1 := hb.1; have hb2 := hb.2; first | omega | (simp only [rmX6_product, rmX7_product, room_1]; omega)) ?_
        exact aL_law_b1082 ok hres (F := F) hsc hb r hr _ _ _ _ h
      · refine Wx.run ok kL_law 260 1 (lv' := [(0, .inr (.inr (some sb))), (1, .inr (.inr v1)), (2, .inr (.inr v2)), (3, .inl v3)]) (st' := [.inl (0 : Int32)]) (pc' := 451) rfl ?_
        cases h
    refine gIte h (fun hx h => ?_) (fun hx10 h => ?_)
    · refine Wx.swIn ok kL_law 21 rfl (tgt := 452) (by rw [hx]; decide) (by rw [hx]; decide) (by rw [hx]; rfl) (by decide) ?_
      refine Wx.run ok kL_law 262 5 (lv' := [(0, .inr (.inr (some sb))), (1, .inr (.inr v1)), (2, .inr (.inr v2)), (3, .inl v3)]) (st' := [.inl (v3 + (1 : Int32)), .inr (.inr (some sb)), .inr (.inr v1)]) (pc' := 457) rfl ?_
      refine Wx.scr ok kL_law 267 rfl hsc h (fun t457 h => ?_)
      refine Wx.run ok kL_law 268 4 (lv' := [(0, .inr (.inr (some sb))), (1, .inr (.inr v1)), (2, .inr (.inr v2)), (3, .inl v3)]) (st' := [.inl (v3 + (2 : Int32)), .inr (.inr (some sb)), .inl t457, .inr (.inr v1)]) (pc' := 462) rfl ?_
      refine Wx.scr ok kL_law 272 rfl hsc h (fun t462 h => ?_)
      refine Wx.run ok kL_law 273 4 (lv' := [(0, .inr (.inr (some sb))), (1, .inr (.inr v1)), (2, .inr (.inr v2)), (3, .inl v3)]) (st' := [.inl (v3 + (3 : Int32)), .inr (.inr (some sb)), .inl t462, .inl t457, .inr (.inr v1)]) (pc' := 467) rfl ?_
      refine Wx.scr ok kL_law 277 rfl hsc h (fun t467 h => ?_)
      obtain ⟨a468, ha468, h⟩ := gob h
      obtain ⟨q468, hq468, h⟩ := gob h
      refine Wx.callV ok kL_law 278 rfl lm_RL_57 cd_X6_element ha468 [.inl t457, .inl t462, .inl t467] (some (.inl q468.1)) (aX6_element _ _ hq468) (by have hb1 := hb.1; have hb2 := hb.2; refine ⟨?_, ?_, ?_, ?_⟩ <;> simp only [rmX6_element, room_1] <;> omega) rfl (Nat.le_of_ble_eq_true rfl) rfl rfl ?_
      refine Wx.run ok kL_law 279 5 (lv' := [(0, .inr (.inr (some sb))), (1, .inr (.inr v1)), (2, .inr (.inr v2)), (3, .inl v3)]) (st' := [.inl (v3 + (1 : Int32)), .inr (.inr (some sb)), .inr (.inr v2), .inl q468.1]) (pc' := 476) rfl ?_
      refine Wx.scr ok kL_law 284 rfl hsc h (fun t476 h => ?_)
      refine Wx.run ok kL_law 285 4 (lv' := [(0, .inr (.inr (some sb))), (1, .inr (.inr v1)), (2, .inr (.inr v2)), (3, .inl v3)]) (st' := [.inl (v3 + (2 : Int32)), .inr (.inr (some sb)), .inl t476, .inr (.inr v2), .inl q468.1]) (pc' := 481) rfl ?_
      refine Wx.scr ok kL_law 289 rfl hsc h (fun t481 h => ?_)
      refine Wx.run ok kL_law 290 4 (lv' := [(0, .inr (.inr (some sb))), (1, .inr (.inr v1)), (2, .inr (.inr v2)), (3, .inl v3)]) (st' := [.inl (v3 + (3 : Int32)), .inr (.inr (some sb)), .inl t481, .inl t476, .inr (.inr v2), .inl q468.1]) (pc' := 486) rfl ?_
      refine Wx.scr ok kL_law 294 rfl hsc h (fun t486 h => ?_)
      obtain ⟨a487, ha487, h⟩ := gob h
      obtain ⟨q487, hq487, h⟩ := gob h
      refine Wx.callV ok kL_law 295 rfl lm_RL_60 cd_X7_element ha487 [.inl t476, .inl t481, .inl t486] (some (.inl q487.1)) (aX7_element _ _ hq487) (by have hb1 := hb.1; have hb2 := hb.2; refine ⟨?_, ?_, ?_, ?_⟩ <;> simp only [rmX6_element, rmX7_element, room_1] <;> omega) rfl (Nat.le_of_ble_eq_true rfl) rfl rfl ?_
      refine Wx.icmp_eq ok kL_law 296 (tgt := 1082) rfl (by decide) h (fun hc490 h => ?_) (fun hc490 h => ?_)
      · refine Wx.widen (k := (cl + 12)) (n := (sl + 12315)) (by have hb1 := hb.1; have hb2 := hb.2; first | omega | (simp only [rmX6_element, rmX7_element, room_1]; omega)) (by have hb1 := hb.1; have hb2 := hb.2; first | omega | (simp only [rmX6_element, rmX7_element, room_1]; omega)) ?_
        exact aL_law_b1082 ok hres (F := F) hsc hb r hr _ _ _ _ h
      · refine Wx.run ok kL_law 297 1 (lv' := [(0, .inr (.inr (some sb))), (1, .inr (.inr v1)), (2, .inr (.inr v2)), (3, .inl v3)]) (st' := [.inl (0 : Int32)]) (pc' := 494) rfl ?_
        cases h
    refine gIte h (fun hx h => ?_) (fun hx11 h => ?_)
    · refine Wx.swIn ok kL_law 21 rfl (tgt := 495) (by rw [hx]; decide) (by rw [hx]; decide) (by rw [hx]; rfl) (by decide) ?_
      refine Wx.run ok kL_law 299 5 (lv' := [(0, .inr (.inr (some sb))), (1, .inr (.inr v1)), (2, .inr (.inr v2)), (3, .inl v3)]) (st' := [.inl (v3 + (1 : Int32)), .inr (.inr (some sb)), .inr (.inr v1)]) (pc' := 500) rfl ?_
      refine Wx.scr ok kL_law 304 rfl hsc h (fun t500 h => ?_)
      refine Wx.run ok kL_law 305 4 (lv' := [(0, .inr (.inr (some sb))), (1, .inr (.inr v1)), (2, .inr (.inr v2)), (3, .inl v3)]) (st' := [.inl (v3 + (2 : Int32)), .inr (.inr (some sb)), .inl t500, .inr (.inr v1)]) (pc' := 505) rfl ?_
      refine Wx.scr ok kL_law 309 rfl hsc h (fun t505 h => ?_)
      obtain ⟨a506, ha506, h⟩ := gob h
      obtain ⟨q506, hq506, h⟩ := gob h
      refine Wx.callV ok kL_law 310 rfl lm_RL_61 cd_X6_about ha506 [.inl t500, .inl t505] (some (.inl q506.1)) (aX6_about _ _ hq506) (by have hb1 := hb.1; have hb2 := hb.2; refine ⟨?_, ?_, ?_, ?_⟩ <;> simp only [rmX6_about, room_1] <;> omega) rfl (Nat.le_of_ble_eq_true rfl) rfl rfl ?_
      refine Wx.run ok kL_law 311 5 (lv' := [(0, .inr (.inr (some sb))), (1, .inr (.inr v1)), (2, .inr (.inr v2)), (3, .inl v3)]) (st' := [.inl (v3 + (1 : Int32)), .inr (.inr (some sb)), .inr (.inr v2), .inl q506.1]) (pc' := 514) rfl ?_
      refine Wx.scr ok kL_law 316 rfl hsc h (fun t514 h => ?_)
      refine Wx.run ok kL_law 317 4 (lv' := [(0, .inr (.inr (some sb))), (1, .inr (.inr v1)), (2, .inr (.inr v2)), (3, .inl v3)]) (st' := [.inl (v3 + (2 : Int32)), .inr (.inr (some sb)), .inl t514, .inr (.inr v2), .inl q506.1]) (pc' := 519) rfl ?_
      refine Wx.scr ok kL_law 321 rfl hsc h (fun t519 h => ?_)
      obtain ⟨a520, ha520, h⟩ := gob h
      obtain ⟨q520, hq520, h⟩ := gob h
      refine Wx.callV ok kL_law 322 rfl lm_RL_64 cd_X7_about ha520 [.inl t514, .inl t519] (some (.inl q520.1)) (aX7_about _ _ hq520) (by have hb1 := hb.1; have hb2 := hb.2; refine ⟨?_, ?_, ?_, ?_⟩ <;> simp only [rmX6_about, rmX7_about, room_1] <;> omega) rfl (Nat.le_of_ble_eq_true rfl) rfl rfl ?_
      refine Wx.icmp_eq ok kL_law 323 (tgt := 1082) rfl (by decide) h (fun hc523 h => ?_) (fun hc523 h => ?_)
      · refine Wx.widen (k := (cl + 12)) (n := (sl + 12315)) (by have hb1 := hb.1; have hb2 := hb.2; first | omega | (simp only [rmX6_about, rmX7_about, room_1]; omega)) (by have hb1 := hb.1; have hb2 := hb.2; first | omega | (simp only [rmX6_about, rmX7_about, room_1]; omega)) ?_
        exact aL_law_b1082 ok hres (F := F) hsc hb r hr _ _ _ _ h
      · refine Wx.run ok kL_law 324 1 (lv' := [(0, .inr (.inr (some sb))), (1, .inr (.inr v1)), (2, .inr (.inr v2)), (3, .inl v3)]) (st' := [.inl (0 : Int32)]) (pc' := 527) rfl ?_
        cases h
    refine gIte h (fun hx h => ?_) (fun hx12 h => ?_)
    · refine Wx.swIn ok kL_law 21 rfl (tgt := 528) (by rw [hx]; decide) (by rw [hx]; decide) (by rw [hx]; rfl) (by decide) ?_
      refine Wx.run ok kL_law 326 5 (lv' := [(0, .inr (.inr (some sb))), (1, .inr (.inr v1)), (2, .inr (.inr v2)), (3, .inl v3)]) (st' := [.inl (v3 + (1 : Int32)), .inr (.inr (some sb)), .inr (.inr v1)]) (pc' := 533) rfl ?_
      refine Wx.scr ok kL_law 331 rfl hsc h (fun t533 h => ?_)
      refine Wx.run ok kL_law 332 4 (lv' := [(0, .inr (.inr (some sb))), (1, .inr (.inr v1)), (2, .inr (.inr v2)), (3, .inl v3)]) (st' := [.inl (v3 + (2 : Int32)), .inr (.inr (some sb)), .inl t533, .inr (.inr v1)]) (pc' := 538) rfl ?_
      refine Wx.scr ok kL_law 336 rfl hsc h (fun t538 h => ?_)
      refine Wx.run ok kL_law 337 4 (lv' := [(0, .inr (.inr (some sb))), (1, .inr (.inr v1)), (2, .inr (.inr v2)), (3, .inl v3)]) (st' := [.inl (v3 + (3 : Int32)), .inr (.inr (some sb)), .inl t538, .inl t533, .inr (.inr v1)]) (pc' := 543) rfl ?_
      refine Wx.scr ok kL_law 341 rfl hsc h (fun t543 h => ?_)
      obtain ⟨a544, ha544, h⟩ := gob h
      obtain ⟨q544, hq544, h⟩ := gob h
      refine Wx.callV ok kL_law 342 rfl lm_RL_65 cd_X6_made ha544 [.inl t533, .inl t538, .inl t543] (some (.inl q544.1)) (aX6_made _ _ hq544) (by have hb1 := hb.1; have hb2 := hb.2; refine ⟨?_, ?_, ?_, ?_⟩ <;> simp only [rmX6_made, room_1] <;> omega) rfl (Nat.le_of_ble_eq_true rfl) rfl rfl ?_
      refine Wx.run ok kL_law 343 5 (lv' := [(0, .inr (.inr (some sb))), (1, .inr (.inr v1)), (2, .inr (.inr v2)), (3, .inl v3)]) (st' := [.inl (v3 + (1 : Int32)), .inr (.inr (some sb)), .inr (.inr v2), .inl q544.1]) (pc' := 552) rfl ?_
      refine Wx.scr ok kL_law 348 rfl hsc h (fun t552 h => ?_)
      refine Wx.run ok kL_law 349 4 (lv' := [(0, .inr (.inr (some sb))), (1, .inr (.inr v1)), (2, .inr (.inr v2)), (3, .inl v3)]) (st' := [.inl (v3 + (2 : Int32)), .inr (.inr (some sb)), .inl t552, .inr (.inr v2), .inl q544.1]) (pc' := 557) rfl ?_
      refine Wx.scr ok kL_law 353 rfl hsc h (fun t557 h => ?_)
      refine Wx.run ok kL_law 354 4 (lv' := [(0, .inr (.inr (some sb))), (1, .inr (.inr v1)), (2, .inr (.inr v2)), (3, .inl v3)]) (st' := [.inl (v3 + (3 : Int32)), .inr (.inr (some sb)), .inl t557, .inl t552, .inr (.inr v2), .inl q544.1]) (pc' := 562) rfl ?_
      refine Wx.scr ok kL_law 358 rfl hsc h (fun t562 h => ?_)
      obtain ⟨a563, ha563, h⟩ := gob h
      obtain ⟨q563, hq563, h⟩ := gob h
      refine Wx.callV ok kL_law 359 rfl lm_RL_68 cd_X7_made ha563 [.inl t552, .inl t557, .inl t562] (some (.inl q563.1)) (aX7_made _ _ hq563) (by have hb1 := hb.1; have hb2 := hb.2; refine ⟨?_, ?_, ?_, ?_⟩ <;> simp only [rmX6_made, rmX7_made, room_1] <;> omega) rfl (Nat.le_of_ble_eq_true rfl) rfl rfl ?_
      refine Wx.icmp_eq ok kL_law 360 (tgt := 1082) rfl (by decide) h (fun hc566 h => ?_) (fun hc566 h => ?_)
      · refine Wx.widen (k := (cl + 12)) (n := (sl + 12315)) (by have hb1 := hb.1; have hb2 := hb.2; first | omega | (simp only [rmX6_made, rmX7_made, room_1]; omega)) (by have hb1 := hb.1; have hb2 := hb.2; first | omega | (simp only [rmX6_made, rmX7_made, room_1]; omega)) ?_
        exact aL_law_b1082 ok hres (F := F) hsc hb r hr _ _ _ _ h
      · refine Wx.run ok kL_law 361 1 (lv' := [(0, .inr (.inr (some sb))), (1, .inr (.inr v1)), (2, .inr (.inr v2)), (3, .inl v3)]) (st' := [.inl (0 : Int32)]) (pc' := 570) rfl ?_
        cases h
    refine gIte h (fun hx h => ?_) (fun hx13 h => ?_)
    · refine Wx.swIn ok kL_law 21 rfl (tgt := 571) (by rw [hx]; decide) (by rw [hx]; decide) (by rw [hx]; rfl) (by decide) ?_
      refine Wx.run ok kL_law 363 5 (lv' := [(0, .inr (.inr (some sb))), (1, .inr (.inr v1)), (2, .inr (.inr v2)), (3, .inl v3)]) (st' := [.inl (v3 + (1 : Int32)), .inr (.inr (some sb)), .inr (.inr v1)]) (pc' := 576) rfl ?_
      refine Wx.scr ok kL_law 368 rfl hsc h (fun t576 h => ?_)
      refine Wx.run ok kL_law 369 4 (lv' := [(0, .inr (.inr (some sb))), (1, .inr (.inr v1)), (2, .inr (.inr v2)), (3, .inl v3)]) (st' := [.inl (v3 + (2 : Int32)), .inr (.inr (some sb)), .inl t576, .inr (.inr v1)]) (pc' := 581) rfl ?_
      refine Wx.scr ok kL_law 373 rfl hsc h (fun t581 h => ?_)
      refine Wx.run ok kL_law 374 4 (lv' := [(0, .inr (.inr (some sb))), (1, .inr (.inr v1)), (2, .inr (.inr v2)), (3, .inl v3)]) (st' := [.inl (v3 + (3 : Int32)), .inr (.inr (some sb)), .inl t581, .inl t576, .inr (.inr v1)]) (pc' := 586) rfl ?_
      refine Wx.scr ok kL_law 378 rfl hsc h (fun t586 h => ?_)
      obtain ⟨a587, ha587, h⟩ := gob h
      obtain ⟨q587, hq587, h⟩ := gob h
      refine Wx.callV ok kL_law 379 rfl lm_RL_69 cd_X6_same ha587 [.inl t576, .inl t581, .inl t586] (some (.inl q587.1)) (aX6_same _ _ hq587) (by have hb1 := hb.1; have hb2 := hb.2; refine ⟨?_, ?_, ?_, ?_⟩ <;> simp only [rmX6_same, room_1] <;> omega) rfl (Nat.le_of_ble_eq_true rfl) rfl rfl ?_
      refine Wx.run ok kL_law 380 5 (lv' := [(0, .inr (.inr (some sb))), (1, .inr (.inr v1)), (2, .inr (.inr v2)), (3, .inl v3)]) (st' := [.inl (v3 + (1 : Int32)), .inr (.inr (some sb)), .inr (.inr v2), .inl q587.1]) (pc' := 595) rfl ?_
      refine Wx.scr ok kL_law 385 rfl hsc h (fun t595 h => ?_)
      refine Wx.run ok kL_law 386 4 (lv' := [(0, .inr (.inr (some sb))), (1, .inr (.inr v1)), (2, .inr (.inr v2)), (3, .inl v3)]) (st' := [.inl (v3 + (2 : Int32)), .inr (.inr (some sb)), .inl t595, .inr (.inr v2), .inl q587.1]) (pc' := 600) rfl ?_
      refine Wx.scr ok kL_law 390 rfl hsc h (fun t600 h => ?_)
      refine Wx.run ok kL_law 391 4 (lv' := [(0, .inr (.inr (some sb))), (1, .inr (.inr v1)), (2, .inr (.inr v2)), (3, .inl v3)]) (st' := [.inl (v3 + (3 : Int32)), .inr (.inr (some sb)), .inl t600, .inl t595, .inr (.inr v2), .inl q587.1]) (pc' := 605) rfl ?_
      refine Wx.scr ok kL_law 395 rfl hsc h (fun t605 h => ?_)
      obtain ⟨a606, ha606, h⟩ := gob h
      obtain ⟨q606, hq606, h⟩ := gob h
      refine Wx.callV ok kL_law 396 rfl lm_RL_72 cd_X7_same ha606 [.inl t595, .inl t600, .inl t605] (some (.inl q606.1)) (aX7_same _ _ hq606) (by have hb1 := hb.1; have hb2 := hb.2; refine ⟨?_, ?_, ?_, ?_⟩ <;> simp only [rmX6_same, rmX7_same, room_1] <;> omega) rfl (Nat.le_of_ble_eq_true rfl) rfl rfl ?_
      refine Wx.icmp_eq ok kL_law 397 (tgt := 1082) rfl (by decide) h (fun hc609 h => ?_) (fun hc609 h => ?_)
      · refine Wx.widen (k := (cl + 12)) (n := (sl + 12315)) (by have hb1 := hb.1; have hb2 := hb.2; first | omega | (simp only [rmX6_same, rmX7_same, room_1]; omega)) (by have hb1 := hb.1; have hb2 := hb.2; first | omega | (simp only [rmX6_same, rmX7_same, room_1]; omega)) ?_
        exact aL_law_b1082 ok hres (F := F) hsc hb r hr _ _ _ _ h
      · refine Wx.run ok kL_law 398 1 (lv' := [(0, .inr (.inr (some sb))), (1, .inr (.inr v1)), (2, .inr (.inr v2)), (3, .inl v3)]) (st' := [.inl (0 : Int32)]) (pc' := 613) rfl ?_
        cases h
    refine gIte h (fun hx h => ?_) (fun hx14 h => ?_)
    · refine Wx.swIn ok kL_law 21 rfl (tgt := 614) (by rw [hx]; decide) (by rw [hx]; decide) (by rw [hx]; rfl) (by decide) ?_
      refine Wx.run ok kL_law 400 5 (lv' := [(0, .inr (.inr (some sb))), (1, .inr (.inr v1)), (2, .inr (.inr v2)), (3, .inl v3)]) (st' := [.inl (v3 + (1 : Int32)), .inr (.inr (some sb)), .inr (.inr v1)]) (pc' := 619) rfl ?_
      refine Wx.scr ok kL_law 405 rfl hsc h (fun t619 h => ?_)
      refine Wx.run ok kL_law 406 4 (lv' := [(0, .inr (.inr (some sb))), (1, .inr (.inr v1)), (2, .inr (.inr v2)), (3, .inl v3)]) (st' := [.inl (v3 + (2 : Int32)), .inr (.inr (some sb)), .inl t619, .inr (.inr v1)]) (pc' := 624) rfl ?_
      refine Wx.scr ok kL_law 410 rfl hsc h (fun t624 h => ?_)
      refine Wx.run ok kL_law 411 4 (lv' := [(0, .inr (.inr (some sb))), (1, .inr (.inr v1)), (2, .inr (.inr v2)), (3, .inl v3)]) (st' := [.inl (v3 + (3 : Int32)), .inr (.inr (some sb)), .inl t624, .inl t619, .inr (.inr v1)]) (pc' := 629) rfl ?_
      refine Wx.scr ok kL_law 415 rfl hsc h (fun t629 h => ?_)
      obtain ⟨a630, ha630, h⟩ := gob h
      obtain ⟨q630, hq630, h⟩ := gob h
      refine Wx.callV ok kL_law 416 rfl lm_RL_73 cd_X6_module ha630 [.inl t619, .inl t624, .inl t629] (some (.inl q630.1)) (aX6_module _ _ hq630) (by have hb1 := hb.1; have hb2 := hb.2; refine ⟨?_, ?_, ?_, ?_⟩ <;> simp only [rmX6_module, room_1] <;> omega) rfl (Nat.le_of_ble_eq_true rfl) rfl rfl ?_
      refine Wx.run ok kL_law 417 5 (lv' := [(0, .inr (.inr (some sb))), (1, .inr (.inr v1)), (2, .inr (.inr v2)), (3, .inl v3)]) (st' := [.inl (v3 + (1 : Int32)), .inr (.inr (some sb)), .inr (.inr v2), .inl q630.1]) (pc' := 638) rfl ?_
      refine Wx.scr ok kL_law 422 rfl hsc h (fun t638 h => ?_)
      refine Wx.run ok kL_law 423 4 (lv' := [(0, .inr (.inr (some sb))), (1, .inr (.inr v1)), (2, .inr (.inr v2)), (3, .inl v3)]) (st' := [.inl (v3 + (2 : Int32)), .inr (.inr (some sb)), .inl t638, .inr (.inr v2), .inl q630.1]) (pc' := 643) rfl ?_
      refine Wx.scr ok kL_law 427 rfl hsc h (fun t643 h => ?_)
      refine Wx.run ok kL_law 428 4 (lv' := [(0, .inr (.inr (some sb))), (1, .inr (.inr v1)), (2, .inr (.inr v2)), (3, .inl v3)]) (st' := [.inl (v3 + (3 : Int32)), .inr (.inr (some sb)), .inl t643, .inl t638, .inr (.inr v2), .inl q630.1]) (pc' := 648) rfl ?_
      refine Wx.scr ok kL_law 432 rfl hsc h (fun t648 h => ?_)
      obtain ⟨a649, ha649, h⟩ := gob h
      obtain ⟨q649, hq649, h⟩ := gob h
      refine Wx.callV ok kL_law 433 rfl lm_RL_76 cd_X7_module ha649 [.inl t638, .inl t643, .inl t648] (some (.inl q649.1)) (aX7_module _ _ hq649) (by have hb1 := hb.1; have hb2 := hb.2; refine ⟨?_, ?_, ?_, ?_⟩ <;> simp only [rmX6_module, rmX7_module, room_1] <;> omega) rfl (Nat.le_of_ble_eq_true rfl) rfl rfl ?_
      refine Wx.icmp_eq ok kL_law 434 (tgt := 1082) rfl (by decide) h (fun hc652 h => ?_) (fun hc652 h => ?_)
      · refine Wx.widen (k := (cl + 12)) (n := (sl + 12315)) (by have hb1 := hb.1; have hb2 := hb.2; first | omega | (simp only [rmX6_module, rmX7_module, room_1]; omega)) (by have hb1 := hb.1; have hb2 := hb.2; first | omega | (simp only [rmX6_module, rmX7_module, room_1]; omega)) ?_
        exact aL_law_b1082 ok hres (F := F) hsc hb r hr _ _ _ _ h
      · refine Wx.run ok kL_law 435 1 (lv' := [(0, .inr (.inr (some sb))), (1, .inr (.inr v1)), (2, .inr (.inr v2)), (3, .inl v3)]) (st' := [.inl (0 : Int32)]) (pc' := 656) rfl ?_
        cases h
    refine gIte h (fun hx h => ?_) (fun hx15 h => ?_)
    · refine Wx.swIn ok kL_law 21 rfl (tgt := 657) (by rw [hx]; decide) (by rw [hx]; decide) (by rw [hx]; rfl) (by decide) ?_
      refine Wx.run ok kL_law 437 5 (lv' := [(0, .inr (.inr (some sb))), (1, .inr (.inr v1)), (2, .inr (.inr v2)), (3, .inl v3)]) (st' := [.inl (v3 + (1 : Int32)), .inr (.inr (some sb)), .inr (.inr v1)]) (pc' := 662) rfl ?_
      refine Wx.scr ok kL_law 442 rfl hsc h (fun t662 h => ?_)
      refine Wx.run ok kL_law 443 4 (lv' := [(0, .inr (.inr (some sb))), (1, .inr (.inr v1)), (2, .inr (.inr v2)), (3, .inl v3)]) (st' := [.inl (v3 + (2 : Int32)), .inr (.inr (some sb)), .inl t662, .inr (.inr v1)]) (pc' := 667) rfl ?_
      refine Wx.scr ok kL_law 447 rfl hsc h (fun t667 h => ?_)
      refine Wx.run ok kL_law 448 4 (lv' := [(0, .inr (.inr (some sb))), (1, .inr (.inr v1)), (2, .inr (.inr v2)), (3, .inl v3)]) (st' := [.inl (v3 + (3 : Int32)), .inr (.inr (some sb)), .inl t667, .inl t662, .inr (.inr v1)]) (pc' := 672) rfl ?_
      refine Wx.scr ok kL_law 452 rfl hsc h (fun t672 h => ?_)
      refine Wx.run ok kL_law 453 4 (lv' := [(0, .inr (.inr (some sb))), (1, .inr (.inr v1)), (2, .inr (.inr v2)), (3, .inl v3)]) (st' := [.inl (v3 + (4 : Int32)), .inr (.inr (some sb)), .inl t672, .inl t667, .inl t662, .inr (.inr v1)]) (pc' := 677) rfl ?_
      refine Wx.scr ok kL_law 457 rfl hsc h (fun t677 h => ?_)
      refine Wx.run ok kL_law 458 4 (lv' := [(0, .inr (.inr (some sb))), (1, .inr (.inr v1)), (2, .inr (.inr v2)), (3, .inl v3)]) (st' := [.inl (v3 + (5 : Int32)), .inr (.inr (some sb)), .inl t677, .inl t672, .inl t667, .inl t662, .inr (.inr v1)]) (pc' := 682) rfl ?_
      refine Wx.scr ok kL_law 462 rfl hsc h (fun t682 h => ?_)
      refine Wx.run ok kL_law 463 4 (lv' := [(0, .inr (.inr (some sb))), (1, .inr (.inr v1)), (2, .inr (.inr v2)), (3, .inl v3)]) (st' := [.inl (v3 + (6 : Int32)), .inr (.inr (some sb)), .inl t682, .inl t677, .inl t672, .inl t667, .inl t662, .inr (.inr v1)]) (pc' := 688) rfl ?_
      refine Wx.scr ok kL_law 467 rfl hsc h (fun t688 h => ?_)
      obtain ⟨a689, ha689, h⟩ := gob h
      obtain ⟨q689, hq689, h⟩ := gob h
      refine Wx.callV ok kL_law 468 rfl lm_RL_77 cd_X6_acts ha689 [.inl t662, .inl t667, .inl t672, .inl t677, .inl t682, .inl t688] (some (.inl q689.1)) (aX6_acts _ _ hq689) (by have hb1 := hb.1; have hb2 := hb.2; refine ⟨?_, ?_, ?_, ?_⟩ <;> simp only [rmX6_acts, room_1] <;> omega) rfl (Nat.le_of_ble_eq_true rfl) rfl rfl ?_
      refine Wx.run ok kL_law 469 5 (lv' := [(0, .inr (.inr (some sb))), (1, .inr (.inr v1)), (2, .inr (.inr v2)), (3, .inl v3)]) (st' := [.inl (v3 + (1 : Int32)), .inr (.inr (some sb)), .inr (.inr v2), .inl q689.1]) (pc' := 697) rfl ?_
      refine Wx.scr ok kL_law 474 rfl hsc h (fun t697 h => ?_)
      refine Wx.run ok kL_law 475 4 (lv' := [(0, .inr (.inr (some sb))), (1, .inr (.inr v1)), (2, .inr (.inr v2)), (3, .inl v3)]) (st' := [.inl (v3 + (2 : Int32)), .inr (.inr (some sb)), .inl t697, .inr (.inr v2), .inl q689.1]) (pc' := 702) rfl ?_
      refine Wx.scr ok kL_law 479 rfl hsc h (fun t702 h => ?_)
      refine Wx.run ok kL_law 480 4 (lv' := [(0, .inr (.inr (some sb))), (1, .inr (.inr v1)), (2, .inr (.inr v2)), (3, .inl v3)]) (st' := [.inl (v3 + (3 : Int32)), .inr (.inr (some sb)), .inl t702, .inl t697, .inr (.inr v2), .inl q689.1]) (pc' := 707) rfl ?_
      refine Wx.scr ok kL_law 484 rfl hsc h (fun t707 h => ?_)
      refine Wx.run ok kL_law 485 4 (lv' := [(0, .inr (.inr (some sb))), (1, .inr (.inr v1)), (2, .inr (.inr v2)), (3, .inl v3)]) (st' := [.inl (v3 + (4 : Int32)), .inr (.inr (some sb)), .inl t707, .inl t702, .inl t697, .inr (.inr v2), .inl q689.1]) (pc' := 712) rfl ?_
      refine Wx.scr ok kL_law 489 rfl hsc h (fun t712 h => ?_)
      refine Wx.run ok kL_law 490 4 (lv' := [(0, .inr (.inr (some sb))), (1, .inr (.inr v1)), (2, .inr (.inr v2)), (3, .inl v3)]) (st' := [.inl (v3 + (5 : Int32)), .inr (.inr (some sb)), .inl t712, .inl t707, .inl t702, .inl t697, .inr (.inr v2), .inl q689.1]) (pc' := 717) rfl ?_
      refine Wx.scr ok kL_law 494 rfl hsc h (fun t717 h => ?_)
      refine Wx.run ok kL_law 495 4 (lv' := [(0, .inr (.inr (some sb))), (1, .inr (.inr v1)), (2, .inr (.inr v2)), (3, .inl v3)]) (st' := [.inl (v3 + (6 : Int32)), .inr (.inr (some sb)), .inl t717, .inl t712, .inl t707, .inl t702, .inl t697, .inr (.inr v2), .inl q689.1]) (pc' := 723) rfl ?_
      refine Wx.scr ok kL_law 499 rfl hsc h (fun t723 h => ?_)
      obtain ⟨a724, ha724, h⟩ := gob h
      obtain ⟨q724, hq724, h⟩ := gob h
      refine Wx.callV ok kL_law 500 rfl lm_RL_81 cd_X7_acts ha724 [.inl t697, .inl t702, .inl t707, .inl t712, .inl t717, .inl t723] (some (.inl q724.1)) (aX7_acts _ _ hq724) (by have hb1 := hb.1; have hb2 := hb.2; refine ⟨?_, ?_, ?_, ?_⟩ <;> simp only [rmX6_acts, rmX7_acts, room_1] <;> omega) rfl (Nat.le_of_ble_eq_true rfl) rfl rfl ?_
      refine Wx.icmp_eq ok kL_law 501 (tgt := 1082) rfl (by decide) h (fun hc727 h => ?_) (fun hc727 h => ?_)
      · refine Wx.widen (k := (cl + 12)) (n := (sl + 12315)) (by have hb1 := hb.1; have hb2 := hb.2; first | omega | (simp only [rmX6_acts, rmX7_acts, room_1]; omega)) (by have hb1 := hb.1; have hb2 := hb.2; first | omega | (simp only [rmX6_acts, rmX7_acts, room_1]; omega)) ?_
        exact aL_law_b1082 ok hres (F := F) hsc hb r hr _ _ _ _ h
      · refine Wx.run ok kL_law 502 1 (lv' := [(0, .inr (.inr (some sb))), (1, .inr (.inr v1)), (2, .inr (.inr v2)), (3, .inl v3)]) (st' := [.inl (0 : Int32)]) (pc' := 731) rfl ?_
        cases h
    refine gIte h (fun hx h => ?_) (fun hx16 h => ?_)
    · refine Wx.swIn ok kL_law 21 rfl (tgt := 732) (by rw [hx]; decide) (by rw [hx]; decide) (by rw [hx]; rfl) (by decide) ?_
      refine Wx.run ok kL_law 504 5 (lv' := [(0, .inr (.inr (some sb))), (1, .inr (.inr v1)), (2, .inr (.inr v2)), (3, .inl v3)]) (st' := [.inl (v3 + (1 : Int32)), .inr (.inr (some sb)), .inr (.inr v1)]) (pc' := 737) rfl ?_
      refine Wx.scr ok kL_law 509 rfl hsc h (fun t737 h => ?_)
      obtain ⟨a738, ha738, h⟩ := gob h
      obtain ⟨q738, hq738, h⟩ := gob h
      refine Wx.callV ok kL_law 510 rfl lm_RL_82 cd_X6_sound ha738 [.inl t737] (some (.inl q738.1)) (aX6_sound _ _ hq738) (by have hb1 := hb.1; have hb2 := hb.2; refine ⟨?_, ?_, ?_, ?_⟩ <;> simp only [rmX6_sound, room_1] <;> omega) rfl (Nat.le_of_ble_eq_true rfl) rfl rfl ?_
      refine Wx.run ok kL_law 511 5 (lv' := [(0, .inr (.inr (some sb))), (1, .inr (.inr v1)), (2, .inr (.inr v2)), (3, .inl v3)]) (st' := [.inl (v3 + (1 : Int32)), .inr (.inr (some sb)), .inr (.inr v2), .inl q738.1]) (pc' := 746) rfl ?_
      refine Wx.scr ok kL_law 516 rfl hsc h (fun t746 h => ?_)
      obtain ⟨a747, ha747, h⟩ := gob h
      obtain ⟨q747, hq747, h⟩ := gob h
      refine Wx.callV ok kL_law 517 rfl lm_RL_85 cd_X7_sound ha747 [.inl t746] (some (.inl q747.1)) (aX7_sound _ _ hq747) (by have hb1 := hb.1; have hb2 := hb.2; refine ⟨?_, ?_, ?_, ?_⟩ <;> simp only [rmX6_sound, rmX7_sound, room_1] <;> omega) rfl (Nat.le_of_ble_eq_true rfl) rfl rfl ?_
      refine Wx.icmp_eq ok kL_law 518 (tgt := 1082) rfl (by decide) h (fun hc750 h => ?_) (fun hc750 h => ?_)
      · refine Wx.widen (k := (cl + 12)) (n := (sl + 12315)) (by have hb1 := hb.1; have hb2 := hb.2; first | omega | (simp only [rmX6_sound, rmX7_sound, room_1]; omega)) (by have hb1 := hb.1; have hb2 := hb.2; first | omega | (simp only [rmX6_sound, rmX7_sound, room_1]; omega)) ?_
        exact aL_law_b1082 ok hres (F := F) hsc hb r hr _ _ _ _ h
      · refine Wx.run ok kL_law 519 1 (lv' := [(0, .inr (.inr (some sb))), (1, .inr (.inr v1)), (2, .inr (.inr v2)), (3, .inl v3)]) (st' := [.inl (0 : Int32)]) (pc' := 754) rfl ?_
        cases h
    refine gIte h (fun hx h => ?_) (fun hx17 h => ?_)
    · refine Wx.swIn ok kL_law 21 rfl (tgt := 755) (by rw [hx]; decide) (by rw [hx]; decide) (by rw [hx]; rfl) (by decide) ?_
      refine Wx.run ok kL_law 521 5 (lv' := [(0, .inr (.inr (some sb))), (1, .inr (.inr v1)), (2, .inr (.inr v2)), (3, .inl v3)]) (st' := [.inl (v3 + (1 : Int32)), .inr (.inr (some sb)), .inr (.inr v1)]) (pc' := 760) rfl ?_
      refine Wx.scr ok kL_law 526 rfl hsc h (fun t760 h => ?_)
      refine Wx.run ok kL_law 527 4 (lv' := [(0, .inr (.inr (some sb))), (1, .inr (.inr v1)), (2, .inr (.inr v2)), (3, .inl v3)]) (st' := [.inl (v3 + (2 : Int32)), .inr (.inr (some sb)), .inl t760, .inr (.inr v1)]) (pc' := 765) rfl ?_
      refine Wx.scr ok kL_law 531 rfl hsc h (fun t765 h => ?_)
      obtain ⟨a766, ha766, h⟩ := gob h
      obtain ⟨q766, hq766, h⟩ := gob h
      refine Wx.callV ok kL_law 532 rfl lm_RL_86 cd_X6_dimension ha766 [.inl t760, .inl t765] (some (.inl q766.1)) (aX6_dimension _ _ hq766) (by have hb1 := hb.1; have hb2 := hb.2; refine ⟨?_, ?_, ?_, ?_⟩ <;> simp only [rmX6_dimension, room_1] <;> omega) rfl (Nat.le_of_ble_eq_true rfl) rfl rfl ?_
      refine Wx.run ok kL_law 533 5 (lv' := [(0, .inr (.inr (some sb))), (1, .inr (.inr v1)), (2, .inr (.inr v2)), (3, .inl v3)]) (st' := [.inl (v3 + (1 : Int32)), .inr (.inr (some sb)), .inr (.inr v2), .inl q766.1]) (pc' := 774) rfl ?_
      refine Wx.scr ok kL_law 538 rfl hsc h (fun t774 h => ?_)
      refine Wx.run ok kL_law 539 4 (lv' := [(0, .inr (.inr (some sb))), (1, .inr (.inr v1)), (2, .inr (.inr v2)), (3, .inl v3)]) (st' := [.inl (v3 + (2 : Int32)), .inr (.inr (some sb)), .inl t774, .inr (.inr v2), .inl q766.1]) (pc' := 779) rfl ?_
      refine Wx.scr ok kL_law 543 rfl hsc h (fun t779 h => ?_)
      obtain ⟨a780, ha780, h⟩ := gob h
      obtain ⟨q780, hq780, h⟩ := gob h
      refine Wx.callV ok kL_law 544 rfl lm_RL_89 cd_X7_dimension ha780 [.inl t774, .inl t779] (some (.inl q780.1)) (aX7_dimension _ _ hq780) (by have hb1 := hb.1; have hb2 := hb.2; refine ⟨?_, ?_, ?_, ?_⟩ <;> simp only [rmX6_dimension, rmX7_dimension, room_1] <;> omega) rfl (Nat.le_of_ble_eq_true rfl) rfl rfl ?_
      refine Wx.icmp_eq ok kL_law 545 (tgt := 1082) rfl (by decide) h (fun hc783 h => ?_) (fun hc783 h => ?_)
      · refine Wx.widen (k := (cl + 12)) (n := (sl + 12315)) (by have hb1 := hb.1; have hb2 := hb.2; first | omega | (simp only [rmX6_dimension, rmX7_dimension, room_1]; omega)) (by have hb1 := hb.1; have hb2 := hb.2; first | omega | (simp only [rmX6_dimension, rmX7_dimension, room_1]; omega)) ?_
        exact aL_law_b1082 ok hres (F := F) hsc hb r hr _ _ _ _ h
      · refine Wx.run ok kL_law 546 1 (lv' := [(0, .inr (.inr (some sb))), (1, .inr (.inr v1)), (2, .inr (.inr v2)), (3, .inl v3)]) (st' := [.inl (0 : Int32)]) (pc' := 787) rfl ?_
        cases h
    refine gIte h (fun hx h => ?_) (fun hx18 h => ?_)
    · refine Wx.swIn ok kL_law 21 rfl (tgt := 788) (by rw [hx]; decide) (by rw [hx]; decide) (by rw [hx]; rfl) (by decide) ?_
      refine Wx.run ok kL_law 548 5 (lv' := [(0, .inr (.inr (some sb))), (1, .inr (.inr v1)), (2, .inr (.inr v2)), (3, .inl v3)]) (st' := [.inl (v3 + (1 : Int32)), .inr (.inr (some sb)), .inr (.inr v1)]) (pc' := 793) rfl ?_
      refine Wx.scr ok kL_law 553 rfl hsc h (fun t793 h => ?_)
      refine Wx.run ok kL_law 554 4 (lv' := [(0, .inr (.inr (some sb))), (1, .inr (.inr v1)), (2, .inr (.inr v2)), (3, .inl v3)]) (st' := [.inl (v3 + (2 : Int32)), .inr (.inr (some sb)), .inl t793, .inr (.inr v1)]) (pc' := 798) rfl ?_
      refine Wx.scr ok kL_law 558 rfl hsc h (fun t798 h => ?_)
      refine Wx.run ok kL_law 559 4 (lv' := [(0, .inr (.inr (some sb))), (1, .inr (.inr v1)), (2, .inr (.inr v2)), (3, .inl v3)]) (st' := [.inl (v3 + (3 : Int32)), .inr (.inr (some sb)), .inl t798, .inl t793, .inr (.inr v1)]) (pc' := 803) rfl ?_
      refine Wx.scr ok kL_law 563 rfl hsc h (fun t803 h => ?_)
      refine Wx.run ok kL_law 564 4 (lv' := [(0, .inr (.inr (some sb))), (1, .inr (.inr v1)), (2, .inr (.inr v2)), (3, .inl v3)]) (st' := [.inl (v3 + (4 : Int32)), .inr (.inr (some sb)), .inl t803, .inl t798, .inl t793, .inr (.inr v1)]) (pc' := 808) rfl ?_
      refine Wx.scr ok kL_law 568 rfl hsc h (fun t808 h => ?_)
      refine Wx.run ok kL_law 569 4 (lv' := [(0, .inr (.inr (some sb))), (1, .inr (.inr v1)), (2, .inr (.inr v2)), (3, .inl v3)]) (st' := [.inl (v3 + (5 : Int32)), .inr (.inr (some sb)), .inl t808, .inl t803, .inl t798, .inl t793, .inr (.inr v1)]) (pc' := 813) rfl ?_
      refine Wx.scr ok kL_law 573 rfl hsc h (fun t813 h => ?_)
      obtain ⟨a814, ha814, h⟩ := gob h
      obtain ⟨q814, hq814, h⟩ := gob h
      refine Wx.callV ok kL_law 574 rfl lm_RL_90 cd_X6_twist ha814 [.inl t793, .inl t798, .inl t803, .inl t808, .inl t813] (some (.inl q814.1)) (aX6_twist _ _ hq814) (by have hb1 := hb.1; have hb2 := hb.2; refine ⟨?_, ?_, ?_, ?_⟩ <;> simp only [rmX6_twist, room_1] <;> omega) rfl (Nat.le_of_ble_eq_true rfl) rfl rfl ?_
      refine Wx.run ok kL_law 575 5 (lv' := [(0, .inr (.inr (some sb))), (1, .inr (.inr v1)), (2, .inr (.inr v2)), (3, .inl v3)]) (st' := [.inl (v3 + (1 : Int32)), .inr (.inr (some sb)), .inr (.inr v2), .inl q814.1]) (pc' := 822) rfl ?_
      refine Wx.scr ok kL_law 580 rfl hsc h (fun t822 h => ?_)
      refine Wx.run ok kL_law 581 4 (lv' := [(0, .inr (.inr (some sb))), (1, .inr (.inr v1)), (2, .inr (.inr v2)), (3, .inl v3)]) (st' := [.inl (v3 + (2 : Int32)), .inr (.inr (some sb)), .inl t822, .inr (.inr v2), .inl q814.1]) (pc' := 827) rfl ?_
      refine Wx.scr ok kL_law 585 rfl hsc h (fun t827 h => ?_)
      refine Wx.run ok kL_law 586 4 (lv' := [(0, .inr (.inr (some sb))), (1, .inr (.inr v1)), (2, .inr (.inr v2)), (3, .inl v3)]) (st' := [.inl (v3 + (3 : Int32)), .inr (.inr (some sb)), .inl t827, .inl t822, .inr (.inr v2), .inl q814.1]) (pc' := 832) rfl ?_
      refine Wx.scr ok kL_law 590 rfl hsc h (fun t832 h => ?_)
      refine Wx.run ok kL_law 591 4 (lv' := [(0, .inr (.inr (some sb))), (1, .inr (.inr v1)), (2, .inr (.inr v2)), (3, .inl v3)]) (st' := [.inl (v3 + (4 : Int32)), .inr (.inr (some sb)), .inl t832, .inl t827, .inl t822, .inr (.inr v2), .inl q814.1]) (pc' := 837) rfl ?_
      refine Wx.scr ok kL_law 595 rfl hsc h (fun t837 h => ?_)
      refine Wx.run ok kL_law 596 4 (lv' := [(0, .inr (.inr (some sb))), (1, .inr (.inr v1)), (2, .inr (.inr v2)), (3, .inl v3)]) (st' := [.inl (v3 + (5 : Int32)), .inr (.inr (some sb)), .inl t837, .inl t832, .inl t827, .inl t822, .inr (.inr v2), .inl q814.1]) (pc' := 842) rfl ?_
      refine Wx.scr ok kL_law 600 rfl hsc h (fun t842 h => ?_)
      obtain ⟨a843, ha843, h⟩ := gob h
      obtain ⟨q843, hq843, h⟩ := gob h
      refine Wx.callV ok kL_law 601 rfl lm_RL_94 cd_X7_twist ha843 [.inl t822, .inl t827, .inl t832, .inl t837, .inl t842] (some (.inl q843.1)) (aX7_twist _ _ hq843) (by have hb1 := hb.1; have hb2 := hb.2; refine ⟨?_, ?_, ?_, ?_⟩ <;> simp only [rmX6_twist, rmX7_twist, room_1] <;> omega) rfl (Nat.le_of_ble_eq_true rfl) rfl rfl ?_
      refine Wx.icmp_eq ok kL_law 602 (tgt := 1082) rfl (by decide) h (fun hc846 h => ?_) (fun hc846 h => ?_)
      · refine Wx.widen (k := (cl + 12)) (n := (sl + 12315)) (by have hb1 := hb.1; have hb2 := hb.2; first | omega | (simp only [rmX6_twist, rmX7_twist, room_1]; omega)) (by have hb1 := hb.1; have hb2 := hb.2; first | omega | (simp only [rmX6_twist, rmX7_twist, room_1]; omega)) ?_
        exact aL_law_b1082 ok hres (F := F) hsc hb r hr _ _ _ _ h
      · refine Wx.run ok kL_law 603 1 (lv' := [(0, .inr (.inr (some sb))), (1, .inr (.inr v1)), (2, .inr (.inr v2)), (3, .inl v3)]) (st' := [.inl (0 : Int32)]) (pc' := 850) rfl ?_
        cases h
    refine gIte h (fun hx h => ?_) (fun hx19 h => ?_)
    · refine Wx.swIn ok kL_law 21 rfl (tgt := 851) (by rw [hx]; decide) (by rw [hx]; decide) (by rw [hx]; rfl) (by decide) ?_
      refine Wx.run ok kL_law 605 5 (lv' := [(0, .inr (.inr (some sb))), (1, .inr (.inr v1)), (2, .inr (.inr v2)), (3, .inl v3)]) (st' := [.inl (v3 + (1 : Int32)), .inr (.inr (some sb)), .inr (.inr v1)]) (pc' := 856) rfl ?_
      refine Wx.scr ok kL_law 610 rfl hsc h (fun t856 h => ?_)
      refine Wx.run ok kL_law 611 4 (lv' := [(0, .inr (.inr (some sb))), (1, .inr (.inr v1)), (2, .inr (.inr v2)), (3, .inl v3)]) (st' := [.inl (v3 + (2 : Int32)), .inr (.inr (some sb)), .inl t856, .inr (.inr v1)]) (pc' := 861) rfl ?_
      refine Wx.scr ok kL_law 615 rfl hsc h (fun t861 h => ?_)
      obtain ⟨a862, ha862, h⟩ := gob h
      obtain ⟨q862, hq862, h⟩ := gob h
      refine Wx.callV ok kL_law 616 rfl lm_RL_95 cd_X6_over ha862 [.inl t856, .inl t861] (some (.inl q862.1)) (aX6_over _ _ hq862) (by have hb1 := hb.1; have hb2 := hb.2; refine ⟨?_, ?_, ?_, ?_⟩ <;> simp only [rmX6_over, room_1] <;> omega) rfl (Nat.le_of_ble_eq_true rfl) rfl rfl ?_
      refine Wx.run ok kL_law 617 5 (lv' := [(0, .inr (.inr (some sb))), (1, .inr (.inr v1)), (2, .inr (.inr v2)), (3, .inl v3)]) (st' := [.inl (v3 + (1 : Int32)), .inr (.inr (some sb)), .inr (.inr v2), .inl q862.1]) (pc' := 870) rfl ?_
      refine Wx.scr ok kL_law 622 rfl hsc h (fun t870 h => ?_)
      refine Wx.run ok kL_law 623 4 (lv' := [(0, .inr (.inr (some sb))), (1, .inr (.inr v1)), (2, .inr (.inr v2)), (3, .inl v3)]) (st' := [.inl (v3 + (2 : Int32)), .inr (.inr (some sb)), .inl t870, .inr (.inr v2), .inl q862.1]) (pc' := 875) rfl ?_
      refine Wx.scr ok kL_law 627 rfl hsc h (fun t875 h => ?_)
      obtain ⟨a876, ha876, h⟩ := gob h
      obtain ⟨q876, hq876, h⟩ := gob h
      refine Wx.callV ok kL_law 628 rfl lm_RL_98 cd_X7_over ha876 [.inl t870, .inl t875] (some (.inl q876.1)) (aX7_over _ _ hq876) (by have hb1 := hb.1; have hb2 := hb.2; refine ⟨?_, ?_, ?_, ?_⟩ <;> simp only [rmX6_over, rmX7_over, room_1] <;> omega) rfl (Nat.le_of_ble_eq_true rfl) rfl rfl ?_
      refine Wx.icmp_eq ok kL_law 629 (tgt := 1082) rfl (by decide) h (fun hc879 h => ?_) (fun hc879 h => ?_)
      · refine Wx.widen (k := (cl + 12)) (n := (sl + 12315)) (by have hb1 := hb.1; have hb2 := hb.2; first | omega | (simp only [rmX6_over, rmX7_over, room_1]; omega)) (by have hb1 := hb.1; have hb2 := hb.2; first | omega | (simp only [rmX6_over, rmX7_over, room_1]; omega)) ?_
        exact aL_law_b1082 ok hres (F := F) hsc hb r hr _ _ _ _ h
      · refine Wx.run ok kL_law 630 1 (lv' := [(0, .inr (.inr (some sb))), (1, .inr (.inr v1)), (2, .inr (.inr v2)), (3, .inl v3)]) (st' := [.inl (0 : Int32)]) (pc' := 883) rfl ?_
        cases h
    refine gIte h (fun hx h => ?_) (fun hx20 h => ?_)
    · refine Wx.swIn ok kL_law 21 rfl (tgt := 884) (by rw [hx]; decide) (by rw [hx]; decide) (by rw [hx]; rfl) (by decide) ?_
      refine Wx.run ok kL_law 632 5 (lv' := [(0, .inr (.inr (some sb))), (1, .inr (.inr v1)), (2, .inr (.inr v2)), (3, .inl v3)]) (st' := [.inl (v3 + (1 : Int32)), .inr (.inr (some sb)), .inr (.inr v1)]) (pc' := 889) rfl ?_
      refine Wx.scr ok kL_law 637 rfl hsc h (fun t889 h => ?_)
      refine Wx.run ok kL_law 638 4 (lv' := [(0, .inr (.inr (some sb))), (1, .inr (.inr v1)), (2, .inr (.inr v2)), (3, .inl v3)]) (st' := [.inl (v3 + (2 : Int32)), .inr (.inr (some sb)), .inl t889, .inr (.inr v1)]) (pc' := 894) rfl ?_
      refine Wx.scr ok kL_law 642 rfl hsc h (fun t894 h => ?_)
      refine Wx.run ok kL_law 643 4 (lv' := [(0, .inr (.inr (some sb))), (1, .inr (.inr v1)), (2, .inr (.inr v2)), (3, .inl v3)]) (st' := [.inl (v3 + (3 : Int32)), .inr (.inr (some sb)), .inl t894, .inl t889, .inr (.inr v1)]) (pc' := 899) rfl ?_
      refine Wx.scr ok kL_law 647 rfl hsc h (fun t899 h => ?_)
      obtain ⟨a900, ha900, h⟩ := gob h
      obtain ⟨q900, hq900, h⟩ := gob h
      refine Wx.callV ok kL_law 648 rfl lm_RL_99 cd_X6_classOf ha900 [.inl t889, .inl t894, .inl t899] (some (.inl q900.1)) (aX6_classOf _ _ hq900) (by have hb1 := hb.1; have hb2 := hb.2; refine ⟨?_, ?_, ?_, ?_⟩ <;> simp only [rmX6_classOf, room_1] <;> omega) rfl (Nat.le_of_ble_eq_true rfl) rfl rfl ?_
      refine Wx.run ok kL_law 649 5 (lv' := [(0, .inr (.inr (some sb))), (1, .inr (.inr v1)), (2, .inr (.inr v2)), (3, .inl v3)]) (st' := [.inl (v3 + (1 : Int32)), .inr (.inr (some sb)), .inr (.inr v2), .inl q900.1]) (pc' := 908) rfl ?_
      refine Wx.scr ok kL_law 654 rfl hsc h (fun t908 h => ?_)
      refine Wx.run ok kL_law 655 4 (lv' := [(0, .inr (.inr (some sb))), (1, .inr (.inr v1)), (2, .inr (.inr v2)), (3, .inl v3)]) (st' := [.inl (v3 + (2 : Int32)), .inr (.inr (some sb)), .inl t908, .inr (.inr v2), .inl q900.1]) (pc' := 913) rfl ?_
      refine Wx.scr ok kL_law 659 rfl hsc h (fun t913 h => ?_)
      refine Wx.run ok kL_law 660 4 (lv' := [(0, .inr (.inr (some sb))), (1, .inr (.inr v1)), (2, .inr (.inr v2)), (3, .inl v3)]) (st' := [.inl (v3 + (3 : Int32)), .inr (.inr (some sb)), .inl t913, .inl t908, .inr (.inr v2), .inl q900.1]) (pc' := 918) rfl ?_
      refine Wx.scr ok kL_law 664 rfl hsc h (fun t918 h => ?_)
      obtain ⟨a919, ha919, h⟩ := gob h
      obtain ⟨q919, hq919, h⟩ := gob h
      refine Wx.callV ok kL_law 665 rfl lm_RL_102 cd_X7_classOf ha919 [.inl t908, .inl t913, .inl t918] (some (.inl q919.1)) (aX7_classOf _ _ hq919) (by have hb1 := hb.1; have hb2 := hb.2; refine ⟨?_, ?_, ?_, ?_⟩ <;> simp only [rmX6_classOf, rmX7_classOf, room_1] <;> omega) rfl (Nat.le_of_ble_eq_true rfl) rfl rfl ?_
      refine Wx.icmp_eq ok kL_law 666 (tgt := 1082) rfl (by decide) h (fun hc922 h => ?_) (fun hc922 h => ?_)
      · refine Wx.widen (k := (cl + 12)) (n := (sl + 12315)) (by have hb1 := hb.1; have hb2 := hb.2; first | omega | (simp only [rmX6_classOf, rmX7_classOf, room_1]; omega)) (by have hb1 := hb.1; have hb2 := hb.2; first | omega | (simp only [rmX6_classOf, rmX7_classOf, room_1]; omega)) ?_
        exact aL_law_b1082 ok hres (F := F) hsc hb r hr _ _ _ _ h
      · refine Wx.run ok kL_law 667 1 (lv' := [(0, .inr (.inr (some sb))), (1, .inr (.inr v1)), (2, .inr (.inr v2)), (3, .inl v3)]) (st' := [.inl (0 : Int32)]) (pc' := 926) rfl ?_
        cases h
    refine gIte h (fun hx h => ?_) (fun hx21 h => ?_)
    · refine Wx.swIn ok kL_law 21 rfl (tgt := 927) (by rw [hx]; decide) (by rw [hx]; decide) (by rw [hx]; rfl) (by decide) ?_
      refine Wx.run ok kL_law 669 5 (lv' := [(0, .inr (.inr (some sb))), (1, .inr (.inr v1)), (2, .inr (.inr v2)), (3, .inl v3)]) (st' := [.inl (v3 + (1 : Int32)), .inr (.inr (some sb)), .inr (.inr v1)]) (pc' := 932) rfl ?_
      refine Wx.scr ok kL_law 674 rfl hsc h (fun t932 h => ?_)
      refine Wx.run ok kL_law 675 4 (lv' := [(0, .inr (.inr (some sb))), (1, .inr (.inr v1)), (2, .inr (.inr v2)), (3, .inl v3)]) (st' := [.inl (v3 + (2 : Int32)), .inr (.inr (some sb)), .inl t932, .inr (.inr v1)]) (pc' := 937) rfl ?_
      refine Wx.scr ok kL_law 679 rfl hsc h (fun t937 h => ?_)
      obtain ⟨a938, ha938, h⟩ := gob h
      obtain ⟨q938, hq938, h⟩ := gob h
      refine Wx.callV ok kL_law 680 rfl lm_RL_103 cd_X6_parts ha938 [.inl t932, .inl t937] (some (.inl q938.1)) (aX6_parts _ _ hq938) (by have hb1 := hb.1; have hb2 := hb.2; refine ⟨?_, ?_, ?_, ?_⟩ <;> simp only [rmX6_parts, room_1] <;> omega) rfl (Nat.le_of_ble_eq_true rfl) rfl rfl ?_
      refine Wx.run ok kL_law 681 5 (lv' := [(0, .inr (.inr (some sb))), (1, .inr (.inr v1)), (2, .inr (.inr v2)), (3, .inl v3)]) (st' := [.inl (v3 + (1 : Int32)), .inr (.inr (some sb)), .inr (.inr v2), .inl q938.1]) (pc' := 946) rfl ?_
      refine Wx.scr ok kL_law 686 rfl hsc h (fun t946 h => ?_)
      refine Wx.run ok kL_law 687 4 (lv' := [(0, .inr (.inr (some sb))), (1, .inr (.inr v1)), (2, .inr (.inr v2)), (3, .inl v3)]) (st' := [.inl (v3 + (2 : Int32)), .inr (.inr (some sb)), .inl t946, .inr (.inr v2), .inl q938.1]) (pc' := 951) rfl ?_
      refine Wx.scr ok kL_law 691 rfl hsc h (fun t951 h => ?_)
      obtain ⟨a952, ha952, h⟩ := gob h
      obtain ⟨q952, hq952, h⟩ := gob h
      refine Wx.callV ok kL_law 692 rfl lm_RL_106 cd_X7_parts ha952 [.inl t946, .inl t951] (some (.inl q952.1)) (aX7_parts _ _ hq952) (by have hb1 := hb.1; have hb2 := hb.2; refine ⟨?_, ?_, ?_, ?_⟩ <;> simp only [rmX6_parts, rmX7_parts, room_1] <;> omega) rfl (Nat.le_of_ble_eq_true rfl) rfl rfl ?_
      refine Wx.icmp_eq ok kL_law 693 (tgt := 1082) rfl (by decide) h (fun hc955 h => ?_) (fun hc955 h => ?_)
      · refine Wx.widen (k := (cl + 12)) (n := (sl + 12315)) (by have hb1 := hb.1; have hb2 := hb.2; first | omega | (simp only [rmX6_parts, rmX7_parts, room_1]; omega)) (by have hb1 := hb.1; have hb2 := hb.2; first | omega | (simp only [rmX6_parts, rmX7_parts, room_1]; omega)) ?_
        exact aL_law_b1082 ok hres (F := F) hsc hb r hr _ _ _ _ h
      · refine Wx.run ok kL_law 694 1 (lv' := [(0, .inr (.inr (some sb))), (1, .inr (.inr v1)), (2, .inr (.inr v2)), (3, .inl v3)]) (st' := [.inl (0 : Int32)]) (pc' := 959) rfl ?_
        cases h
    refine gIte h (fun hx h => ?_) (fun hx22 h => ?_)
    · refine Wx.swIn ok kL_law 21 rfl (tgt := 960) (by rw [hx]; decide) (by rw [hx]; decide) (by rw [hx]; rfl) (by decide) ?_
      refine Wx.run ok kL_law 696 5 (lv' := [(0, .inr (.inr (some sb))), (1, .inr (.inr v1)), (2, .inr (.inr v2)), (3, .inl v3)]) (st' := [.inl (v3 + (1 : Int32)), .inr (.inr (some sb)), .inr (.inr v1)]) (pc' := 965) rfl ?_
      refine Wx.scr ok kL_law 701 rfl hsc h (fun t965 h => ?_)
      refine Wx.run ok kL_law 702 4 (lv' := [(0, .inr (.inr (some sb))), (1, .inr (.inr v1)), (2, .inr (.inr v2)), (3, .inl v3)]) (st' := [.inl (v3 + (2 : Int32)), .inr (.inr (some sb)), .inl t965, .inr (.inr v1)]) (pc' := 970) rfl ?_
      refine Wx.scr ok kL_law 706 rfl hsc h (fun t970 h => ?_)
      refine Wx.run ok kL_law 707 4 (lv' := [(0, .inr (.inr (some sb))), (1, .inr (.inr v1)), (2, .inr (.inr v2)), (3, .inl v3)]) (st' := [.inl (v3 + (3 : Int32)), .inr (.inr (some sb)), .inl t970, .inl t965, .inr (.inr v1)]) (pc' := 975) rfl ?_
      refine Wx.scr ok kL_law 711 rfl hsc h (fun t975 h => ?_)
      obtain ⟨a976, ha976, h⟩ := gob h
      obtain ⟨q976, hq976, h⟩ := gob h
      refine Wx.callV ok kL_law 712 rfl lm_RL_107 cd_X6_sum ha976 [.inl t965, .inl t970, .inl t975] (some (.inl q976.1)) (aX6_sum _ _ hq976) (by have hb1 := hb.1; have hb2 := hb.2; refine ⟨?_, ?_, ?_, ?_⟩ <;> simp only [rmX6_sum, room_1] <;> omega) rfl (Nat.le_of_ble_eq_true rfl) rfl rfl ?_
      refine Wx.run ok kL_law 713 5 (lv' := [(0, .inr (.inr (some sb))), (1, .inr (.inr v1)), (2, .inr (.inr v2)), (3, .inl v3)]) (st' := [.inl (v3 + (1 : Int32)), .inr (.inr (some sb)), .inr (.inr v2), .inl q976.1]) (pc' := 984) rfl ?_
      refine Wx.scr ok kL_law 718 rfl hsc h (fun t984 h => ?_)
      refine Wx.run ok kL_law 719 4 (lv' := [(0, .inr (.inr (some sb))), (1, .inr (.inr v1)), (2, .inr (.inr v2)), (3, .inl v3)]) (st' := [.inl (v3 + (2 : Int32)), .inr (.inr (some sb)), .inl t984, .inr (.inr v2), .inl q976.1]) (pc' := 989) rfl ?_
      refine Wx.scr ok kL_law 723 rfl hsc h (fun t989 h => ?_)
      refine Wx.run ok kL_law 724 4 (lv' := [(0, .inr (.inr (some sb))), (1, .inr (.inr v1)), (2, .inr (.inr v2)), (3, .inl v3)]) (st' := [.inl (v3 + (3 : Int32)), .inr (.inr (some sb)), .inl t989, .inl t984, .inr (.inr v2), .inl q976.1]) (pc' := 994) rfl ?_
      refine Wx.scr ok kL_law 728 rfl hsc h (fun t994 h => ?_)
      obtain ⟨a995, ha995, h⟩ := gob h
      obtain ⟨q995, hq995, h⟩ := gob h
      refine Wx.callV ok kL_law 729 rfl lm_RL_110 cd_X7_sum ha995 [.inl t984, .inl t989, .inl t994] (some (.inl q995.1)) (aX7_sum _ _ hq995) (by have hb1 := hb.1; have hb2 := hb.2; refine ⟨?_, ?_, ?_, ?_⟩ <;> simp only [rmX6_sum, rmX7_sum, room_1] <;> omega) rfl (Nat.le_of_ble_eq_true rfl) rfl rfl ?_
      refine Wx.icmp_eq ok kL_law 730 (tgt := 1082) rfl (by decide) h (fun hc998 h => ?_) (fun hc998 h => ?_)
      · refine Wx.widen (k := (cl + 12)) (n := (sl + 12315)) (by have hb1 := hb.1; have hb2 := hb.2; first | omega | (simp only [rmX6_sum, rmX7_sum, room_1]; omega)) (by have hb1 := hb.1; have hb2 := hb.2; first | omega | (simp only [rmX6_sum, rmX7_sum, room_1]; omega)) ?_
        exact aL_law_b1082 ok hres (F := F) hsc hb r hr _ _ _ _ h
      · refine Wx.run ok kL_law 731 1 (lv' := [(0, .inr (.inr (some sb))), (1, .inr (.inr v1)), (2, .inr (.inr v2)), (3, .inl v3)]) (st' := [.inl (0 : Int32)]) (pc' := 1002) rfl ?_
        cases h
    refine gIte h (fun hx h => ?_) (fun hx23 h => ?_)
    · refine Wx.swIn ok kL_law 21 rfl (tgt := 1003) (by rw [hx]; decide) (by rw [hx]; decide) (by rw [hx]; rfl) (by decide) ?_
      refine Wx.run ok kL_law 733 5 (lv' := [(0, .inr (.inr (some sb))), (1, .inr (.inr v1)), (2, .inr (.inr v2)), (3, .inl v3)]) (st' := [.inl (v3 + (1 : Int32)), .inr (.inr (some sb)), .inr (.inr v1)]) (pc' := 1008) rfl ?_
      refine Wx.scr ok kL_law 738 rfl hsc h (fun t1008 h => ?_)
      refine Wx.run ok kL_law 739 4 (lv' := [(0, .inr (.inr (some sb))), (1, .inr (.inr v1)), (2, .inr (.inr v2)), (3, .inl v3)]) (st' := [.inl (v3 + (2 : Int32)), .inr (.inr (some sb)), .inl t1008, .inr (.inr v1)]) (pc' := 1013) rfl ?_
      refine Wx.scr ok kL_law 743 rfl hsc h (fun t1013 h => ?_)
      refine Wx.run ok kL_law 744 4 (lv' := [(0, .inr (.inr (some sb))), (1, .inr (.inr v1)), (2, .inr (.inr v2)), (3, .inl v3)]) (st' := [.inl (v3 + (3 : Int32)), .inr (.inr (some sb)), .inl t1013, .inl t1008, .inr (.inr v1)]) (pc' := 1018) rfl ?_
      refine Wx.scr ok kL_law 748 rfl hsc h (fun t1018 h => ?_)
      obtain ⟨a1019, ha1019, h⟩ := gob h
      obtain ⟨q1019, hq1019, h⟩ := gob h
      refine Wx.callV ok kL_law 749 rfl lm_RL_111 cd_X6_times ha1019 [.inl t1008, .inl t1013, .inl t1018] (some (.inl q1019.1)) (aX6_times _ _ hq1019) (by have hb1 := hb.1; have hb2 := hb.2; refine ⟨?_, ?_, ?_, ?_⟩ <;> simp only [rmX6_times, room_1] <;> omega) rfl (Nat.le_of_ble_eq_true rfl) rfl rfl ?_
      refine Wx.run ok kL_law 750 5 (lv' := [(0, .inr (.inr (some sb))), (1, .inr (.inr v1)), (2, .inr (.inr v2)), (3, .inl v3)]) (st' := [.inl (v3 + (1 : Int32)), .inr (.inr (some sb)), .inr (.inr v2), .inl q1019.1]) (pc' := 1027) rfl ?_
      refine Wx.scr ok kL_law 755 rfl hsc h (fun t1027 h => ?_)
      refine Wx.run ok kL_law 756 4 (lv' := [(0, .inr (.inr (some sb))), (1, .inr (.inr v1)), (2, .inr (.inr v2)), (3, .inl v3)]) (st' := [.inl (v3 + (2 : Int32)), .inr (.inr (some sb)), .inl t1027, .inr (.inr v2), .inl q1019.1]) (pc' := 1032) rfl ?_
      refine Wx.scr ok kL_law 760 rfl hsc h (fun t1032 h => ?_)
      refine Wx.run ok kL_law 761 4 (lv' := [(0, .inr (.inr (some sb))), (1, .inr (.inr v1)), (2, .inr (.inr v2)), (3, .inl v3)]) (st' := [.inl (v3 + (3 : Int32)), .inr (.inr (some sb)), .inl t1032, .inl t1027, .inr (.inr v2), .inl q1019.1]) (pc' := 1037) rfl ?_
      refine Wx.scr ok kL_law 765 rfl hsc h (fun t1037 h => ?_)
      obtain ⟨a1038, ha1038, h⟩ := gob h
      obtain ⟨q1038, hq1038, h⟩ := gob h
      refine Wx.callV ok kL_law 766 rfl lm_RL_114 cd_X7_times ha1038 [.inl t1027, .inl t1032, .inl t1037] (some (.inl q1038.1)) (aX7_times _ _ hq1038) (by have hb1 := hb.1; have hb2 := hb.2; refine ⟨?_, ?_, ?_, ?_⟩ <;> simp only [rmX6_times, rmX7_times, room_1] <;> omega) rfl (Nat.le_of_ble_eq_true rfl) rfl rfl ?_
      refine Wx.icmp_eq ok kL_law 767 (tgt := 1082) rfl (by decide) h (fun hc1041 h => ?_) (fun hc1041 h => ?_)
      · refine Wx.widen (k := (cl + 12)) (n := (sl + 12315)) (by have hb1 := hb.1; have hb2 := hb.2; first | omega | (simp only [rmX6_times, rmX7_times, room_1]; omega)) (by have hb1 := hb.1; have hb2 := hb.2; first | omega | (simp only [rmX6_times, rmX7_times, room_1]; omega)) ?_
        exact aL_law_b1082 ok hres (F := F) hsc hb r hr _ _ _ _ h
      · refine Wx.run ok kL_law 768 1 (lv' := [(0, .inr (.inr (some sb))), (1, .inr (.inr v1)), (2, .inr (.inr v2)), (3, .inl v3)]) (st' := [.inl (0 : Int32)]) (pc' := 1045) rfl ?_
        cases h
    refine gIte h (fun hx h => ?_) (fun hx24 h => ?_)
    · refine Wx.swIn ok kL_law 21 rfl (tgt := 1046) (by rw [hx]; decide) (by rw [hx]; decide) (by rw [hx]; rfl) (by decide) ?_
      refine Wx.run ok kL_law 770 5 (lv' := [(0, .inr (.inr (some sb))), (1, .inr (.inr v1)), (2, .inr (.inr v2)), (3, .inl v3)]) (st' := [.inl (v3 + (1 : Int32)), .inr (.inr (some sb)), .inr (.inr v1)]) (pc' := 1051) rfl ?_
      refine Wx.scr ok kL_law 775 rfl hsc h (fun t1051 h => ?_)
      obtain ⟨a1052, ha1052, h⟩ := gob h
      obtain ⟨q1052, hq1052, h⟩ := gob h
      refine Wx.callV ok kL_law 776 rfl lm_RL_115 cd_X6_count ha1052 [.inl t1051] (some (.inl q1052.1)) (aX6_count _ _ hq1052) (by have hb1 := hb.1; have hb2 := hb.2; refine ⟨?_, ?_, ?_, ?_⟩ <;> simp only [rmX6_count, room_1] <;> omega) rfl (Nat.le_of_ble_eq_true rfl) rfl rfl ?_
      refine Wx.run ok kL_law 777 5 (lv' := [(0, .inr (.inr (some sb))), (1, .inr (.inr v1)), (2, .inr (.inr v2)), (3, .inl v3)]) (st' := [.inl (v3 + (1 : Int32)), .inr (.inr (some sb)), .inr (.inr v2), .inl q1052.1]) (pc' := 1060) rfl ?_
      refine Wx.scr ok kL_law 782 rfl hsc h (fun t1060 h => ?_)
      obtain ⟨a1061, ha1061, h⟩ := gob h
      obtain ⟨q1061, hq1061, h⟩ := gob h
      refine Wx.callV ok kL_law 783 rfl lm_RL_118 cd_X7_count ha1061 [.inl t1060] (some (.inl q1061.1)) (aX7_count _ _ hq1061) (by have hb1 := hb.1; have hb2 := hb.2; refine ⟨?_, ?_, ?_, ?_⟩ <;> simp only [rmX6_count, rmX7_count, room_1] <;> omega) rfl (Nat.le_of_ble_eq_true rfl) rfl rfl ?_
      refine Wx.icmp_eq ok kL_law 784 (tgt := 1082) rfl (by decide) h (fun hc1064 h => ?_) (fun hc1064 h => ?_)
      · refine Wx.widen (k := (cl + 12)) (n := (sl + 12315)) (by have hb1 := hb.1; have hb2 := hb.2; first | omega | (simp only [rmX6_count, rmX7_count, room_1]; omega)) (by have hb1 := hb.1; have hb2 := hb.2; first | omega | (simp only [rmX6_count, rmX7_count, room_1]; omega)) ?_
        exact aL_law_b1082 ok hres (F := F) hsc hb r hr _ _ _ _ h
      · refine Wx.run ok kL_law 785 1 (lv' := [(0, .inr (.inr (some sb))), (1, .inr (.inr v1)), (2, .inr (.inr v2)), (3, .inl v3)]) (st' := [.inl (0 : Int32)]) (pc' := 1068) rfl ?_
        cases h
    refine gIte h (fun hx h => ?_) (fun hx25 h => ?_)
    · refine Wx.swIn ok kL_law 21 rfl (tgt := 1069) (by rw [hx]; decide) (by rw [hx]; decide) (by rw [hx]; rfl) (by decide) ?_
      refine Wx.run ok kL_law 787 1 (lv' := [(0, .inr (.inr (some sb))), (1, .inr (.inr v1)), (2, .inr (.inr v2)), (3, .inl v3)]) (st' := [.inr (.inr v1)]) (pc' := 1070) rfl ?_
      obtain ⟨a1070, ha1070, h⟩ := gob h
      obtain ⟨q1070, hq1070, h⟩ := gob h
      refine Wx.callV ok kL_law 788 rfl lm_RL_119 cd_X6_leave ha1070 [] (some (.inl q1070.1)) (aX6_leave _ _ hq1070) (by have hb1 := hb.1; have hb2 := hb.2; refine ⟨?_, ?_, ?_, ?_⟩ <;> simp only [rmX6_leave, room_1] <;> omega) rfl (Nat.le_of_ble_eq_true rfl) rfl rfl ?_
      refine Wx.run ok kL_law 789 1 (lv' := [(0, .inr (.inr (some sb))), (1, .inr (.inr v1)), (2, .inr (.inr v2)), (3, .inl v3)]) (st' := [.inr (.inr v2), .inl q1070.1]) (pc' := 1074) rfl ?_
      obtain ⟨a1074, ha1074, h⟩ := gob h
      obtain ⟨q1074, hq1074, h⟩ := gob h
      refine Wx.callV ok kL_law 790 rfl lm_RL_122 cd_X7_leave ha1074 [] (some (.inl q1074.1)) (aX7_leave _ _ hq1074) (by have hb1 := hb.1; have hb2 := hb.2; refine ⟨?_, ?_, ?_, ?_⟩ <;> simp only [rmX6_leave, rmX7_leave, room_1] <;> omega) rfl (Nat.le_of_ble_eq_true rfl) rfl rfl ?_
      refine Wx.icmp_eq ok kL_law 791 (tgt := 1082) rfl (by decide) h (fun hc1077 h => ?_) (fun hc1077 h => ?_)
      · refine Wx.widen (k := (cl + 12)) (n := (sl + 12315)) (by have hb1 := hb.1; have hb2 := hb.2; first | omega | (simp only [rmX6_leave, rmX7_leave, room_1]; omega)) (by have hb1 := hb.1; have hb2 := hb.2; first | omega | (simp only [rmX6_leave, rmX7_leave, room_1]; omega)) ?_
        exact aL_law_b1082 ok hres (F := F) hsc hb r hr _ _ _ _ h
      · refine Wx.run ok kL_law 792 1 (lv' := [(0, .inr (.inr (some sb))), (1, .inr (.inr v1)), (2, .inr (.inr v2)), (3, .inl v3)]) (st' := [.inl (0 : Int32)]) (pc' := 1081) rfl ?_
        cases h
    refine Wx.swOut ok kL_law 21 rfl (tgt := 1082) (gSw (t29 &&& (31 : Int32)) 0 25 (by decide) (by decide) (fun j hj => match j, hj with
      | 0, _ => hx0
      | 1, _ => hx1
      | 2, _ => hx2
      | 3, _ => hx3
      | 4, _ => hx4
      | 5, _ => hx5
      | 6, _ => hx6
      | 7, _ => hx7
      | 8, _ => hx8
      | 9, _ => hx9
      | 10, _ => hx10
      | 11, _ => hx11
      | 12, _ => hx12
      | 13, _ => hx13
      | 14, _ => hx14
      | 15, _ => hx15
      | 16, _ => hx16
      | 17, _ => hx17
      | 18, _ => hx18
      | 19, _ => hx19
      | 20, _ => hx20
      | 21, _ => hx21
      | 22, _ => hx22
      | 23, _ => hx23
      | 24, _ => hx24
      | 25, _ => hx25
      | j + 26, hj => absurd hj (by omega))) (by decide) ?_
    refine Wx.widen (k := (cl + 12)) (n := (sl + 12315)) (by have hb1 := hb.1; have hb2 := hb.2; first | omega | (simp only [room_1]; omega)) (by have hb1 := hb.1; have hb2 := hb.2; first | omega | (simp only [room_1]; omega)) ?_
    exact aL_law_b1082 ok hres (F := F) hsc hb r hr _ _ _ _ h
set_option maxRecDepth 100000 in
set_option maxHeartbeats 4000000 in
theorem aL_law_l18 {X : gX} (ok : gOk X code RL 4 (some .boolean) room_1) {res : Unit} (hres : gLw X) {F : Nat} {L : Nat} {xs : Nat → Int32} {sb : Nat} (hsc : gScr X L xs sb) : ∀ (n : Nat) (v1 : Option Nat) (v2 : Option Nat) (v3 : Int32) (w : gW) (cl sl : Nat), cl + n * 12 ≤ 6197 → sl + n * 12315 ≤ 6451316 → mL_law_l18 F L xs n v1 v2 v3 w = some res → Wx X w cl sl 18 [(0, .inr (.inr (some sb))), (1, .inr (.inr v1)), (2, .inr (.inr v2)), (3, .inl v3)] [] := by
  intro n
  induction n with
  | zero => intro v1 v2 v3 w cl sl b1 b2 h; cases (show (none : Option (Unit)) = some res from h)
  | succ n ih =>
    intro v1 v2 v3 w cl sl b1 b2 h
    exact aL_law_h18 ok hres (F := F) hsc (cl := cl) (sl := sl) ⟨by omega, by omega⟩ (mL_law_l18 F L xs n) (fun v1 v2 v3 w h => ih v1 v2 v3 w _ _ (by omega) (by omega) h) v1 v2 v3 w h
set_option maxRecDepth 100000 in
set_option maxHeartbeats 4000000 in
theorem aL_law {X : gX} (ok : gOk X code RL 4 ret room_1) (hres : gLw X) {F L : Nat} {xs : Nat → Int32} {sb : Nat} (hsc : gScr X L xs sb) {w : gW} {res : Unit} (h : mL_law F L xs w = some res) : Wx X w 0 0 0 [(0, .inr (.inr (some sb)))] [] := by
  unfold mL_law at h
  refine Wx.new ok kL_law 0 rfl nw_RL_7 (by decide) ?_
  refine Wx.run ok kL_law 1 1 (lv' := [(0, .inr (.inr (some sb)))]) (st' := [.inr (.inr (some w.2)), .inr (.inr (some w.2))]) (pc' := 4) rfl ?_
  obtain ⟨q4, hq4, h⟩ := gob h
  refine Wx.callI ok kL_law 2 rfl lm_RL_9 cd_X6_init [] (aX6_init _ _ hq4) (by decide) rfl (Nat.le_of_ble_eq_true rfl) rfl ?_
  refine Wx.run ok kL_law 3 1 (lv' := [(1, .inr (.inr (some w.2))), (0, .inr (.inr (some sb)))]) (st' := []) (pc' := 8) rfl ?_
  refine Wx.new ok kL_law 4 rfl nw_RL_10 (by decide) ?_
  refine Wx.run ok kL_law 5 1 (lv' := [(1, .inr (.inr (some w.2))), (0, .inr (.inr (some sb)))]) (st' := [.inr (.inr (some q4.2)), .inr (.inr (some q4.2))]) (pc' := 12) rfl ?_
  obtain ⟨q12, hq12, h⟩ := gob h
  refine Wx.callI ok kL_law 6 rfl lm_RL_12 cd_X7_init [] (aX7_init _ _ hq12) (by decide) rfl (Nat.le_of_ble_eq_true rfl) rfl ?_
  refine Wx.run ok kL_law 7 3 (lv' := [(3, .inl (0 : Int32)), (2, .inr (.inr (some q4.2))), (1, .inr (.inr (some w.2))), (0, .inr (.inr (some sb)))]) (st' := []) (pc' := 18) rfl ?_
  refine Wx.sub [3, 2, 1, 0] rfl ?_
  refine aL_law_l18 ok hres (F := F) hsc 513 _ _ _ _ _ _ (by decide) (by decide) h
