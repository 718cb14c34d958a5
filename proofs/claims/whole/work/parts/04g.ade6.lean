set_option maxRecDepth 100000 in
set_option maxHeartbeats 4000000 in
theorem aX7_acts_b50 {X : gX} (ok : gOk X cX7_acts RX7 10 (some .int) rmX7_acts) {res : Int32 × gW} (hres : gRs X (some (.int res.1)) res.2) {F : Nat} : ∀ (v0 : Nat) (v1 : Int32) (v2 : Int32) (v3 : Int32) (v4 : Int32) (v5 : Int32) (v6 : Int32) (v7 : Int32) (s0 : Int32) (w : gW), mX7_acts_b50 F v0 v1 v2 v3 v4 v5 v6 v7 s0 w = some res → Wx X w 0 0 50 [(0, .inr (.inr (some v0))), (1, .inl v1), (2, .inl v2), (3, .inl v3), (4, .inl v4), (5, .inl v5), (6, .inl v6), (7, .inl v7)] [.inl s0] := by
  intro v0 v1 v2 v3 v4 v5 v6 v7 s0 w h
  unfold mX7_acts_b50 at h
  refine Wx.run ok kX7_acts 30 6 (lv' := [(8, .inl s0), (0, .inr (.inr (some v0))), (1, .inl v1), (2, .inl v2), (3, .inl v3), (4, .inl v4), (5, .inl v5), (6, .inl v6), (7, .inl v7)]) (st' := [.inr (.inl ((v7).toInt64)), .inr (.inl (0 : Int64)), .inr (.inl ((v3).toInt64))]) (pc' := 58) rfl ?_
  obtain ⟨q58, hq58, h⟩ := gob h
  refine Wx.callS ok kX7_acts 36 rfl lm_RX7_100 cd_X7_in [.inr (.inl ((v3).toInt64)), .inr (.inl (0 : Int64)), .inr (.inl ((v7).toInt64))] (some (.inl q58.1)) (aX7_in _ _ hq58) (by decide) rfl (Nat.le_of_ble_eq_true rfl) rfl rfl ?_
  refine Wx.if_eq ok kX7_acts 37 (tgt := 103) rfl (by decide) h (fun hc61 h => ?_) (fun hc61 h => ?_)
  · refine Wx.run ok kX7_acts 59 1 (lv' := [(8, .inl s0), (0, .inr (.inr (some v0))), (1, .inl v1), (2, .inl v2), (3, .inl v3), (4, .inl v4), (5, .inl v5), (6, .inl v6), (7, .inl v7)]) (st' := [.inl (-1 : Int32)]) (pc' := 104) rfl ?_
    exact Wx.ireturn ok kX7_acts 60 rfl hres h (by decide)
  · refine Wx.run ok kX7_acts 38 5 (lv' := [(8, .inl s0), (0, .inr (.inr (some v0))), (1, .inl v1), (2, .inl v2), (3, .inl v3), (4, .inl v4), (5, .inl v5), (6, .inl v6), (7, .inl v7)]) (st' := [.inr (.inl ((s0).toInt64)), .inr (.inl (0 : Int64)), .inr (.inl ((v4).toInt64))]) (pc' := 71) rfl ?_
    obtain ⟨q71, hq71, h⟩ := gob h
    refine Wx.callS ok kX7_acts 43 rfl lm_RX7_100 cd_X7_in [.inr (.inl ((v4).toInt64)), .inr (.inl (0 : Int64)), .inr (.inl ((s0).toInt64))] (some (.inl q71.1)) (aX7_in _ _ hq71) (by decide) rfl (Nat.le_of_ble_eq_true rfl) rfl rfl ?_
    refine Wx.if_eq ok kX7_acts 44 (tgt := 103) rfl (by decide) h (fun hc74 h => ?_) (fun hc74 h => ?_)
    · refine Wx.run ok kX7_acts 59 1 (lv' := [(8, .inl s0), (0, .inr (.inr (some v0))), (1, .inl v1), (2, .inl v2), (3, .inl v3), (4, .inl v4), (5, .inl v5), (6, .inl v6), (7, .inl v7)]) (st' := [.inl (-1 : Int32)]) (pc' := 104) rfl ?_
      exact Wx.ireturn ok kX7_acts 60 rfl hres h (by decide)
    · refine Wx.run ok kX7_acts 45 5 (lv' := [(8, .inl s0), (0, .inr (.inr (some v0))), (1, .inl v1), (2, .inl v2), (3, .inl v3), (4, .inl v4), (5, .inl v5), (6, .inl v6), (7, .inl v7)]) (st' := [.inr (.inl ((s0).toInt64)), .inr (.inl (0 : Int64)), .inr (.inl ((v5).toInt64))]) (pc' := 84) rfl ?_
      obtain ⟨q84, hq84, h⟩ := gob h
      refine Wx.callS ok kX7_acts 50 rfl lm_RX7_100 cd_X7_in [.inr (.inl ((v5).toInt64)), .inr (.inl (0 : Int64)), .inr (.inl ((s0).toInt64))] (some (.inl q84.1)) (aX7_in _ _ hq84) (by decide) rfl (Nat.le_of_ble_eq_true rfl) rfl rfl ?_
      refine Wx.if_eq ok kX7_acts 51 (tgt := 103) rfl (by decide) h (fun hc87 h => ?_) (fun hc87 h => ?_)
      · refine Wx.run ok kX7_acts 59 1 (lv' := [(8, .inl s0), (0, .inr (.inr (some v0))), (1, .inl v1), (2, .inl v2), (3, .inl v3), (4, .inl v4), (5, .inl v5), (6, .inl v6), (7, .inl v7)]) (st' := [.inl (-1 : Int32)]) (pc' := 104) rfl ?_
        exact Wx.ireturn ok kX7_acts 60 rfl hres h (by decide)
      · refine Wx.run ok kX7_acts 52 5 (lv' := [(8, .inl s0), (0, .inr (.inr (some v0))), (1, .inl v1), (2, .inl v2), (3, .inl v3), (4, .inl v4), (5, .inl v5), (6, .inl v6), (7, .inl v7)]) (st' := [.inr (.inl ((s0).toInt64)), .inr (.inl (0 : Int64)), .inr (.inl ((v6).toInt64))]) (pc' := 97) rfl ?_
        obtain ⟨q97, hq97, h⟩ := gob h
        refine Wx.callS ok kX7_acts 57 rfl lm_RX7_100 cd_X7_in [.inr (.inl ((v6).toInt64)), .inr (.inl (0 : Int64)), .inr (.inl ((s0).toInt64))] (some (.inl q97.1)) (aX7_in _ _ hq97) (by decide) rfl (Nat.le_of_ble_eq_true rfl) rfl rfl ?_
        refine Wx.if_ne ok kX7_acts 58 (tgt := 105) rfl (by decide) h (fun hc100 h => ?_) (fun hc100 h => ?_)
        · refine Wx.run ok kX7_acts 59 1 (lv' := [(8, .inl s0), (0, .inr (.inr (some v0))), (1, .inl v1), (2, .inl v2), (3, .inl v3), (4, .inl v4), (5, .inl v5), (6, .inl v6), (7, .inl v7)]) (st' := [.inl (-1 : Int32)]) (pc' := 104) rfl ?_
          exact Wx.ireturn ok kX7_acts 60 rfl hres h (by decide)
        · refine Wx.run ok kX7_acts 61 9 (lv' := [(9, .inl (((32 : Int32) * v1) + ((4 : Int32) * v2))), (8, .inl s0), (0, .inr (.inr (some v0))), (1, .inl v1), (2, .inl v2), (3, .inl v3), (4, .inl v4), (5, .inl v5), (6, .inl v6), (7, .inl v7)]) (st' := [.inr (.inr (some v0))]) (pc' := 116) rfl ?_
          refine Wx.getR ok kX7_acts 70 rfl lk_RX7_38_0 h (fun t116 h => ?_)
          refine Wx.run ok kX7_acts 71 2 (lv' := [(9, .inl (((32 : Int32) * v1) + ((4 : Int32) * v2))), (8, .inl s0), (0, .inr (.inr (some v0))), (1, .inl v1), (2, .inl v2), (3, .inl v3), (4, .inl v4), (5, .inl v5), (6, .inl v6), (7, .inl v7)]) (st' := [.inl v3, .inl (((32 : Int32) * v1) + ((4 : Int32) * v2)), .inr (.inr t116)]) (pc' := 122) rfl ?_
          refine Wx.iast ok kX7_acts 73 rfl h (fun w122 h => ?_)
          refine Wx.run ok kX7_acts 74 1 (lv' := [(9, .inl (((32 : Int32) * v1) + ((4 : Int32) * v2))), (8, .inl s0), (0, .inr (.inr (some v0))), (1, .inl v1), (2, .inl v2), (3, .inl v3), (4, .inl v4), (5, .inl v5), (6, .inl v6), (7, .inl v7)]) (st' := [.inr (.inr (some v0))]) (pc' := 124) rfl ?_
          refine Wx.getR ok kX7_acts 75 rfl lk_RX7_38_0 h (fun t124 h => ?_)
          refine Wx.run ok kX7_acts 76 4 (lv' := [(9, .inl (((32 : Int32) * v1) + ((4 : Int32) * v2))), (8, .inl s0), (0, .inr (.inr (some v0))), (1, .inl v1), (2, .inl v2), (3, .inl v3), (4, .inl v4), (5, .inl v5), (6, .inl v6), (7, .inl v7)]) (st' := [.inl v4, .inl ((((32 : Int32) * v1) + ((4 : Int32) * v2)) + (1 : Int32)), .inr (.inr t124)]) (pc' := 133) rfl ?_
          refine Wx.iast ok kX7_acts 80 rfl h (fun w133 h => ?_)
          refine Wx.run ok kX7_acts 81 1 (lv' := [(9, .inl (((32 : Int32) * v1) + ((4 : Int32) * v2))), (8, .inl s0), (0, .inr (.inr (some v0))), (1, .inl v1), (2, .inl v2), (3, .inl v3), (4, .inl v4), (5, .inl v5), (6, .inl v6), (7, .inl v7)]) (st' := [.inr (.inr (some v0))]) (pc' := 135) rfl ?_
          refine Wx.getR ok kX7_acts 82 rfl lk_RX7_38_0 h (fun t135 h => ?_)
          refine Wx.run ok kX7_acts 83 4 (lv' := [(9, .inl (((32 : Int32) * v1) + ((4 : Int32) * v2))), (8, .inl s0), (0, .inr (.inr (some v0))), (1, .inl v1), (2, .inl v2), (3, .inl v3), (4, .inl v4), (5, .inl v5), (6, .inl v6), (7, .inl v7)]) (st' := [.inl v5, .inl ((((32 : Int32) * v1) + ((4 : Int32) * v2)) + (2 : Int32)), .inr (.inr t135)]) (pc' := 144) rfl ?_
          refine Wx.iast ok kX7_acts 87 rfl h (fun w144 h => ?_)
          refine Wx.run ok kX7_acts 88 1 (lv' := [(9, .inl (((32 : Int32) * v1) + ((4 : Int32) * v2))), (8, .inl s0), (0, .inr (.inr (some v0))), (1, .inl v1), (2, .inl v2), (3, .inl v3), (4, .inl v4), (5, .inl v5), (6, .inl v6), (7, .inl v7)]) (st' := [.inr (.inr (some v0))]) (pc' := 146) rfl ?_
          refine Wx.getR ok kX7_acts 89 rfl lk_RX7_38_0 h (fun t146 h => ?_)
          refine Wx.run ok kX7_acts 90 4 (lv' := [(9, .inl (((32 : Int32) * v1) + ((4 : Int32) * v2))), (8, .inl s0), (0, .inr (.inr (some v0))), (1, .inl v1), (2, .inl v2), (3, .inl v3), (4, .inl v4), (5, .inl v5), (6, .inl v6), (7, .inl v7)]) (st' := [.inl v6, .inl ((((32 : Int32) * v1) + ((4 : Int32) * v2)) + (3 : Int32)), .inr (.inr t146)]) (pc' := 155) rfl ?_
          refine Wx.iast ok kX7_acts 94 rfl h (fun w155 h => ?_)
          refine Wx.run ok kX7_acts 95 2 (lv' := [(9, .inl (((32 : Int32) * v1) + ((4 : Int32) * v2))), (8, .inl s0), (0, .inr (.inr (some v0))), (1, .inl v1), (2, .inl v2), (3, .inl v3), (4, .inl v4), (5, .inl v5), (6, .inl v6), (7, .inl v7)]) (st' := [.inl (-4 : Int32), .inr (.inr (some v0))]) (pc' := 159) rfl ?_
          refine Wx.put ok kX7_acts 97 rfl lk_RX7_76_1 (gFit_i _) h (fun w159 h => ?_)
          refine Wx.run ok kX7_acts 98 1 (lv' := [(9, .inl (((32 : Int32) * v1) + ((4 : Int32) * v2))), (8, .inl s0), (0, .inr (.inr (some v0))), (1, .inl v1), (2, .inl v2), (3, .inl v3), (4, .inl v4), (5, .inl v5), (6, .inl v6), (7, .inl v7)]) (st' := [.inl (1 : Int32)]) (pc' := 163) rfl ?_
          exact Wx.ireturn ok kX7_acts 99 rfl hres h (by decide)
set_option maxRecDepth 100000 in
set_option maxHeartbeats 4000000 in
theorem aX7_acts (l : Launch) (G : gG) {F : Nat} {v0 : Nat} {v1 : Int32} {v2 : Int32} {v3 : Int32} {v4 : Int32} {v5 : Int32} {v6 : Int32} {w : gW} {res : Int32 × gW} (h : mX7_acts F v0 v1 v2 v3 v4 v5 v6 w = some res) : gM l yX7_acts cX7_acts 10 (some .int) rmX7_acts G w (gTs [.inr (.inr (some v0)), .inl v1, .inl v2, .inl v3, .inl v4, .inl v5, .inl v6]) (some (.int res.1)) res.2 := by
  refine gM_of (y := yX7_acts) (by decide +kernel) (Nat.le_of_ble_eq_true rfl) ?_
  intro X ok hl hG hres hnm
  subst hl; subst hG
  unfold mX7_acts at h
  show Wx X w 0 0 0 [(0, .inr (.inr (some v0))), (1, .inl v1), (2, .inl v2), (3, .inl v3), (4, .inl v4), (5, .inl v5), (6, .inl v6)] []
  refine Wx.run ok kX7_acts 0 2 (lv' := [(0, .inr (.inr (some v0))), (1, .inl v1), (2, .inl v2), (3, .inl v3), (4, .inl v4), (5, .inl v5), (6, .inl v6)]) (st' := [.inl v1, .inr (.inr (some v0))]) (pc' := 2) rfl ?_
  obtain ⟨a2, ha2, h⟩ := gob h
  obtain ⟨q2, hq2, h⟩ := gob h
  refine Wx.callV ok kX7_acts 2 rfl lm_RX7_190 cd_X7_isModule ha2 [.inl v1] (some (.inl q2.1)) (aX7_isModule _ _ hq2) (by decide) rfl (Nat.le_of_ble_eq_true rfl) rfl rfl ?_
  refine Wx.if_eq ok kX7_acts 3 (tgt := 22) rfl (by decide) h (fun hc5 h => ?_) (fun hc5 h => ?_)
  · refine Wx.run ok kX7_acts 12 1 (lv' := [(0, .inr (.inr (some v0))), (1, .inl v1), (2, .inl v2), (3, .inl v3), (4, .inl v4), (5, .inl v5), (6, .inl v6)]) (st' := [.inl (-1 : Int32)]) (pc' := 23) rfl ?_
    exact Wx.ireturn ok kX7_acts 13 rfl hres h (by decide)
  · refine Wx.run ok kX7_acts 4 2 (lv' := [(0, .inr (.inr (some v0))), (1, .inl v1), (2, .inl v2), (3, .inl v3), (4, .inl v4), (5, .inl v5), (6, .inl v6)]) (st' := [.inr (.inr (some v0)), .inr (.inr (some v0))]) (pc' := 10) rfl ?_
    refine Wx.getR ok kX7_acts 6 rfl lk_RX7_29_0 h (fun t10 h => ?_)
    refine Wx.run ok kX7_acts 7 1 (lv' := [(0, .inr (.inr (some v0))), (1, .inl v1), (2, .inl v2), (3, .inl v3), (4, .inl v4), (5, .inl v5), (6, .inl v6)]) (st' := [.inl v1, .inr (.inr t10), .inr (.inr (some v0))]) (pc' := 14) rfl ?_
    refine Wx.iald ok kX7_acts 8 rfl h (fun t14 h => ?_)
    refine Wx.run ok kX7_acts 9 1 (lv' := [(0, .inr (.inr (some v0))), (1, .inl v1), (2, .inl v2), (3, .inl v3), (4, .inl v4), (5, .inl v5), (6, .inl v6)]) (st' := [.inl v2, .inl t14, .inr (.inr (some v0))]) (pc' := 16) rfl ?_
    obtain ⟨a16, ha16, h⟩ := gob h
    obtain ⟨q16, hq16, h⟩ := gob h
    refine Wx.callV ok kX7_acts 10 rfl lm_RX7_132 cd_X7_isElement ha16 [.inl t14, .inl v2] (some (.inl q16.1)) (aX7_isElement _ _ hq16) (by decide) rfl (Nat.le_of_ble_eq_true rfl) rfl rfl ?_
    refine Wx.if_ne ok kX7_acts 11 (tgt := 24) rfl (by decide) h (fun hc19 h => ?_) (fun hc19 h => ?_)
    · refine Wx.run ok kX7_acts 12 1 (lv' := [(0, .inr (.inr (some v0))), (1, .inl v1), (2, .inl v2), (3, .inl v3), (4, .inl v4), (5, .inl v5), (6, .inl v6)]) (st' := [.inl (-1 : Int32)]) (pc' := 23) rfl ?_
      exact Wx.ireturn ok kX7_acts 13 rfl hres h (by decide)
    · refine Wx.run ok kX7_acts 14 1 (lv' := [(0, .inr (.inr (some v0))), (1, .inl v1), (2, .inl v2), (3, .inl v3), (4, .inl v4), (5, .inl v5), (6, .inl v6)]) (st' := [.inr (.inr (some v0))]) (pc' := 25) rfl ?_
      refine Wx.getR ok kX7_acts 15 rfl lk_RX7_32_0 h (fun t25 h => ?_)
      refine Wx.run ok kX7_acts 16 1 (lv' := [(0, .inr (.inr (some v0))), (1, .inl v1), (2, .inl v2), (3, .inl v3), (4, .inl v4), (5, .inl v5), (6, .inl v6)]) (st' := [.inl v1, .inr (.inr t25)]) (pc' := 29) rfl ?_
      refine Wx.iald ok kX7_acts 17 rfl h (fun t29 h => ?_)
      refine Wx.run ok kX7_acts 18 4 (lv' := [(7, .inl (t29 - (1 : Int32))), (0, .inr (.inr (some v0))), (1, .inl v1), (2, .inl v2), (3, .inl v3), (4, .inl v4), (5, .inl v5), (6, .inl v6)]) (st' := [.inr (.inr (some v0))]) (pc' := 35) rfl ?_
      refine Wx.getR ok kX7_acts 22 rfl lk_RX7_35_0 h (fun t35 h => ?_)
      refine Wx.run ok kX7_acts 23 1 (lv' := [(7, .inl (t29 - (1 : Int32))), (0, .inr (.inr (some v0))), (1, .inl v1), (2, .inl v2), (3, .inl v3), (4, .inl v4), (5, .inl v5), (6, .inl v6)]) (st' := [.inl v1, .inr (.inr t35)]) (pc' := 39) rfl ?_
      refine Wx.iald ok kX7_acts 24 rfl h (fun t39 h => ?_)
      refine Wx.run ok kX7_acts 25 1 (lv' := [(7, .inl (t29 - (1 : Int32))), (0, .inr (.inr (some v0))), (1, .inl v1), (2, .inl v2), (3, .inl v3), (4, .inl v4), (5, .inl v5), (6, .inl v6)]) (st' := [.inl (1 : Int32), .inl t39]) (pc' := 41) rfl ?_
      refine Wx.icmp_ne ok kX7_acts 26 (tgt := 48) rfl (by decide) h (fun hc41 h => ?_) (fun hc41 h => ?_)
      · refine Wx.run ok kX7_acts 27 1 (lv' := [(7, .inl (t29 - (1 : Int32))), (0, .inr (.inr (some v0))), (1, .inl v1), (2, .inl v2), (3, .inl v3), (4, .inl v4), (5, .inl v5), (6, .inl v6)]) (st' := [.inl (0 : Int32)]) (pc' := 45) rfl ?_
        refine Wx.jump ok kX7_acts 28 (tgt := 50) rfl (by decide) ?_
        refine Wx.sub [1, 2, 3, 4, 5, 6, 7, 0] rfl ?_
        exact aX7_acts_b50 ok hres (F := F) _ _ _ _ _ _ _ _ _ _ h
      · refine Wx.run ok kX7_acts 29 1 (lv' := [(7, .inl (t29 - (1 : Int32))), (0, .inr (.inr (some v0))), (1, .inl v1), (2, .inl v2), (3, .inl v3), (4, .inl v4), (5, .inl v5), (6, .inl v6)]) (st' := [.inl (t29 - (1 : Int32))]) (pc' := 50) rfl ?_
        refine Wx.sub [1, 2, 3, 4, 5, 6, 7, 0] rfl ?_
        exact aX7_acts_b50 ok hres (F := F) _ _ _ _ _ _ _ _ _ _ h
set_option maxRecDepth 100000 in
set_option maxHeartbeats 4000000 in
theorem aX7_element (l : Launch) (G : gG) {F : Nat} {v0 : Nat} {v1 : Int32} {v2 : Int32} {v3 : Int32} {w : gW} {res : Int32 × gW} (h : mX7_element F v0 v1 v2 v3 w = some res) : gM l yX7_element cX7_element 4 (some .int) rmX7_element G w (gTs [.inr (.inr (some v0)), .inl v1, .inl v2, .inl v3]) (some (.int res.1)) res.2 := by
  refine gM_of (y := yX7_element) (by decide +kernel) (Nat.le_of_ble_eq_true rfl) ?_
  intro X ok hl hG hres hnm
  subst hl; subst hG
  unfold mX7_element at h
  show Wx X w 0 0 0 [(0, .inr (.inr (some v0))), (1, .inl v1), (2, .inl v2), (3, .inl v3)] []
  refine Wx.run ok kX7_element 0 3 (lv' := [(0, .inr (.inr (some v0))), (1, .inl v1), (2, .inl v2), (3, .inl v3)]) (st' := [.inl v2, .inl v1, .inr (.inr (some v0))]) (pc' := 3) rfl ?_
  obtain ⟨a3, ha3, h⟩ := gob h
  obtain ⟨q3, hq3, h⟩ := gob h
  refine Wx.callV ok kX7_element 3 rfl lm_RX7_132 cd_X7_isElement ha3 [.inl v1, .inl v2] (some (.inl q3.1)) (aX7_isElement _ _ hq3) (by decide) rfl (Nat.le_of_ble_eq_true rfl) rfl rfl ?_
  refine Wx.if_ne ok kX7_element 4 (tgt := 11) rfl (by decide) h (fun hc6 h => ?_) (fun hc6 h => ?_)
  · refine Wx.run ok kX7_element 5 1 (lv' := [(0, .inr (.inr (some v0))), (1, .inl v1), (2, .inl v2), (3, .inl v3)]) (st' := [.inl (-1 : Int32)]) (pc' := 10) rfl ?_
    exact Wx.ireturn ok kX7_element 6 rfl hres h (by decide)
  · refine Wx.run ok kX7_element 7 1 (lv' := [(0, .inr (.inr (some v0))), (1, .inl v1), (2, .inl v2), (3, .inl v3)]) (st' := [.inl v3]) (pc' := 12) rfl ?_
    refine gIte h (fun hx h => ?_) (fun hx0 h => ?_)
    · refine Wx.swIn ok kX7_element 8 rfl (tgt := 44) (by rw [hx]; decide) (by rw [hx]; decide) (by rw [hx]; rfl) (by decide) ?_
      refine Wx.run ok kX7_element 9 3 (lv' := [(0, .inr (.inr (some v0))), (1, .inl v1), (2, .inl v2), (3, .inl v3)]) (st' := [.inl v2, .inl v1, .inr (.inr (some v0))]) (pc' := 47) rfl ?_
      obtain ⟨a47, ha47, h⟩ := gob h
      obtain ⟨q47, hq47, h⟩ := gob h
      refine Wx.callV ok kX7_element 12 rfl lm_RX7_136 cd_X7_inverse ha47 [.inl v1, .inl v2] (some (.inl q47.1)) (aX7_inverse _ _ hq47) (by decide) rfl (Nat.le_of_ble_eq_true rfl) rfl rfl ?_
      exact Wx.ireturn ok kX7_element 13 rfl hres h (by decide)
    refine gIte h (fun hx h => ?_) (fun hx1 h => ?_)
    · refine Wx.swIn ok kX7_element 8 rfl (tgt := 51) (by rw [hx]; decide) (by rw [hx]; decide) (by rw [hx]; rfl) (by decide) ?_
      refine Wx.run ok kX7_element 14 3 (lv' := [(0, .inr (.inr (some v0))), (1, .inl v1), (2, .inl v2), (3, .inl v3)]) (st' := [.inl v2, .inl v1, .inr (.inr (some v0))]) (pc' := 54) rfl ?_
      obtain ⟨a54, ha54, h⟩ := gob h
      obtain ⟨q54, hq54, h⟩ := gob h
      refine Wx.callV ok kX7_element 17 rfl lm_RX7_140 cd_X7_orderOf ha54 [.inl v1, .inl v2] (some (.inl q54.1)) (aX7_orderOf _ _ hq54) (by decide) rfl (Nat.le_of_ble_eq_true rfl) rfl rfl ?_
      exact Wx.ireturn ok kX7_element 18 rfl hres h (by decide)
    refine gIte h (fun hx h => ?_) (fun hx2 h => ?_)
    · refine Wx.swIn ok kX7_element 8 rfl (tgt := 58) (by rw [hx]; decide) (by rw [hx]; decide) (by rw [hx]; rfl) (by decide) ?_
      refine Wx.run ok kX7_element 19 3 (lv' := [(0, .inr (.inr (some v0))), (1, .inl v1), (2, .inl v2), (3, .inl v3)]) (st' := [.inl v2, .inl v1, .inr (.inr (some v0))]) (pc' := 61) rfl ?_
      obtain ⟨a61, ha61, h⟩ := gob h
      obtain ⟨q61, hq61, h⟩ := gob h
      refine Wx.callV ok kX7_element 22 rfl lm_RX7_143 cd_X7_friends ha61 [.inl v1, .inl v2] (some (.inl q61.1)) (aX7_friends _ _ hq61) (by decide) rfl (Nat.le_of_ble_eq_true rfl) rfl rfl ?_
      exact Wx.ireturn ok kX7_element 23 rfl hres h (by decide)
    refine gIte h (fun hx h => ?_) (fun hx3 h => ?_)
    · refine Wx.swIn ok kX7_element 8 rfl (tgt := 65) (by rw [hx]; decide) (by rw [hx]; decide) (by rw [hx]; rfl) (by decide) ?_
      refine Wx.run ok kX7_element 24 3 (lv' := [(0, .inr (.inr (some v0))), (1, .inl v1), (2, .inl v2), (3, .inl v3)]) (st' := [.inl v2, .inl v1, .inr (.inr (some v0))]) (pc' := 68) rfl ?_
      obtain ⟨a68, ha68, h⟩ := gob h
      obtain ⟨q68, hq68, h⟩ := gob h
      refine Wx.callV ok kX7_element 27 rfl lm_RX7_146 cd_X7_leastTurned ha68 [.inl v1, .inl v2] (some (.inl q68.1)) (aX7_leastTurned _ _ hq68) (by decide) rfl (Nat.le_of_ble_eq_true rfl) rfl rfl ?_
      exact Wx.ireturn ok kX7_element 28 rfl hres h (by decide)
    refine Wx.swOut ok kX7_element 8 rfl (tgt := 72) (gSw v3 0 3 (by decide) (by decide) (fun j hj => match j, hj with
      | 0, _ => hx0
      | 1, _ => hx1
      | 2, _ => hx2
      | 3, _ => hx3
      | j + 4, hj => absurd hj (by omega))) (by decide) ?_
    refine Wx.run ok kX7_element 29 1 (lv' := [(0, .inr (.inr (some v0))), (1, .inl v1), (2, .inl v2), (3, .inl v3)]) (st' := [.inl (-1 : Int32)]) (pc' := 73) rfl ?_
    exact Wx.ireturn ok kX7_element 30 rfl hres h (by decide)
set_option maxRecDepth 100000 in
set_option maxHeartbeats 4000000 in
theorem aX7_know_h76 {X : gX} (ok : gOk X cX7_know RX7 4 none rmX7_know) {res : gW} (hres : gRs X none res) {F : Nat} (r : Nat → Int32 → Int32 → gW → Option (gW)) (k107 : Nat → Int32 → gW → Option (gW)) (hr : ∀ (v0 : Nat) (v2 : Int32) (v3 : Int32) (w : gW), r v0 v2 v3 w = some res → Wx X w 0 0 76 [(0, .inr (.inr (some v0))), (2, .inl v2), (3, .inl v3)] []) (hk107 : ∀ (v0 : Nat) (v2 : Int32) (w : gW), k107 v0 v2 w = some res → Wx X w 0 0 107 [(0, .inr (.inr (some v0))), (2, .inl v2)] []) : ∀ (v0 : Nat) (v2 : Int32) (v3 : Int32) (w : gW), mX7_know_h76 F r k107 v0 v2 v3 w = some res → Wx X w 0 0 76 [(0, .inr (.inr (some v0))), (2, .inl v2), (3, .inl v3)] [] := by
  intro v0 v2 v3 w h
  unfold mX7_know_h76 at h
  refine Wx.run ok kX7_know 46 2 (lv' := [(0, .inr (.inr (some v0))), (2, .inl v2), (3, .inl v3)]) (st' := [.inr (.inr (some v0)), .inl v3]) (pc' := 78) rfl ?_
  refine Wx.getI ok kX7_know 48 rfl lk_RX7_202_0 h (fun t78 h => ?_)
  refine Wx.icmp_ge ok kX7_know 49 (tgt := 107) rfl (by decide) h (fun hc81 h => ?_) (fun hc81 h => ?_)
  · refine Wx.sub [0, 1] rfl ?_
    exact hk107 _ _ _ h
  · refine Wx.run ok kX7_know 50 1 (lv' := [(0, .inr (.inr (some v0))), (2, .inl v2), (3, .inl v3)]) (st' := [.inr (.inr (some v0))]) (pc' := 85) rfl ?_
    refine Wx.getR ok kX7_know 51 rfl lk_RX7_67_0 h (fun t85 h => ?_)
    refine Wx.run ok kX7_know 52 2 (lv' := [(0, .inr (.inr (some v0))), (2, .inl v2), (3, .inl v3)]) (st' := [.inr (.inr (some v0)), .inl v3, .inr (.inr t85)]) (pc' := 90) rfl ?_
    refine Wx.getR ok kX7_know 54 rfl lk_RX7_92_0 h (fun t90 h => ?_)
    refine Wx.run ok kX7_know 55 5 (lv' := [(0, .inr (.inr (some v0))), (2, .inl v2), (3, .inl v3)]) (st' := [.inl (((98 : Int32) * v2) + v3), .inr (.inr t90), .inl v3, .inr (.inr t85)]) (pc' := 99) rfl ?_
    refine Wx.iald ok kX7_know 60 rfl h (fun t99 h => ?_)
    refine Wx.iast ok kX7_know 61 rfl h (fun w100 h => ?_)
    refine Wx.run ok kX7_know 62 1 (lv' := [(3, .inl (v3 + (1 : Int32))), (0, .inr (.inr (some v0))), (2, .inl v2)]) (st' := []) (pc' := 104) rfl ?_
    refine Wx.jump ok kX7_know 63 (tgt := 76) rfl (by decide) ?_
    refine Wx.sub [1, 2, 0] rfl ?_
    exact hr _ _ _ _ h
set_option maxRecDepth 100000 in
set_option maxHeartbeats 4000000 in
theorem aX7_know_l76 {X : gX} (ok : gOk X cX7_know RX7 4 none rmX7_know) {res : gW} (hres : gRs X none res) {F : Nat} (k107 : Nat → Int32 → gW → Option (gW)) (hk107 : ∀ (v0 : Nat) (v2 : Int32) (w : gW), k107 v0 v2 w = some res → Wx X w 0 0 107 [(0, .inr (.inr (some v0))), (2, .inl v2)] []) : ∀ (n : Nat) (v0 : Nat) (v2 : Int32) (v3 : Int32) (w : gW), mX7_know_l76 F k107 n v0 v2 v3 w = some res → Wx X w 0 0 76 [(0, .inr (.inr (some v0))), (2, .inl v2), (3, .inl v3)] [] := by
  intro n
  induction n with
  | zero => intro v0 v2 v3 w h; cases (show (none : Option (gW)) = some res from h)
  | succ n ih =>
    intro v0 v2 v3 w h
    exact aX7_know_h76 ok hres (F := F) (mX7_know_l76 F k107 n) k107 ih hk107 v0 v2 v3 w h
set_option maxRecDepth 100000 in
set_option maxHeartbeats 4000000 in
theorem aX7_know_h64 {X : gX} (ok : gOk X cX7_know RX7 4 none rmX7_know) {res : gW} (hres : gRs X none res) {F : Nat} (r : Nat → Int32 → gW → Option (gW)) (k121 : Nat → gW → Option (gW)) (hr : ∀ (v0 : Nat) (v2 : Int32) (w : gW), r v0 v2 w = some res → Wx X w 0 0 64 [(0, .inr (.inr (some v0))), (2, .inl v2)] []) (hk121 : ∀ (v0 : Nat) (w : gW), k121 v0 w = some res → Wx X w 0 0 121 [(0, .inr (.inr (some v0)))] []) : ∀ (v0 : Nat) (v2 : Int32) (w : gW), mX7_know_h64 F r k121 v0 v2 w = some res → Wx X w 0 0 64 [(0, .inr (.inr (some v0))), (2, .inl v2)] [] := by
  intro v0 v2 w h
  unfold mX7_know_h64 at h
  refine Wx.run ok kX7_know 38 2 (lv' := [(0, .inr (.inr (some v0))), (2, .inl v2)]) (st' := [.inr (.inr (some v0)), .inl v2]) (pc' := 66) rfl ?_
  refine Wx.getR ok kX7_know 40 rfl lk_RX7_80_0 h (fun t66 h => ?_)
  refine Wx.run ok kX7_know 41 1 (lv' := [(0, .inr (.inr (some v0))), (2, .inl v2)]) (st' := [.inl (3 : Int32), .inr (.inr t66), .inl v2]) (pc' := 70) rfl ?_
  refine Wx.iald ok kX7_know 42 rfl h (fun t70 h => ?_)
  refine Wx.icmp_ge ok kX7_know 43 (tgt := 121) rfl (by decide) h (fun hc71 h => ?_) (fun hc71 h => ?_)
  · refine Wx.sub [0] rfl ?_
    exact hk121 _ _ h
  · refine Wx.run ok kX7_know 44 2 (lv' := [(3, .inl (0 : Int32)), (0, .inr (.inr (some v0))), (2, .inl v2)]) (st' := []) (pc' := 76) rfl ?_
    refine Wx.sub [1, 2, 0] rfl ?_
    refine aX7_know_l76 ok hres (F := F) _ ?_ F _ _ _ _ h
    · intro v0 v2 w h
      refine Wx.run ok kX7_know 64 1 (lv' := [(0, .inr (.inr (some v0))), (2, .inl v2)]) (st' := [.inr (.inr (some v0))]) (pc' := 108) rfl ?_
      obtain ⟨a108, ha108, h⟩ := gob h
      obtain ⟨q108, hq108, h⟩ := gob h
      refine Wx.callV ok kX7_know 65 rfl lm_RX7_252 cd_X7_lessBound ha108 [] none (aX7_lessBound _ _ hq108) (by decide) rfl (Nat.le_of_ble_eq_true rfl) rfl rfl ?_
      refine Wx.run ok kX7_know 66 1 (lv' := [(0, .inr (.inr (some v0))), (2, .inl v2)]) (st' := [.inr (.inr (some v0))]) (pc' := 112) rfl ?_
      obtain ⟨a112, ha112, h⟩ := gob h
      obtain ⟨q112, hq112, h⟩ := gob h
      refine Wx.callV ok kX7_know 67 rfl lm_RX7_226 cd_X7_settles ha112 [] none (aX7_settles _ _ hq112) (by decide) rfl (Nat.le_of_ble_eq_true rfl) rfl rfl ?_
      refine Wx.run ok kX7_know 68 1 (lv' := [(2, .inl (v2 + (1 : Int32))), (0, .inr (.inr (some v0)))]) (st' := []) (pc' := 118) rfl ?_
      refine Wx.jump ok kX7_know 69 (tgt := 64) rfl (by decide) ?_
      refine Wx.sub [1, 0] rfl ?_
      exact hr _ _ _ h
set_option maxRecDepth 100000 in
set_option maxHeartbeats 4000000 in
theorem aX7_know_l64 {X : gX} (ok : gOk X cX7_know RX7 4 none rmX7_know) {res : gW} (hres : gRs X none res) {F : Nat} (k121 : Nat → gW → Option (gW)) (hk121 : ∀ (v0 : Nat) (w : gW), k121 v0 w = some res → Wx X w 0 0 121 [(0, .inr (.inr (some v0)))] []) : ∀ (n : Nat) (v0 : Nat) (v2 : Int32) (w : gW), mX7_know_l64 F k121 n v0 v2 w = some res → Wx X w 0 0 64 [(0, .inr (.inr (some v0))), (2, .inl v2)] [] := by
  intro n
  induction n with
  | zero => intro v0 v2 w h; cases (show (none : Option (gW)) = some res from h)
  | succ n ih =>
    intro v0 v2 w h
    exact aX7_know_h64 ok hres (F := F) (mX7_know_l64 F k121 n) k121 ih hk121 v0 v2 w h
set_option maxRecDepth 100000 in
set_option maxHeartbeats 4000000 in
theorem aX7_know_h131 {X : gX} (ok : gOk X cX7_know RX7 4 none rmX7_know) {res : gW} (hres : gRs X none res) {F : Nat} (r : Nat → Int32 → gW → Option (gW)) (hr : ∀ (v0 : Nat) (v2 : Int32) (w : gW), r v0 v2 w = some res → Wx X w 0 0 131 [(0, .inr (.inr (some v0))), (2, .inl v2)] []) : ∀ (v0 : Nat) (v2 : Int32) (w : gW), mX7_know_h131 F r v0 v2 w = some res → Wx X w 0 0 131 [(0, .inr (.inr (some v0))), (2, .inl v2)] [] := by
  intro v0 v2 w h
  unfold mX7_know_h131 at h
  refine Wx.run ok kX7_know 76 3 (lv' := [(0, .inr (.inr (some v0))), (2, .inl v2)]) (st' := [.inr (.inr (some v0)), .inl (98 : Int32), .inl v2]) (pc' := 135) rfl ?_
  refine Wx.getI ok kX7_know 79 rfl lk_RX7_199_0 h (fun t135 h => ?_)
  refine Wx.run ok kX7_know 80 1 (lv' := [(0, .inr (.inr (some v0))), (2, .inl v2)]) (st' := [.inl ((98 : Int32) * t135), .inl v2]) (pc' := 139) rfl ?_
  refine Wx.icmp_ge ok kX7_know 81 (tgt := 160) rfl (by decide) h (fun hc139 h => ?_) (fun hc139 h => ?_)
  · exact Wx.vreturn ok kX7_know 92 rfl hres h (by decide)
  · refine Wx.run ok kX7_know 82 1 (lv' := [(0, .inr (.inr (some v0))), (2, .inl v2)]) (st' := [.inr (.inr (some v0))]) (pc' := 143) rfl ?_
    refine Wx.getR ok kX7_know 83 rfl lk_RX7_89_0 h (fun t143 h => ?_)
    refine Wx.run ok kX7_know 84 2 (lv' := [(0, .inr (.inr (some v0))), (2, .inl v2)]) (st' := [.inr (.inr (some v0)), .inl v2, .inr (.inr t143)]) (pc' := 148) rfl ?_
    refine Wx.getR ok kX7_know 86 rfl lk_RX7_70_0 h (fun t148 h => ?_)
    refine Wx.run ok kX7_know 87 1 (lv' := [(0, .inr (.inr (some v0))), (2, .inl v2)]) (st' := [.inl v2, .inr (.inr t148), .inl v2, .inr (.inr t143)]) (pc' := 152) rfl ?_
    refine Wx.iald ok kX7_know 88 rfl h (fun t152 h => ?_)
    refine Wx.iast ok kX7_know 89 rfl h (fun w153 h => ?_)
    refine Wx.run ok kX7_know 90 1 (lv' := [(2, .inl (v2 + (1 : Int32))), (0, .inr (.inr (some v0)))]) (st' := []) (pc' := 157) rfl ?_
    refine Wx.jump ok kX7_know 91 (tgt := 131) rfl (by decide) ?_
    refine Wx.sub [1, 0] rfl ?_
    exact hr _ _ _ h
set_option maxRecDepth 100000 in
set_option maxHeartbeats 4000000 in
theorem aX7_know_l131 {X : gX} (ok : gOk X cX7_know RX7 4 none rmX7_know) {res : gW} (hres : gRs X none res) {F : Nat} : ∀ (n : Nat) (v0 : Nat) (v2 : Int32) (w : gW), mX7_know_l131 F n v0 v2 w = some res → Wx X w 0 0 131 [(0, .inr (.inr (some v0))), (2, .inl v2)] [] := by
  intro n
  induction n with
  | zero => intro v0 v2 w h; cases (show (none : Option (gW)) = some res from h)
  | succ n ih =>
    intro v0 v2 w h
    exact aX7_know_h131 ok hres (F := F) (mX7_know_l131 F n) ih v0 v2 w h
set_option maxRecDepth 100000 in
set_option maxHeartbeats 4000000 in
theorem aX7_know (l : Launch) (G : gG) {F : Nat} {v0 : Nat} {v1 : Int32} {w : gW} {res : gW} (h : mX7_know F v0 v1 w = some res) : gM l yX7_know cX7_know 4 none rmX7_know G w (gTs [.inr (.inr (some v0)), .inl v1]) none res := by
  refine gM_of (y := yX7_know) (by decide +kernel) (Nat.le_of_ble_eq_true rfl) ?_
  intro X ok hl hG hres hnm
  subst hl; subst hG
  unfold mX7_know at h
  show Wx X w 0 0 0 [(0, .inr (.inr (some v0))), (1, .inl v1)] []
  refine Wx.run ok kX7_know 0 2 (lv' := [(0, .inr (.inr (some v0))), (1, .inl v1)]) (st' := [.inl v1, .inr (.inr (some v0))]) (pc' := 2) rfl ?_
  obtain ⟨a2, ha2, h⟩ := gob h
  obtain ⟨q2, hq2, h⟩ := gob h
  refine Wx.callV ok kX7_know 2 rfl lm_RX7_236 cd_X7_start ha2 [.inl v1] none (aX7_start _ _ hq2) (by decide) rfl (Nat.le_of_ble_eq_true rfl) rfl rfl ?_
  refine Wx.run ok kX7_know 3 1 (lv' := [(0, .inr (.inr (some v0))), (1, .inl v1)]) (st' := [.inr (.inr (some v0))]) (pc' := 6) rfl ?_
  refine Wx.getI ok kX7_know 4 rfl lk_RX7_76_0 h (fun t6 h => ?_)
  refine Wx.run ok kX7_know 5 1 (lv' := [(0, .inr (.inr (some v0))), (1, .inl v1)]) (st' := [.inl v1, .inl t6]) (pc' := 10) rfl ?_
  refine Wx.icmp_ne ok kX7_know 6 (tgt := 36) rfl (by decide) h (fun hc10 h => ?_) (fun hc10 h => ?_)
  · refine Wx.run ok kX7_know 7 2 (lv' := [(0, .inr (.inr (some v0))), (1, .inl v1)]) (st' := [.inr (.inr (some v0)), .inr (.inr (some v0))]) (pc' := 15) rfl ?_
    refine Wx.getI ok kX7_know 9 rfl lk_RX7_208_0 h (fun t15 h => ?_)
    refine Wx.run ok kX7_know 10 3 (lv' := [(0, .inr (.inr (some v0))), (1, .inl v1)]) (st' := [.inr (.inr (some v0)), .inl (t15 - (1 : Int32)), .inr (.inr (some v0))]) (pc' := 21) rfl ?_
    refine Wx.getI ok kX7_know 13 rfl lk_RX7_208_0 h (fun t21 h => ?_)
    refine Wx.run ok kX7_know 14 4 (lv' := [(0, .inr (.inr (some v0))), (1, .inl v1)]) (st' := [.inr (.inr (some v0)), .inl ((t15 - (1 : Int32)) * (t21 - (1 : Int32))), .inr (.inr (some v0))]) (pc' := 28) rfl ?_
    refine Wx.getI ok kX7_know 18 rfl lk_RX7_211_0 h (fun t28 h => ?_)
    refine Wx.run ok kX7_know 19 1 (lv' := [(0, .inr (.inr (some v0))), (1, .inl v1)]) (st' := [.inl (((t15 - (1 : Int32)) * (t21 - (1 : Int32))) * t28), .inr (.inr (some v0))]) (pc' := 32) rfl ?_
    refine Wx.put ok kX7_know 20 rfl lk_RX7_202_1 (gFit_i _) h (fun w32 h => ?_)
    exact Wx.vreturn ok kX7_know 21 rfl hres h (by decide)
  · refine Wx.run ok kX7_know 22 2 (lv' := [(0, .inr (.inr (some v0))), (1, .inl v1)]) (st' := [.inl v1, .inr (.inr (some v0))]) (pc' := 38) rfl ?_
    refine Wx.put ok kX7_know 24 rfl lk_RX7_76_1 (gFit_i _) h (fun w38 h => ?_)
    refine Wx.run ok kX7_know 25 1 (lv' := [(0, .inr (.inr (some v0))), (1, .inl v1)]) (st' := [.inr (.inr (some v0))]) (pc' := 42) rfl ?_
    obtain ⟨a42, ha42, h⟩ := gob h
    obtain ⟨q42, hq42, h⟩ := gob h
    refine Wx.callV ok kX7_know 26 rfl lm_RX7_240 cd_X7_dimensionNone ha42 [] none (aX7_dimensionNone _ _ hq42) (by decide) rfl (Nat.le_of_ble_eq_true rfl) rfl rfl ?_
    refine Wx.run ok kX7_know 27 1 (lv' := [(0, .inr (.inr (some v0))), (1, .inl v1)]) (st' := [.inr (.inr (some v0))]) (pc' := 46) rfl ?_
    obtain ⟨a46, ha46, h⟩ := gob h
    obtain ⟨q46, hq46, h⟩ := gob h
    refine Wx.callV ok kX7_know 28 rfl lm_RX7_243 cd_X7_dimensionOne ha46 [] none (aX7_dimensionOne _ _ hq46) (by decide) rfl (Nat.le_of_ble_eq_true rfl) rfl rfl ?_
    refine Wx.run ok kX7_know 29 1 (lv' := [(0, .inr (.inr (some v0))), (1, .inl v1)]) (st' := [.inr (.inr (some v0))]) (pc' := 50) rfl ?_
    obtain ⟨a50, ha50, h⟩ := gob h
    obtain ⟨q50, hq50, h⟩ := gob h
    refine Wx.callV ok kX7_know 30 rfl lm_RX7_246 cd_X7_pairs ha50 [] none (aX7_pairs _ _ hq50) (by decide) rfl (Nat.le_of_ble_eq_true rfl) rfl rfl ?_
    refine Wx.run ok kX7_know 31 1 (lv' := [(0, .inr (.inr (some v0))), (1, .inl v1)]) (st' := [.inr (.inr (some v0))]) (pc' := 54) rfl ?_
    obtain ⟨a54, ha54, h⟩ := gob h
    obtain ⟨q54, hq54, h⟩ := gob h
    refine Wx.callV ok kX7_know 32 rfl lm_RX7_249 cd_X7_bounds ha54 [] none (aX7_bounds _ _ hq54) (by decide) rfl (Nat.le_of_ble_eq_true rfl) rfl rfl ?_
    refine Wx.run ok kX7_know 33 2 (lv' := [(0, .inr (.inr (some v0))), (1, .inl v1)]) (st' := [.inl (0 : Int32), .inr (.inr (some v0))]) (pc' := 59) rfl ?_
    refine Wx.put ok kX7_know 35 rfl lk_RX7_199_1 (gFit_i _) h (fun w59 h => ?_)
    refine Wx.run ok kX7_know 36 2 (lv' := [(2, .inl (0 : Int32)), (0, .inr (.inr (some v0))), (1, .inl v1)]) (st' := []) (pc' := 64) rfl ?_
    refine Wx.sub [1, 0] rfl ?_
    refine aX7_know_l64 ok hres (F := F) _ ?_ F _ _ _ h
    · intro v0 w h
      refine Wx.run ok kX7_know 70 2 (lv' := [(0, .inr (.inr (some v0)))]) (st' := [.inr (.inr (some v0)), .inr (.inr (some v0))]) (pc' := 123) rfl ?_
      refine Wx.getI ok kX7_know 72 rfl lk_RX7_199_0 h (fun t123 h => ?_)
      refine Wx.put ok kX7_know 73 rfl lk_RX7_255_1 (gFit_i _) h (fun w126 h => ?_)
      refine Wx.run ok kX7_know 74 2 (lv' := [(2, .inl (0 : Int32)), (0, .inr (.inr (some v0)))]) (st' := []) (pc' := 131) rfl ?_
      refine Wx.sub [1, 0] rfl ?_
      refine aX7_know_l131 ok hres (F := F) F _ _ _ h
set_option maxRecDepth 100000 in
set_option maxHeartbeats 4000000 in
theorem aX7_made (l : Launch) (G : gG) {F : Nat} {v0 : Nat} {v1 : Int32} {v2 : Int32} {v3 : Int32} {w : gW} {res : Int32 × gW} (h : mX7_made F v0 v1 v2 v3 w = some res) : gM l yX7_made cX7_made 4 (some .int) rmX7_made G w (gTs [.inr (.inr (some v0)), .inl v1, .inl v2, .inl v3]) (some (.int res.1)) res.2 := by
  refine gM_of (y := yX7_made) (by decide +kernel) (Nat.le_of_ble_eq_true rfl) ?_
  intro X ok hl hG hres hnm
  subst hl; subst hG
  unfold mX7_made at h
  show Wx X w 0 0 0 [(0, .inr (.inr (some v0))), (1, .inl v1), (2, .inl v2), (3, .inl v3)] []
  refine Wx.run ok kX7_made 0 3 (lv' := [(0, .inr (.inr (some v0))), (1, .inl v1), (2, .inl v2), (3, .inl v3)]) (st' := [.inl v2, .inl v1, .inr (.inr (some v0))]) (pc' := 3) rfl ?_
  obtain ⟨a3, ha3, h⟩ := gob h
  obtain ⟨q3, hq3, h⟩ := gob h
  refine Wx.callV ok kX7_made 3 rfl lm_RX7_132 cd_X7_isElement ha3 [.inl v1, .inl v2] (some (.inl q3.1)) (aX7_isElement _ _ hq3) (by decide) rfl (Nat.le_of_ble_eq_true rfl) rfl rfl ?_
  refine Wx.if_eq ok kX7_made 4 (tgt := 18) rfl (by decide) h (fun hc6 h => ?_) (fun hc6 h => ?_)
  · refine Wx.run ok kX7_made 10 1 (lv' := [(0, .inr (.inr (some v0))), (1, .inl v1), (2, .inl v2), (3, .inl v3)]) (st' := [.inl (-1 : Int32)]) (pc' := 19) rfl ?_
    exact Wx.ireturn ok kX7_made 11 rfl hres h (by decide)
  · refine Wx.run ok kX7_made 5 3 (lv' := [(0, .inr (.inr (some v0))), (1, .inl v1), (2, .inl v2), (3, .inl v3)]) (st' := [.inl v3, .inl v1, .inr (.inr (some v0))]) (pc' := 12) rfl ?_
    obtain ⟨a12, ha12, h⟩ := gob h
    obtain ⟨q12, hq12, h⟩ := gob h
    refine Wx.callV ok kX7_made 8 rfl lm_RX7_132 cd_X7_isElement ha12 [.inl v1, .inl v3] (some (.inl q12.1)) (aX7_isElement _ _ hq12) (by decide) rfl (Nat.le_of_ble_eq_true rfl) rfl rfl ?_
    refine Wx.if_ne ok kX7_made 9 (tgt := 20) rfl (by decide) h (fun hc15 h => ?_) (fun hc15 h => ?_)
    · refine Wx.run ok kX7_made 10 1 (lv' := [(0, .inr (.inr (some v0))), (1, .inl v1), (2, .inl v2), (3, .inl v3)]) (st' := [.inl (-1 : Int32)]) (pc' := 19) rfl ?_
      exact Wx.ireturn ok kX7_made 11 rfl hres h (by decide)
    · refine Wx.run ok kX7_made 12 1 (lv' := [(0, .inr (.inr (some v0))), (1, .inl v1), (2, .inl v2), (3, .inl v3)]) (st' := [.inr (.inr (some v0))]) (pc' := 21) rfl ?_
      refine Wx.getR ok kX7_made 13 rfl lk_RX7_41_0 h (fun t21 h => ?_)
      refine Wx.run ok kX7_made 14 2 (lv' := [(0, .inr (.inr (some v0))), (1, .inl v1), (2, .inl v2), (3, .inl v3)]) (st' := [.inl v2, .inl (0 : Int32), .inr (.inr t21)]) (pc' := 26) rfl ?_
      refine Wx.iast ok kX7_made 16 rfl h (fun w26 h => ?_)
      refine Wx.run ok kX7_made 17 1 (lv' := [(0, .inr (.inr (some v0))), (1, .inl v1), (2, .inl v2), (3, .inl v3)]) (st' := [.inr (.inr (some v0))]) (pc' := 28) rfl ?_
      refine Wx.getR ok kX7_made 18 rfl lk_RX7_41_0 h (fun t28 h => ?_)
      refine Wx.run ok kX7_made 19 2 (lv' := [(0, .inr (.inr (some v0))), (1, .inl v1), (2, .inl v2), (3, .inl v3)]) (st' := [.inl v3, .inl (1 : Int32), .inr (.inr t28)]) (pc' := 33) rfl ?_
      refine Wx.iast ok kX7_made 21 rfl h (fun w33 h => ?_)
      refine Wx.run ok kX7_made 22 3 (lv' := [(0, .inr (.inr (some v0))), (1, .inl v1), (2, .inl v2), (3, .inl v3)]) (st' := [.inl (2 : Int32), .inl v1, .inr (.inr (some v0))]) (pc' := 37) rfl ?_
      obtain ⟨a37, ha37, h⟩ := gob h
      obtain ⟨q37, hq37, h⟩ := gob h
      refine Wx.callV ok kX7_made 25 rfl lm_RX7_162 cd_X7_makes ha37 [.inl v1, .inl (2 : Int32)] none (aX7_makes _ _ hq37) (by decide) rfl (Nat.le_of_ble_eq_true rfl) rfl rfl ?_
      refine Wx.run ok kX7_made 26 1 (lv' := [(0, .inr (.inr (some v0))), (1, .inl v1), (2, .inl v2), (3, .inl v3)]) (st' := [.inr (.inr (some v0))]) (pc' := 41) rfl ?_
      refine Wx.getI ok kX7_made 27 rfl lk_RX7_156_0 h (fun t41 h => ?_)
      exact Wx.ireturn ok kX7_made 28 rfl hres h (by decide)
set_option maxRecDepth 100000 in
set_option maxHeartbeats 4000000 in
theorem aX7_product_b28 {X : gX} (ok : gOk X cX7_product RX7 4 (some .int) rmX7_product) {res : Int32 × gW} (hres : gRs X (some (.int res.1)) res.2) {F : Nat} : ∀  (w : gW), mX7_product_b28 F w = some res → Wx X w 0 0 28 [] [] := by
  intro w h
  unfold mX7_product_b28 at h
  refine Wx.run ok kX7_product 16 1 (lv' := []) (st' := [.inl (-1 : Int32)]) (pc' := 29) rfl ?_
  exact Wx.ireturn ok kX7_product 17 rfl hres h (by decide)
set_option maxRecDepth 100000 in
set_option maxHeartbeats 4000000 in
theorem aX7_product (l : Launch) (G : gG) {F : Nat} {v0 : Nat} {v1 : Int32} {v2 : Int32} {v3 : Int32} {w : gW} {res : Int32 × gW} (h : mX7_product F v0 v1 v2 v3 w = some res) : gM l yX7_product cX7_product 4 (some .int) rmX7_product G w (gTs [.inr (.inr (some v0)), .inl v1, .inl v2, .inl v3]) (some (.int res.1)) res.2 := by
  refine gM_of (y := yX7_product) (by decide +kernel) (Nat.le_of_ble_eq_true rfl) ?_
  intro X ok hl hG hres hnm
  subst hl; subst hG
  unfold mX7_product at h
  show Wx X w 0 0 0 [(0, .inr (.inr (some v0))), (1, .inl v1), (2, .inl v2), (3, .inl v3)] []
  refine Wx.run ok kX7_product 0 3 (lv' := [(0, .inr (.inr (some v0))), (1, .inl v1), (2, .inl v2), (3, .inl v3)]) (st' := [.inl v2, .inl v1, .inr (.inr (some v0))]) (pc' := 3) rfl ?_
  obtain ⟨a3, ha3, h⟩ := gob h
  obtain ⟨q3, hq3, h⟩ := gob h
  refine Wx.callV ok kX7_product 3 rfl lm_RX7_132 cd_X7_isElement ha3 [.inl v1, .inl v2] (some (.inl q3.1)) (aX7_isElement _ _ hq3) (by decide) rfl (Nat.le_of_ble_eq_true rfl) rfl rfl ?_
  refine Wx.if_eq ok kX7_product 4 (tgt := 28) rfl (by decide) h (fun hc6 h => ?_) (fun hc6 h => ?_)
  · refine Wx.sub [] rfl ?_
    exact aX7_product_b28 ok hres (F := F)  _ h
  · refine Wx.run ok kX7_product 5 3 (lv' := [(0, .inr (.inr (some v0))), (1, .inl v1), (2, .inl v2), (3, .inl v3)]) (st' := [.inl v3, .inl v1, .inr (.inr (some v0))]) (pc' := 12) rfl ?_
    obtain ⟨a12, ha12, h⟩ := gob h
    obtain ⟨q12, hq12, h⟩ := gob h
    refine Wx.callV ok kX7_product 8 rfl lm_RX7_132 cd_X7_isElement ha12 [.inl v1, .inl v3] (some (.inl q12.1)) (aX7_isElement _ _ hq12) (by decide) rfl (Nat.le_of_ble_eq_true rfl) rfl rfl ?_
    refine Wx.if_eq ok kX7_product 9 (tgt := 28) rfl (by decide) h (fun hc15 h => ?_) (fun hc15 h => ?_)
    · refine Wx.sub [] rfl ?_
      exact aX7_product_b28 ok hres (F := F)  _ h
    · refine Wx.run ok kX7_product 10 4 (lv' := [(0, .inr (.inr (some v0))), (1, .inl v1), (2, .inl v2), (3, .inl v3)]) (st' := [.inl v3, .inl v2, .inl v1, .inr (.inr (some v0))]) (pc' := 22) rfl ?_
      obtain ⟨a22, ha22, h⟩ := gob h
      obtain ⟨q22, hq22, h⟩ := gob h
      refine Wx.callV ok kX7_product 14 rfl lm_RX7_118 cd_X7_prod ha22 [.inl v1, .inl v2, .inl v3] (some (.inl q22.1)) (aX7_prod _ _ hq22) (by decide) rfl (Nat.le_of_ble_eq_true rfl) rfl rfl ?_
      refine Wx.jump ok kX7_product 15 (tgt := 29) rfl (by decide) ?_
      exact Wx.ireturn ok kX7_product 17 rfl hres h (by decide)
set_option maxRecDepth 100000 in
set_option maxHeartbeats 4000000 in
theorem aX7_same_h50 {X : gX} (ok : gOk X cX7_same RX7 9 (some .int) rmX7_same) {res : Int32 × gW} (hres : gRs X (some (.int res.1)) res.2) {F : Nat} (r : Nat → Int32 → Int32 → Int32 → Int32 → gW → Option (Int32 × gW)) (k86 : Nat → Int32 → Int32 → Int32 → gW → Option (Int32 × gW)) (hr : ∀ (v0 : Nat) (v1 : Int32) (v2 : Int32) (v3 : Int32) (v4 : Int32) (w : gW), r v0 v1 v2 v3 v4 w = some res → Wx X w 0 0 50 [(0, .inr (.inr (some v0))), (1, .inl v1), (2, .inl v2), (3, .inl v3), (4, .inl v4)] []) (hk86 : ∀ (v0 : Nat) (v1 : Int32) (v2 : Int32) (v3 : Int32) (w : gW), k86 v0 v1 v2 v3 w = some res → Wx X w 0 0 86 [(0, .inr (.inr (some v0))), (1, .inl v1), (2, .inl v2), (3, .inl v3)] []) : ∀ (v0 : Nat) (v1 : Int32) (v2 : Int32) (v3 : Int32) (v4 : Int32) (w : gW), mX7_same_h50 F r k86 v0 v1 v2 v3 v4 w = some res → Wx X w 0 0 50 [(0, .inr (.inr (some v0))), (1, .inl v1), (2, .inl v2), (3, .inl v3), (4, .inl v4)] [] := by
  intro v0 v1 v2 v3 v4 w h
  unfold mX7_same_h50 at h
  refine Wx.run ok kX7_same 29 2 (lv' := [(0, .inr (.inr (some v0))), (1, .inl v1), (2, .inl v2), (3, .inl v3), (4, .inl v4)]) (st' := [.inr (.inr (some v0)), .inl v4]) (pc' := 53) rfl ?_
  refine Wx.getR ok kX7_same 31 rfl lk_RX7_7_0 h (fun t53 h => ?_)
  refine Wx.run ok kX7_same 32 1 (lv' := [(0, .inr (.inr (some v0))), (1, .inl v1), (2, .inl v2), (3, .inl v3), (4, .inl v4)]) (st' := [.inl v1, .inr (.inr t53), .inl v4]) (pc' := 57) rfl ?_
  refine Wx.iald ok kX7_same 33 rfl h (fun t57 h => ?_)
  refine Wx.icmp_gt ok kX7_same 34 (tgt := 86) rfl (by decide) h (fun hc58 h => ?_) (fun hc58 h => ?_)
  · refine Wx.sub [0, 1, 2, 3] rfl ?_
    exact hk86 _ _ _ _ _ h
  · refine Wx.run ok kX7_same 35 3 (lv' := [(0, .inr (.inr (some v0))), (1, .inl v1), (2, .inl v2), (3, .inl v3), (4, .inl v4)]) (st' := [.inl v4, .inl v1, .inr (.inr (some v0))]) (pc' := 65) rfl ?_
    obtain ⟨a65, ha65, h⟩ := gob h
    obtain ⟨q65, hq65, h⟩ := gob h
    refine Wx.callV ok kX7_same 38 rfl lm_RX7_174 cd_X7_ofOrder ha65 [.inl v1, .inl v4] (some (.inl q65.1)) (aX7_ofOrder _ _ hq65) (by decide) rfl (Nat.le_of_ble_eq_true rfl) rfl rfl ?_
    refine Wx.run ok kX7_same 39 3 (lv' := [(0, .inr (.inr (some v0))), (1, .inl v1), (2, .inl v2), (3, .inl v3), (4, .inl v4)]) (st' := [.inl v4, .inl v2, .inr (.inr (some v0)), .inl q65.1]) (pc' := 72) rfl ?_
    obtain ⟨a72, ha72, h⟩ := gob h
    obtain ⟨q72, hq72, h⟩ := gob h
    refine Wx.callV ok kX7_same 42 rfl lm_RX7_174 cd_X7_ofOrder ha72 [.inl v2, .inl v4] (some (.inl q72.1)) (aX7_ofOrder _ _ hq72) (by decide) rfl (Nat.le_of_ble_eq_true rfl) rfl rfl ?_
    refine Wx.icmp_eq ok kX7_same 43 (tgt := 80) rfl (by decide) h (fun hc75 h => ?_) (fun hc75 h => ?_)
    · refine Wx.run ok kX7_same 46 1 (lv' := [(4, .inl (v4 + (1 : Int32))), (0, .inr (.inr (some v0))), (1, .inl v1), (2, .inl v2), (3, .inl v3)]) (st' := []) (pc' := 83) rfl ?_
      refine Wx.jump ok kX7_same 47 (tgt := 50) rfl (by decide) ?_
      refine Wx.sub [1, 2, 3, 4, 0] rfl ?_
      exact hr _ _ _ _ _ _ h
    · refine Wx.run ok kX7_same 44 1 (lv' := [(0, .inr (.inr (some v0))), (1, .inl v1), (2, .inl v2), (3, .inl v3), (4, .inl v4)]) (st' := [.inl (0 : Int32)]) (pc' := 79) rfl ?_
      exact Wx.ireturn ok kX7_same 45 rfl hres h (by decide)
set_option maxRecDepth 100000 in
set_option maxHeartbeats 4000000 in
theorem aX7_same_l50 {X : gX} (ok : gOk X cX7_same RX7 9 (some .int) rmX7_same) {res : Int32 × gW} (hres : gRs X (some (.int res.1)) res.2) {F : Nat} (k86 : Nat → Int32 → Int32 → Int32 → gW → Option (Int32 × gW)) (hk86 : ∀ (v0 : Nat) (v1 : Int32) (v2 : Int32) (v3 : Int32) (w : gW), k86 v0 v1 v2 v3 w = some res → Wx X w 0 0 86 [(0, .inr (.inr (some v0))), (1, .inl v1), (2, .inl v2), (3, .inl v3)] []) : ∀ (n : Nat) (v0 : Nat) (v1 : Int32) (v2 : Int32) (v3 : Int32) (v4 : Int32) (w : gW), mX7_same_l50 F k86 n v0 v1 v2 v3 v4 w = some res → Wx X w 0 0 50 [(0, .inr (.inr (some v0))), (1, .inl v1), (2, .inl v2), (3, .inl v3), (4, .inl v4)] [] := by
  intro n
  induction n with
  | zero => intro v0 v1 v2 v3 v4 w h; cases (show (none : Option (Int32 × gW)) = some res from h)
  | succ n ih =>
    intro v0 v1 v2 v3 v4 w h
    exact aX7_same_h50 ok hres (F := F) (mX7_same_l50 F k86 n) k86 ih hk86 v0 v1 v2 v3 v4 w h
set_option maxRecDepth 100000 in
set_option maxHeartbeats 4000000 in
theorem aX7_same_h103 {X : gX} (ok : gOk X cX7_same RX7 9 (some .int) rmX7_same) {res : Int32 × gW} (hres : gRs X (some (.int res.1)) res.2) {F : Nat} (r : Nat → Int32 → Int32 → Int32 → Int32 → Int32 → gW → Option (Int32 × gW)) (k132 : Nat → Int32 → Int32 → Int32 → Int32 → gW → Option (Int32 × gW)) (hr : ∀ (v0 : Nat) (v1 : Int32) (v2 : Int32) (v3 : Int32) (v4 : Int32) (v5 : Int32) (w : gW), r v0 v1 v2 v3 v4 v5 w = some res → Wx X w 0 0 103 [(0, .inr (.inr (some v0))), (1, .inl v1), (2, .inl v2), (3, .inl v3), (4, .inl v4), (5, .inl v5)] []) (hk132 : ∀ (v0 : Nat) (v1 : Int32) (v2 : Int32) (v3 : Int32) (v4 : Int32) (w : gW), k132 v0 v1 v2 v3 v4 w = some res → Wx X w 0 0 132 [(0, .inr (.inr (some v0))), (1, .inl v1), (2, .inl v2), (3, .inl v3), (4, .inl v4)] []) : ∀ (v0 : Nat) (v1 : Int32) (v2 : Int32) (v3 : Int32) (v4 : Int32) (v5 : Int32) (w : gW), mX7_same_h103 F r k132 v0 v1 v2 v3 v4 v5 w = some res → Wx X w 0 0 103 [(0, .inr (.inr (some v0))), (1, .inl v1), (2, .inl v2), (3, .inl v3), (4, .inl v4), (5, .inl v5)] [] := by
  intro v0 v1 v2 v3 v4 v5 w h
  unfold mX7_same_h103 at h
  refine Wx.run ok kX7_same 58 2 (lv' := [(0, .inr (.inr (some v0))), (1, .inl v1), (2, .inl v2), (3, .inl v3), (4, .inl v4), (5, .inl v5)]) (st' := [.inl v4, .inl v5]) (pc' := 107) rfl ?_
  refine Wx.icmp_ge ok kX7_same 60 (tgt := 132) rfl (by decide) h (fun hc107 h => ?_) (fun hc107 h => ?_)
  · refine Wx.sub [0, 1, 2, 3, 4] rfl ?_
    exact hk132 _ _ _ _ _ _ h
  · refine Wx.run ok kX7_same 61 1 (lv' := [(0, .inr (.inr (some v0))), (1, .inl v1), (2, .inl v2), (3, .inl v3), (4, .inl v4), (5, .inl v5)]) (st' := [.inr (.inr (some v0))]) (pc' := 111) rfl ?_
    refine Wx.getR ok kX7_same 62 rfl lk_RX7_61_0 h (fun t111 h => ?_)
    refine Wx.run ok kX7_same 63 6 (lv' := [(0, .inr (.inr (some v0))), (1, .inl v1), (2, .inl v2), (3, .inl v3), (4, .inl v4), (5, .inl v5)]) (st' := [.inl (0 : Int32), .inl v5, .inl v2, .inl v1, .inr (.inr (some v0)), .inl v5, .inr (.inr t111)]) (pc' := 122) rfl ?_
    obtain ⟨a122, ha122, h⟩ := gob h
    obtain ⟨q122, hq122, h⟩ := gob h
    refine Wx.callV ok kX7_same 69 rfl lm_RX7_180 cd_X7_nextLike ha122 [.inl v1, .inl v2, .inl v5, .inl (0 : Int32)] (some (.inl q122.1)) (aX7_nextLike _ _ hq122) (by decide) rfl (Nat.le_of_ble_eq_true rfl) rfl rfl ?_
    refine Wx.iast ok kX7_same 70 rfl h (fun w125 h => ?_)
    refine Wx.run ok kX7_same 71 1 (lv' := [(5, .inl (v5 + (1 : Int32))), (0, .inr (.inr (some v0))), (1, .inl v1), (2, .inl v2), (3, .inl v3), (4, .inl v4)]) (st' := []) (pc' := 129) rfl ?_
    refine Wx.jump ok kX7_same 72 (tgt := 103) rfl (by decide) ?_
    refine Wx.sub [1, 2, 3, 4, 5, 0] rfl ?_
    exact hr _ _ _ _ _ _ _ h
set_option maxRecDepth 100000 in
set_option maxHeartbeats 4000000 in
theorem aX7_same_l103 {X : gX} (ok : gOk X cX7_same RX7 9 (some .int) rmX7_same) {res : Int32 × gW} (hres : gRs X (some (.int res.1)) res.2) {F : Nat} (k132 : Nat → Int32 → Int32 → Int32 → Int32 → gW → Option (Int32 × gW)) (hk132 : ∀ (v0 : Nat) (v1 : Int32) (v2 : Int32) (v3 : Int32) (v4 : Int32) (w : gW), k132 v0 v1 v2 v3 v4 w = some res → Wx X w 0 0 132 [(0, .inr (.inr (some v0))), (1, .inl v1), (2, .inl v2), (3, .inl v3), (4, .inl v4)] []) : ∀ (n : Nat) (v0 : Nat) (v1 : Int32) (v2 : Int32) (v3 : Int32) (v4 : Int32) (v5 : Int32) (w : gW), mX7_same_l103 F k132 n v0 v1 v2 v3 v4 v5 w = some res → Wx X w 0 0 103 [(0, .inr (.inr (some v0))), (1, .inl v1), (2, .inl v2), (3, .inl v3), (4, .inl v4), (5, .inl v5)] [] := by
  intro n
  induction n with
  | zero => intro v0 v1 v2 v3 v4 v5 w h; cases (show (none : Option (Int32 × gW)) = some res from h)
  | succ n ih =>
    intro v0 v1 v2 v3 v4 v5 w h
    exact aX7_same_h103 ok hres (F := F) (mX7_same_l103 F k132 n) k132 ih hk132 v0 v1 v2 v3 v4 v5 w h
set_option maxRecDepth 100000 in
set_option maxHeartbeats 4000000 in
theorem aX7_same_b232 {X : gX} (ok : gOk X cX7_same RX7 9 (some .int) rmX7_same) {res : Int32 × gW} (hres : gRs X (some (.int res.1)) res.2) {F : Nat} (r : Nat → Int32 → Int32 → Int32 → Int32 → Int32 → Int32 → Int32 → gW → Option (Int32 × gW)) (k261 : Nat → Int32 → Int32 → Int32 → Int32 → Int32 → Int32 → gW → Option (Int32 × gW)) (hr : ∀ (v0 : Nat) (v1 : Int32) (v2 : Int32) (v3 : Int32) (v4 : Int32) (v5 : Int32) (v7 : Int32) (v8 : Int32) (w : gW), r v0 v1 v2 v3 v4 v5 v7 v8 w = some res → Wx X w 0 0 177 [(0, .inr (.inr (some v0))), (1, .inl v1), (2, .inl v2), (3, .inl v3), (4, .inl v4), (5, .inl v5), (7, .inl v7), (8, .inl v8)] []) (hk261 : ∀ (v0 : Nat) (v1 : Int32) (v2 : Int32) (v3 : Int32) (v4 : Int32) (v5 : Int32) (v8 : Int32) (w : gW), k261 v0 v1 v2 v3 v4 v5 v8 w = some res → Wx X w 0 0 261 [(0, .inr (.inr (some v0))), (1, .inl v1), (2, .inl v2), (3, .inl v3), (4, .inl v4), (5, .inl v5), (8, .inl v8)] []) : ∀ (v0 : Nat) (v1 : Int32) (v2 : Int32) (v3 : Int32) (v4 : Int32) (v5 : Int32) (v7 : Int32) (s0 : Int32) (w : gW), mX7_same_b232 F r k261 v0 v1 v2 v3 v4 v5 v7 s0 w = some res → Wx X w 0 0 232 [(0, .inr (.inr (some v0))), (1, .inl v1), (2, .inl v2), (3, .inl v3), (4, .inl v4), (5, .inl v5), (7, .inl v7)] [.inl s0] := by
  intro v0 v1 v2 v3 v4 v5 v7 s0 w h
  unfold mX7_same_b232 at h
  refine Wx.run ok kX7_same 130 2 (lv' := [(8, .inl s0), (0, .inr (.inr (some v0))), (1, .inl v1), (2, .inl v2), (3, .inl v3), (4, .inl v4), (5, .inl v5), (7, .inl v7)]) (st' := [.inl s0]) (pc' := 236) rfl ?_
  refine Wx.if_eq ok kX7_same 132 (tgt := 177) rfl (by decide) h (fun hc236 h => ?_) (fun hc236 h => ?_)
  · refine Wx.sub [1, 2, 3, 4, 5, 6, 7, 0] rfl ?_
    exact hr _ _ _ _ _ _ _ _ _ h
  · refine Wx.run ok kX7_same 133 1 (lv' := [(8, .inl s0), (0, .inr (.inr (some v0))), (1, .inl v1), (2, .inl v2), (3, .inl v3), (4, .inl v4), (5, .inl v5), (7, .inl v7)]) (st' := [.inr (.inr (some v0))]) (pc' := 240) rfl ?_
    refine Wx.getR ok kX7_same 134 rfl lk_RX7_61_0 h (fun t240 h => ?_)
    refine Wx.run ok kX7_same 135 6 (lv' := [(8, .inl s0), (0, .inr (.inr (some v0))), (1, .inl v1), (2, .inl v2), (3, .inl v3), (4, .inl v4), (5, .inl v5), (7, .inl v7)]) (st' := [.inl (0 : Int32), .inl v7, .inl v2, .inl v1, .inr (.inr (some v0)), .inl v7, .inr (.inr t240)]) (pc' := 251) rfl ?_
    obtain ⟨a251, ha251, h⟩ := gob h
    obtain ⟨q251, hq251, h⟩ := gob h
    refine Wx.callV ok kX7_same 141 rfl lm_RX7_180 cd_X7_nextLike ha251 [.inl v1, .inl v2, .inl v7, .inl (0 : Int32)] (some (.inl q251.1)) (aX7_nextLike _ _ hq251) (by decide) rfl (Nat.le_of_ble_eq_true rfl) rfl rfl ?_
    refine Wx.iast ok kX7_same 142 rfl h (fun w254 h => ?_)
    refine Wx.run ok kX7_same 143 1 (lv' := [(7, .inl (v7 + (-1 : Int32))), (8, .inl s0), (0, .inr (.inr (some v0))), (1, .inl v1), (2, .inl v2), (3, .inl v3), (4, .inl v4), (5, .inl v5)]) (st' := []) (pc' := 258) rfl ?_
    refine Wx.jump ok kX7_same 144 (tgt := 177) rfl (by decide) ?_
    refine Wx.sub [2, 3, 4, 5, 6, 7, 0, 1] rfl ?_
    exact hr _ _ _ _ _ _ _ _ _ h
set_option maxRecDepth 100000 in
set_option maxHeartbeats 4000000 in
theorem aX7_same_h177 {X : gX} (ok : gOk X cX7_same RX7 9 (some .int) rmX7_same) {res : Int32 × gW} (hres : gRs X (some (.int res.1)) res.2) {F : Nat} (r : Nat → Int32 → Int32 → Int32 → Int32 → Int32 → Int32 → Int32 → gW → Option (Int32 × gW)) (k261 : Nat → Int32 → Int32 → Int32 → Int32 → Int32 → Int32 → gW → Option (Int32 × gW)) (hr : ∀ (v0 : Nat) (v1 : Int32) (v2 : Int32) (v3 : Int32) (v4 : Int32) (v5 : Int32) (v7 : Int32) (v8 : Int32) (w : gW), r v0 v1 v2 v3 v4 v5 v7 v8 w = some res → Wx X w 0 0 177 [(0, .inr (.inr (some v0))), (1, .inl v1), (2, .inl v2), (3, .inl v3), (4, .inl v4), (5, .inl v5), (7, .inl v7), (8, .inl v8)] []) (hk261 : ∀ (v0 : Nat) (v1 : Int32) (v2 : Int32) (v3 : Int32) (v4 : Int32) (v5 : Int32) (v8 : Int32) (w : gW), k261 v0 v1 v2 v3 v4 v5 v8 w = some res → Wx X w 0 0 261 [(0, .inr (.inr (some v0))), (1, .inl v1), (2, .inl v2), (3, .inl v3), (4, .inl v4), (5, .inl v5), (8, .inl v8)] []) : ∀ (v0 : Nat) (v1 : Int32) (v2 : Int32) (v3 : Int32) (v4 : Int32) (v5 : Int32) (v7 : Int32) (v8 : Int32) (w : gW), mX7_same_h177 F r k261 v0 v1 v2 v3 v4 v5 v7 v8 w = some res → Wx X w 0 0 177 [(0, .inr (.inr (some v0))), (1, .inl v1), (2, .inl v2), (3, .inl v3), (4, .inl v4), (5, .inl v5), (7, .inl v7), (8, .inl v8)] [] := by
  intro v0 v1 v2 v3 v4 v5 v7 v8 w h
  unfold mX7_same_h177 at h
  refine Wx.run ok kX7_same 99 1 (lv' := [(0, .inr (.inr (some v0))), (1, .inl v1), (2, .inl v2), (3, .inl v3), (4, .inl v4), (5, .inl v5), (7, .inl v7), (8, .inl v8)]) (st' := [.inl v7]) (pc' := 179) rfl ?_
  refine Wx.if_lt ok kX7_same 100 (tgt := 261) rfl (by decide) h (fun hc179 h => ?_) (fun hc179 h => ?_)
  · refine Wx.sub [0, 1, 2, 3, 4, 5, 7] rfl ?_
    exact hk261 _ _ _ _ _ _ _ _ h
  · refine Wx.run ok kX7_same 101 1 (lv' := [(0, .inr (.inr (some v0))), (1, .inl v1), (2, .inl v2), (3, .inl v3), (4, .inl v4), (5, .inl v5), (7, .inl v7), (8, .inl v8)]) (st' := [.inl v8]) (pc' := 184) rfl ?_
    refine Wx.if_eq ok kX7_same 102 (tgt := 261) rfl (by decide) h (fun hc184 h => ?_) (fun hc184 h => ?_)
    · refine Wx.sub [0, 1, 2, 3, 4, 5, 7] rfl ?_
      exact hk261 _ _ _ _ _ _ _ _ h
    · refine Wx.run ok kX7_same 103 1 (lv' := [(0, .inr (.inr (some v0))), (1, .inl v1), (2, .inl v2), (3, .inl v3), (4, .inl v4), (5, .inl v5), (7, .inl v7), (8, .inl v8)]) (st' := [.inr (.inr (some v0))]) (pc' := 188) rfl ?_
      refine Wx.getR ok kX7_same 104 rfl lk_RX7_61_0 h (fun t188 h => ?_)
      refine Wx.run ok kX7_same 105 6 (lv' := [(0, .inr (.inr (some v0))), (1, .inl v1), (2, .inl v2), (3, .inl v3), (4, .inl v4), (5, .inl v5), (7, .inl v7), (8, .inl v8)]) (st' := [.inr (.inr (some v0)), .inl v7, .inl v2, .inl v1, .inr (.inr (some v0)), .inl v7, .inr (.inr t188)]) (pc' := 199) rfl ?_
      refine Wx.getR ok kX7_same 111 rfl lk_RX7_61_0 h (fun t199 h => ?_)
      refine Wx.run ok kX7_same 112 1 (lv' := [(0, .inr (.inr (some v0))), (1, .inl v1), (2, .inl v2), (3, .inl v3), (4, .inl v4), (5, .inl v5), (7, .inl v7), (8, .inl v8)]) (st' := [.inl v7, .inr (.inr t199), .inl v7, .inl v2, .inl v1, .inr (.inr (some v0)), .inl v7, .inr (.inr t188)]) (pc' := 204) rfl ?_
      refine Wx.iald ok kX7_same 113 rfl h (fun t204 h => ?_)
      refine Wx.run ok kX7_same 114 2 (lv' := [(0, .inr (.inr (some v0))), (1, .inl v1), (2, .inl v2), (3, .inl v3), (4, .inl v4), (5, .inl v5), (7, .inl v7), (8, .inl v8)]) (st' := [.inl (t204 + (1 : Int32)), .inl v7, .inl v2, .inl v1, .inr (.inr (some v0)), .inl v7, .inr (.inr t188)]) (pc' := 207) rfl ?_
      obtain ⟨a207, ha207, h⟩ := gob h
      obtain ⟨q207, hq207, h⟩ := gob h
      refine Wx.callV ok kX7_same 116 rfl lm_RX7_180 cd_X7_nextLike ha207 [.inl v1, .inl v2, .inl v7, .inl (t204 + (1 : Int32))] (some (.inl q207.1)) (aX7_nextLike _ _ hq207) (by decide) rfl (Nat.le_of_ble_eq_true rfl) rfl rfl ?_
      refine Wx.iast ok kX7_same 117 rfl h (fun w210 h => ?_)
      refine Wx.run ok kX7_same 118 1 (lv' := [(0, .inr (.inr (some v0))), (1, .inl v1), (2, .inl v2), (3, .inl v3), (4, .inl v4), (5, .inl v5), (7, .inl v7), (8, .inl v8)]) (st' := [.inr (.inr (some v0))]) (pc' := 212) rfl ?_
      refine Wx.getR ok kX7_same 119 rfl lk_RX7_61_0 h (fun t212 h => ?_)
      refine Wx.run ok kX7_same 120 1 (lv' := [(0, .inr (.inr (some v0))), (1, .inl v1), (2, .inl v2), (3, .inl v3), (4, .inl v4), (5, .inl v5), (7, .inl v7), (8, .inl v8)]) (st' := [.inl v7, .inr (.inr t212)]) (pc' := 217) rfl ?_
      refine Wx.iald ok kX7_same 121 rfl h (fun t217 h => ?_)
      refine Wx.run ok kX7_same 122 1 (lv' := [(0, .inr (.inr (some v0))), (1, .inl v1), (2, .inl v2), (3, .inl v3), (4, .inl v4), (5, .inl v5), (7, .inl v7), (8, .inl v8)]) (st' := [.inr (.inr (some v0)), .inl t217]) (pc' := 219) rfl ?_
      refine Wx.getR ok kX7_same 123 rfl lk_RX7_7_0 h (fun t219 h => ?_)
      refine Wx.run ok kX7_same 124 1 (lv' := [(0, .inr (.inr (some v0))), (1, .inl v1), (2, .inl v2), (3, .inl v3), (4, .inl v4), (5, .inl v5), (7, .inl v7), (8, .inl v8)]) (st' := [.inl v2, .inr (.inr t219), .inl t217]) (pc' := 223) rfl ?_
      refine Wx.iald ok kX7_same 125 rfl h (fun t223 h => ?_)
      refine Wx.icmp_ne ok kX7_same 126 (tgt := 231) rfl (by decide) h (fun hc224 h => ?_) (fun hc224 h => ?_)
      · refine Wx.run ok kX7_same 127 1 (lv' := [(0, .inr (.inr (some v0))), (1, .inl v1), (2, .inl v2), (3, .inl v3), (4, .inl v4), (5, .inl v5), (7, .inl v7), (8, .inl v8)]) (st' := [.inl (1 : Int32)]) (pc' := 228) rfl ?_
        refine Wx.jump ok kX7_same 128 (tgt := 232) rfl (by decide) ?_
        refine Wx.sub [0, 1, 2, 3, 4, 5, 6] rfl ?_
        exact aX7_same_b232 ok hres (F := F) r k261 hr hk261 _ _ _ _ _ _ _ _ _ h
      · refine Wx.run ok kX7_same 129 1 (lv' := [(0, .inr (.inr (some v0))), (1, .inl v1), (2, .inl v2), (3, .inl v3), (4, .inl v4), (5, .inl v5), (7, .inl v7), (8, .inl v8)]) (st' := [.inl (0 : Int32)]) (pc' := 232) rfl ?_
        refine Wx.sub [0, 1, 2, 3, 4, 5, 6] rfl ?_
        exact aX7_same_b232 ok hres (F := F) r k261 hr hk261 _ _ _ _ _ _ _ _ _ h
set_option maxRecDepth 100000 in
set_option maxHeartbeats 4000000 in
theorem aX7_same_l177 {X : gX} (ok : gOk X cX7_same RX7 9 (some .int) rmX7_same) {res : Int32 × gW} (hres : gRs X (some (.int res.1)) res.2) {F : Nat} (k261 : Nat → Int32 → Int32 → Int32 → Int32 → Int32 → Int32 → gW → Option (Int32 × gW)) (hk261 : ∀ (v0 : Nat) (v1 : Int32) (v2 : Int32) (v3 : Int32) (v4 : Int32) (v5 : Int32) (v8 : Int32) (w : gW), k261 v0 v1 v2 v3 v4 v5 v8 w = some res → Wx X w 0 0 261 [(0, .inr (.inr (some v0))), (1, .inl v1), (2, .inl v2), (3, .inl v3), (4, .inl v4), (5, .inl v5), (8, .inl v8)] []) : ∀ (n : Nat) (v0 : Nat) (v1 : Int32) (v2 : Int32) (v3 : Int32) (v4 : Int32) (v5 : Int32) (v7 : Int32) (v8 : Int32) (w : gW), mX7_same_l177 F k261 n v0 v1 v2 v3 v4 v5 v7 v8 w = some res → Wx X w 0 0 177 [(0, .inr (.inr (some v0))), (1, .inl v1), (2, .inl v2), (3, .inl v3), (4, .inl v4), (5, .inl v5), (7, .inl v7), (8, .inl v8)] [] := by
  intro n
  induction n with
  | zero => intro v0 v1 v2 v3 v4 v5 v7 v8 w h; cases (show (none : Option (Int32 × gW)) = some res from h)
  | succ n ih =>
    intro v0 v1 v2 v3 v4 v5 v7 v8 w h
    exact aX7_same_h177 ok hres (F := F) (mX7_same_l177 F k261 n) k261 ih hk261 v0 v1 v2 v3 v4 v5 v7 v8 w h
set_option maxRecDepth 100000 in
set_option maxHeartbeats 4000000 in
theorem aX7_same_b271 {X : gX} (ok : gOk X cX7_same RX7 9 (some .int) rmX7_same) {res : Int32 × gW} (hres : gRs X (some (.int res.1)) res.2) {F : Nat} (r : Nat → Int32 → Int32 → Int32 → Int32 → Int32 → Int32 → gW → Option (Int32 × gW)) (hr : ∀ (v0 : Nat) (v1 : Int32) (v2 : Int32) (v3 : Int32) (v4 : Int32) (v5 : Int32) (v6 : Int32) (w : gW), r v0 v1 v2 v3 v4 v5 v6 w = some res → Wx X w 0 0 138 [(0, .inr (.inr (some v0))), (1, .inl v1), (2, .inl v2), (3, .inl v3), (4, .inl v4), (5, .inl v5), (6, .inl v6)] []) : ∀ (v0 : Nat) (v1 : Int32) (v2 : Int32) (v3 : Int32) (v4 : Int32) (v5 : Int32) (s0 : Int32) (w : gW), mX7_same_b271 F r v0 v1 v2 v3 v4 v5 s0 w = some res → Wx X w 0 0 271 [(0, .inr (.inr (some v0))), (1, .inl v1), (2, .inl v2), (3, .inl v3), (4, .inl v4), (5, .inl v5)] [.inl s0] := by
  intro v0 v1 v2 v3 v4 v5 s0 w h
  unfold mX7_same_b271 at h
  refine Wx.run ok kX7_same 150 1 (lv' := [(6, .inl s0), (0, .inr (.inr (some v0))), (1, .inl v1), (2, .inl v2), (3, .inl v3), (4, .inl v4), (5, .inl v5)]) (st' := []) (pc' := 273) rfl ?_
  refine Wx.jump ok kX7_same 151 (tgt := 138) rfl (by decide) ?_
  refine Wx.sub [1, 2, 3, 4, 5, 6, 0] rfl ?_
  exact hr _ _ _ _ _ _ _ _ h
set_option maxRecDepth 100000 in
set_option maxHeartbeats 4000000 in
theorem aX7_same_b261 {X : gX} (ok : gOk X cX7_same RX7 9 (some .int) rmX7_same) {res : Int32 × gW} (hres : gRs X (some (.int res.1)) res.2) {F : Nat} (r : Nat → Int32 → Int32 → Int32 → Int32 → Int32 → Int32 → gW → Option (Int32 × gW)) (hr : ∀ (v0 : Nat) (v1 : Int32) (v2 : Int32) (v3 : Int32) (v4 : Int32) (v5 : Int32) (v6 : Int32) (w : gW), r v0 v1 v2 v3 v4 v5 v6 w = some res → Wx X w 0 0 138 [(0, .inr (.inr (some v0))), (1, .inl v1), (2, .inl v2), (3, .inl v3), (4, .inl v4), (5, .inl v5), (6, .inl v6)] []) : ∀ (v0 : Nat) (v1 : Int32) (v2 : Int32) (v3 : Int32) (v4 : Int32) (v5 : Int32) (v8 : Int32) (w : gW), mX7_same_b261 F r v0 v1 v2 v3 v4 v5 v8 w = some res → Wx X w 0 0 261 [(0, .inr (.inr (some v0))), (1, .inl v1), (2, .inl v2), (3, .inl v3), (4, .inl v4), (5, .inl v5), (8, .inl v8)] [] := by
  intro v0 v1 v2 v3 v4 v5 v8 w h
  unfold mX7_same_b261 at h
  refine Wx.run ok kX7_same 145 1 (lv' := [(0, .inr (.inr (some v0))), (1, .inl v1), (2, .inl v2), (3, .inl v3), (4, .inl v4), (5, .inl v5), (8, .inl v8)]) (st' := [.inl v8]) (pc' := 263) rfl ?_
  refine Wx.if_ne ok kX7_same 146 (tgt := 270) rfl (by decide) h (fun hc263 h => ?_) (fun hc263 h => ?_)
  · refine Wx.run ok kX7_same 147 1 (lv' := [(0, .inr (.inr (some v0))), (1, .inl v1), (2, .inl v2), (3, .inl v3), (4, .inl v4), (5, .inl v5), (8, .inl v8)]) (st' := [.inl (1 : Int32)]) (pc' := 267) rfl ?_
    refine Wx.jump ok kX7_same 148 (tgt := 271) rfl (by decide) ?_
    refine Wx.sub [0, 1, 2, 3, 4, 5] rfl ?_
    exact aX7_same_b271 ok hres (F := F) r hr _ _ _ _ _ _ _ _ h
  · refine Wx.run ok kX7_same 149 1 (lv' := [(0, .inr (.inr (some v0))), (1, .inl v1), (2, .inl v2), (3, .inl v3), (4, .inl v4), (5, .inl v5), (8, .inl v8)]) (st' := [.inl (0 : Int32)]) (pc' := 271) rfl ?_
    refine Wx.sub [0, 1, 2, 3, 4, 5] rfl ?_
    exact aX7_same_b271 ok hres (F := F) r hr _ _ _ _ _ _ _ _ h
set_option maxRecDepth 100000 in
set_option maxHeartbeats 4000000 in
theorem aX7_same_h138 {X : gX} (ok : gOk X cX7_same RX7 9 (some .int) rmX7_same) {res : Int32 × gW} (hres : gRs X (some (.int res.1)) res.2) {F : Nat} (r : Nat → Int32 → Int32 → Int32 → Int32 → Int32 → Int32 → gW → Option (Int32 × gW)) (hr : ∀ (v0 : Nat) (v1 : Int32) (v2 : Int32) (v3 : Int32) (v4 : Int32) (v5 : Int32) (v6 : Int32) (w : gW), r v0 v1 v2 v3 v4 v5 v6 w = some res → Wx X w 0 0 138 [(0, .inr (.inr (some v0))), (1, .inl v1), (2, .inl v2), (3, .inl v3), (4, .inl v4), (5, .inl v5), (6, .inl v6)] []) : ∀ (v0 : Nat) (v1 : Int32) (v2 : Int32) (v3 : Int32) (v4 : Int32) (v5 : Int32) (v6 : Int32) (w : gW), mX7_same_h138 F r v0 v1 v2 v3 v4 v5 v6 w = some res → Wx X w 0 0 138 [(0, .inr (.inr (some v0))), (1, .inl v1), (2, .inl v2), (3, .inl v3), (4, .inl v4), (5, .inl v5), (6, .inl v6)] [] := by
  intro v0 v1 v2 v3 v4 v5 v6 w h
  unfold mX7_same_h138 at h
  refine Wx.run ok kX7_same 77 1 (lv' := [(0, .inr (.inr (some v0))), (1, .inl v1), (2, .inl v2), (3, .inl v3), (4, .inl v4), (5, .inl v5), (6, .inl v6)]) (st' := [.inl v6]) (pc' := 140) rfl ?_
  refine Wx.if_eq ok kX7_same 78 (tgt := 276) rfl (by decide) h (fun hc140 h => ?_) (fun hc140 h => ?_)
  · refine Wx.run ok kX7_same 152 1 (lv' := [(0, .inr (.inr (some v0))), (1, .inl v1), (2, .inl v2), (3, .inl v3), (4, .inl v4), (5, .inl v5), (6, .inl v6)]) (st' := [.inl (0 : Int32)]) (pc' := 277) rfl ?_
    exact Wx.ireturn ok kX7_same 153 rfl hres h (by decide)
  · refine Wx.run ok kX7_same 79 2 (lv' := [(0, .inr (.inr (some v0))), (1, .inl v1), (2, .inl v2), (3, .inl v3), (4, .inl v4), (5, .inl v5), (6, .inl v6)]) (st' := [.inl v3, .inl v5]) (pc' := 146) rfl ?_
    refine Wx.icmp_ne ok kX7_same 81 (tgt := 152) rfl (by decide) h (fun hc146 h => ?_) (fun hc146 h => ?_)
    · refine Wx.run ok kX7_same 82 1 (lv' := [(0, .inr (.inr (some v0))), (1, .inl v1), (2, .inl v2), (3, .inl v3), (4, .inl v4), (5, .inl v5), (6, .inl v6)]) (st' := [.inl (-5 : Int32)]) (pc' := 151) rfl ?_
      exact Wx.ireturn ok kX7_same 83 rfl hres h (by decide)
    · refine Wx.run ok kX7_same 84 5 (lv' := [(5, .inl (v5 + (1 : Int32))), (0, .inr (.inr (some v0))), (1, .inl v1), (2, .inl v2), (3, .inl v3), (4, .inl v4), (6, .inl v6)]) (st' := [.inl v4, .inl v2, .inl v1, .inr (.inr (some v0))]) (pc' := 160) rfl ?_
      obtain ⟨a160, ha160, h⟩ := gob h
      obtain ⟨q160, hq160, h⟩ := gob h
      refine Wx.callV ok kX7_same 89 rfl lm_RX7_184 cd_X7_goes ha160 [.inl v1, .inl v2, .inl v4] (some (.inl q160.1)) (aX7_goes _ _ hq160) (by decide) rfl (Nat.le_of_ble_eq_true rfl) rfl rfl ?_
      refine Wx.if_eq ok kX7_same 90 (tgt := 168) rfl (by decide) h (fun hc163 h => ?_) (fun hc163 h => ?_)
      · refine Wx.run ok kX7_same 93 6 (lv' := [(8, .inl (1 : Int32)), (7, .inl (v4 - (1 : Int32))), (5, .inl (v5 + (1 : Int32))), (0, .inr (.inr (some v0))), (1, .inl v1), (2, .inl v2), (3, .inl v3), (4, .inl v4), (6, .inl v6)]) (st' := []) (pc' := 177) rfl ?_
        refine Wx.sub [3, 4, 5, 6, 7, 2, 1, 0] rfl ?_
        refine aX7_same_l177 ok hres (F := F) _ ?_ F _ _ _ _ _ _ _ _ _ h
        · intro v0 v1 v2 v3 v4 v5 v8 w h
          exact aX7_same_b261 ok hres (F := F) r hr _ _ _ _ _ _ _ _ h
      · refine Wx.run ok kX7_same 91 1 (lv' := [(5, .inl (v5 + (1 : Int32))), (0, .inr (.inr (some v0))), (1, .inl v1), (2, .inl v2), (3, .inl v3), (4, .inl v4), (6, .inl v6)]) (st' := [.inl (1 : Int32)]) (pc' := 167) rfl ?_
        exact Wx.ireturn ok kX7_same 92 rfl hres h (by decide)
set_option maxRecDepth 100000 in
set_option maxHeartbeats 4000000 in
theorem aX7_same_l138 {X : gX} (ok : gOk X cX7_same RX7 9 (some .int) rmX7_same) {res : Int32 × gW} (hres : gRs X (some (.int res.1)) res.2) {F : Nat} : ∀ (n : Nat) (v0 : Nat) (v1 : Int32) (v2 : Int32) (v3 : Int32) (v4 : Int32) (v5 : Int32) (v6 : Int32) (w : gW), mX7_same_l138 F n v0 v1 v2 v3 v4 v5 v6 w = some res → Wx X w 0 0 138 [(0, .inr (.inr (some v0))), (1, .inl v1), (2, .inl v2), (3, .inl v3), (4, .inl v4), (5, .inl v5), (6, .inl v6)] [] := by
  intro n
  induction n with
  | zero => intro v0 v1 v2 v3 v4 v5 v6 w h; cases (show (none : Option (Int32 × gW)) = some res from h)
  | succ n ih =>
    intro v0 v1 v2 v3 v4 v5 v6 w h
    exact aX7_same_h138 ok hres (F := F) (mX7_same_l138 F n) ih v0 v1 v2 v3 v4 v5 v6 w h
set_option maxRecDepth 100000 in
set_option maxHeartbeats 4000000 in
theorem aX7_same (l : Launch) (G : gG) {F : Nat} {v0 : Nat} {v1 : Int32} {v2 : Int32} {v3 : Int32} {w : gW} {res : Int32 × gW} (h : mX7_same F v0 v1 v2 v3 w = some res) : gM l yX7_same cX7_same 9 (some .int) rmX7_same G w (gTs [.inr (.inr (some v0)), .inl v1, .inl v2, .inl v3]) (some (.int res.1)) res.2 := by
  refine gM_of (y := yX7_same) (by decide +kernel) (Nat.le_of_ble_eq_true rfl) ?_
  intro X ok hl hG hres hnm
  subst hl; subst hG
  unfold mX7_same at h
  show Wx X w 0 0 0 [(0, .inr (.inr (some v0))), (1, .inl v1), (2, .inl v2), (3, .inl v3)] []
  refine Wx.run ok kX7_same 0 2 (lv' := [(0, .inr (.inr (some v0))), (1, .inl v1), (2, .inl v2), (3, .inl v3)]) (st' := [.inl v1, .inr (.inr (some v0))]) (pc' := 2) rfl ?_
  obtain ⟨a2, ha2, h⟩ := gob h
  obtain ⟨q2, hq2, h⟩ := gob h
  refine Wx.callV ok kX7_same 2 rfl lm_RX7_114 cd_X7_isGroup ha2 [.inl v1] (some (.inl q2.1)) (aX7_isGroup _ _ hq2) (by decide) rfl (Nat.le_of_ble_eq_true rfl) rfl rfl ?_
  refine Wx.if_eq ok kX7_same 3 (tgt := 28) rfl (by decide) h (fun hc5 h => ?_) (fun hc5 h => ?_)
  · refine Wx.run ok kX7_same 14 1 (lv' := [(0, .inr (.inr (some v0))), (1, .inl v1), (2, .inl v2), (3, .inl v3)]) (st' := [.inl (-1 : Int32)]) (pc' := 29) rfl ?_
    exact Wx.ireturn ok kX7_same 15 rfl hres h (by decide)
  · refine Wx.run ok kX7_same 4 2 (lv' := [(0, .inr (.inr (some v0))), (1, .inl v1), (2, .inl v2), (3, .inl v3)]) (st' := [.inl v2, .inr (.inr (some v0))]) (pc' := 10) rfl ?_
    obtain ⟨a10, ha10, h⟩ := gob h
    obtain ⟨q10, hq10, h⟩ := gob h
    refine Wx.callV ok kX7_same 6 rfl lm_RX7_114 cd_X7_isGroup ha10 [.inl v2] (some (.inl q10.1)) (aX7_isGroup _ _ hq10) (by decide) rfl (Nat.le_of_ble_eq_true rfl) rfl rfl ?_
    refine Wx.if_eq ok kX7_same 7 (tgt := 28) rfl (by decide) h (fun hc13 h => ?_) (fun hc13 h => ?_)
    · refine Wx.run ok kX7_same 14 1 (lv' := [(0, .inr (.inr (some v0))), (1, .inl v1), (2, .inl v2), (3, .inl v3)]) (st' := [.inl (-1 : Int32)]) (pc' := 29) rfl ?_
      exact Wx.ireturn ok kX7_same 15 rfl hres h (by decide)
    · refine Wx.run ok kX7_same 8 3 (lv' := [(0, .inr (.inr (some v0))), (1, .inl v1), (2, .inl v2), (3, .inl v3)]) (st' := [.inr (.inl (0 : Int64)), .inr (.inl ((v3).toInt64))]) (pc' := 19) rfl ?_
      refine Wx.ldc2 ok kX7_same 11 rfl gw_938 ?_
      obtain ⟨q22, hq22, h⟩ := gob h
      refine Wx.callS ok kX7_same 12 rfl lm_RX7_100 cd_X7_in [.inr (.inl ((v3).toInt64)), .inr (.inl (0 : Int64)), .inr (.inl (20000 : Int64))] (some (.inl q22.1)) (aX7_in _ _ hq22) (by decide) rfl (Nat.le_of_ble_eq_true rfl) rfl rfl ?_
      refine Wx.if_ne ok kX7_same 13 (tgt := 30) rfl (by decide) h (fun hc25 h => ?_) (fun hc25 h => ?_)
      · refine Wx.run ok kX7_same 14 1 (lv' := [(0, .inr (.inr (some v0))), (1, .inl v1), (2, .inl v2), (3, .inl v3)]) (st' := [.inl (-1 : Int32)]) (pc' := 29) rfl ?_
        exact Wx.ireturn ok kX7_same 15 rfl hres h (by decide)
      · refine Wx.run ok kX7_same 16 1 (lv' := [(0, .inr (.inr (some v0))), (1, .inl v1), (2, .inl v2), (3, .inl v3)]) (st' := [.inr (.inr (some v0))]) (pc' := 31) rfl ?_
        refine Wx.getR ok kX7_same 17 rfl lk_RX7_7_0 h (fun t31 h => ?_)
        refine Wx.run ok kX7_same 18 1 (lv' := [(0, .inr (.inr (some v0))), (1, .inl v1), (2, .inl v2), (3, .inl v3)]) (st' := [.inl v1, .inr (.inr t31)]) (pc' := 35) rfl ?_
        refine Wx.iald ok kX7_same 19 rfl h (fun t35 h => ?_)
        refine Wx.run ok kX7_same 20 1 (lv' := [(0, .inr (.inr (some v0))), (1, .inl v1), (2, .inl v2), (3, .inl v3)]) (st' := [.inr (.inr (some v0)), .inl t35]) (pc' := 37) rfl ?_
        refine Wx.getR ok kX7_same 21 rfl lk_RX7_7_0 h (fun t37 h => ?_)
        refine Wx.run ok kX7_same 22 1 (lv' := [(0, .inr (.inr (some v0))), (1, .inl v1), (2, .inl v2), (3, .inl v3)]) (st' := [.inl v2, .inr (.inr t37), .inl t35]) (pc' := 41) rfl ?_
        refine Wx.iald ok kX7_same 23 rfl h (fun t41 h => ?_)
        refine Wx.icmp_eq ok kX7_same 24 (tgt := 47) rfl (by decide) h (fun hc42 h => ?_) (fun hc42 h => ?_)
        · refine Wx.run ok kX7_same 27 2 (lv' := [(4, .inl (1 : Int32)), (0, .inr (.inr (some v0))), (1, .inl v1), (2, .inl v2), (3, .inl v3)]) (st' := []) (pc' := 50) rfl ?_
          refine Wx.sub [1, 2, 3, 4, 0] rfl ?_
          refine aX7_same_l50 ok hres (F := F) _ ?_ F _ _ _ _ _ _ h
          · intro v0 v1 v2 v3 w h
            refine Wx.run ok kX7_same 48 2 (lv' := [(0, .inr (.inr (some v0))), (1, .inl v1), (2, .inl v2), (3, .inl v3)]) (st' := [.inl v1, .inr (.inr (some v0))]) (pc' := 88) rfl ?_
            obtain ⟨a88, ha88, h⟩ := gob h
            obtain ⟨q88, hq88, h⟩ := gob h
            refine Wx.callV ok kX7_same 50 rfl lm_RX7_169 cd_X7_leastMakers ha88 [.inl v1] (some (.inl q88.1)) (aX7_leastMakers _ _ hq88) (by decide) rfl (Nat.le_of_ble_eq_true rfl) rfl rfl ?_
            refine Wx.run ok kX7_same 51 4 (lv' := [(4, .inl q88.1), (0, .inr (.inr (some v0))), (1, .inl v1), (2, .inl v2), (3, .inl v3)]) (st' := [.inl q88.1, .inl v1, .inr (.inr (some v0))]) (pc' := 97) rfl ?_
            obtain ⟨a97, ha97, h⟩ := gob h
            obtain ⟨q97, hq97, h⟩ := gob h
            refine Wx.callV ok kX7_same 55 rfl lm_RX7_177 cd_X7_leastRow ha97 [.inl v1, .inl q88.1] none (aX7_leastRow _ _ hq97) (by decide) rfl (Nat.le_of_ble_eq_true rfl) rfl rfl ?_
            refine Wx.run ok kX7_same 56 2 (lv' := [(5, .inl (0 : Int32)), (4, .inl q88.1), (0, .inr (.inr (some v0))), (1, .inl v1), (2, .inl v2), (3, .inl v3)]) (st' := []) (pc' := 103) rfl ?_
            refine Wx.sub [2, 3, 4, 5, 1, 0] rfl ?_
            refine aX7_same_l103 ok hres (F := F) _ ?_ F _ _ _ _ _ _ _ h
            · intro v0 v1 v2 v3 v4 w h
              refine Wx.run ok kX7_same 73 4 (lv' := [(6, .inl (1 : Int32)), (5, .inl (0 : Int32)), (0, .inr (.inr (some v0))), (1, .inl v1), (2, .inl v2), (3, .inl v3), (4, .inl v4)]) (st' := []) (pc' := 138) rfl ?_
              refine Wx.sub [2, 3, 4, 5, 6, 1, 0] rfl ?_
              refine aX7_same_l138 ok hres (F := F) F _ _ _ _ _ _ _ _ h
        · refine Wx.run ok kX7_same 25 1 (lv' := [(0, .inr (.inr (some v0))), (1, .inl v1), (2, .inl v2), (3, .inl v3)]) (st' := [.inl (0 : Int32)]) (pc' := 46) rfl ?_
          exact Wx.ireturn ok kX7_same 26 rfl hres h (by decide)
set_option maxRecDepth 100000 in
set_option maxHeartbeats 4000000 in
theorem aX2_fillOver_h90 {X : gX} (ok : gOk X cX2_fillOver RX2 11 none rmX2_fillOver) {res : gW} (hres : gRs X none res) {F : Nat} (r : Nat → (Option Nat) → Int32 → (Option Nat) → Int32 → Int32 → Int32 → Int32 → Int32 → Int32 → Int32 → gW → Option (gW)) (k143 : Nat → (Option Nat) → Int32 → (Option Nat) → Int32 → Int32 → Int32 → Int32 → Int32 → gW → Option (gW)) (hr : ∀ (v0 : Nat) (v1 : Option Nat) (v2 : Int32) (v3 : Option Nat) (v4 : Int32) (v5 : Int32) (v6 : Int32) (v7 : Int32) (v8 : Int32) (v9 : Int32) (v10 : Int32) (w : gW), r v0 v1 v2 v3 v4 v5 v6 v7 v8 v9 v10 w = some res → Wx X w 0 0 90 [(0, .inr (.inr (some v0))), (1, .inr (.inr v1)), (2, .inl v2), (3, .inr (.inr v3)), (4, .inl v4), (5, .inl v5), (6, .inl v6), (7, .inl v7), (8, .inl v8), (9, .inl v9), (10, .inl v10)] []) (hk143 : ∀ (v0 : Nat) (v1 : Option Nat) (v2 : Int32) (v3 : Option Nat) (v4 : Int32) (v5 : Int32) (v6 : Int32) (v7 : Int32) (v8 : Int32) (w : gW), k143 v0 v1 v2 v3 v4 v5 v6 v7 v8 w = some res → Wx X w 0 0 143 [(0, .inr (.inr (some v0))), (1, .inr (.inr v1)), (2, .inl v2), (3, .inr (.inr v3)), (4, .inl v4), (5, .inl v5), (6, .inl v6), (7, .inl v7), (8, .inl v8)] []) : ∀ (v0 : Nat) (v1 : Option Nat) (v2 : Int32) (v3 : Option Nat) (v4 : Int32) (v5 : Int32) (v6 : Int32) (v7 : Int32) (v8 : Int32) (v9 : Int32) (v10 : Int32) (w : gW), mX2_fillOver_h90 F r k143 v0 v1 v2 v3 v4 v5 v6 v7 v8 v9 v10 w = some res → Wx X w 0 0 90 [(0, .inr (.inr (some v0))), (1, .inr (.inr v1)), (2, .inl v2), (3, .inr (.inr v3)), (4, .inl v4), (5, .inl v5), (6, .inl v6), (7, .inl v7), (8, .inl v8), (9, .inl v9), (10, .inl v10)] [] := by
  intro v0 v1 v2 v3 v4 v5 v6 v7 v8 v9 v10 w h
  unfold mX2_fillOver_h90 at h
  refine Wx.run ok kX2_fillOver 47 2 (lv' := [(0, .inr (.inr (some v0))), (1, .inr (.inr v1)), (2, .inl v2), (3, .inr (.inr v3)), (4, .inl v4), (5, .inl v5), (6, .inl v6), (7, .inl v7), (8, .inl v8), (9, .inl v9), (10, .inl v10)]) (st' := [.inl v4, .inl v10]) (pc' := 94) rfl ?_
  refine Wx.icmp_ge ok kX2_fillOver 49 (tgt := 143) rfl (by decide) h (fun hc94 h => ?_) (fun hc94 h => ?_)
  · refine Wx.sub [0, 1, 2, 3, 4, 5, 6, 7, 8] rfl ?_
    exact hk143 _ _ _ _ _ _ _ _ _ _ h
  · refine Wx.run ok kX2_fillOver 50 15 (lv' := [(0, .inr (.inr (some v0))), (1, .inr (.inr v1)), (2, .inl v2), (3, .inr (.inr v3)), (4, .inl v4), (5, .inl v5), (6, .inl v6), (7, .inl v7), (8, .inl v8), (9, .inl v9), (10, .inl v10)]) (st' := [.inl v6, .inl v5, .inr (.inr v3), .inl v4, .inl ((v4 * v6) + v8), .inl ((v4 * v5) + v10), .inr (.inr (some v0))]) (pc' := 121) rfl ?_
    obtain ⟨a121, ha121, h⟩ := gob h
    obtain ⟨q121, hq121, h⟩ := gob h
    refine Wx.callV ok kX2_fillOver 65 rfl lm_RX2_45 cd_X2_mul ha121 [.inl v5, .inl v6] (some (.inl q121.1)) (aX2_mul _ _ hq121) (by decide) rfl (Nat.le_of_ble_eq_true rfl) rfl rfl ?_
    refine Wx.run ok kX2_fillOver 66 4 (lv' := [(0, .inr (.inr (some v0))), (1, .inr (.inr v1)), (2, .inl v2), (3, .inr (.inr v3)), (4, .inl v4), (5, .inl v5), (6, .inl v6), (7, .inl v7), (8, .inl v8), (9, .inl v9), (10, .inl v10)]) (st' := [.inl v9, .inl v10, .inr (.inr v1), .inl (v4 * q121.1), .inl ((v4 * v6) + v8), .inl ((v4 * v5) + v10), .inr (.inr (some v0))]) (pc' := 130) rfl ?_
    obtain ⟨a130, ha130, h⟩ := gob h
    obtain ⟨q130, hq130, h⟩ := gob h
    refine Wx.callV ok kX2_fillOver 70 rfl lm_RX2_70 cd_X0_plus ha130 [.inl v10, .inl v9] (some (.inl q130.1)) (aX0_plus _ _ hq130) (by decide) rfl (Nat.le_of_ble_eq_true rfl) rfl rfl ?_
    refine Wx.run ok kX2_fillOver 71 1 (lv' := [(0, .inr (.inr (some v0))), (1, .inr (.inr v1)), (2, .inl v2), (3, .inr (.inr v3)), (4, .inl v4), (5, .inl v5), (6, .inl v6), (7, .inl v7), (8, .inl v8), (9, .inl v9), (10, .inl v10)]) (st' := [.inl ((v4 * q121.1) + q130.1), .inl ((v4 * v6) + v8), .inl ((v4 * v5) + v10), .inr (.inr (some v0))]) (pc' := 134) rfl ?_
    obtain ⟨a134, ha134, h⟩ := gob h
    obtain ⟨q134, hq134, h⟩ := gob h
    refine Wx.callV ok kX2_fillOver 72 rfl lm_RX2_38 cd_X2_set ha134 [.inl ((v4 * v5) + v10), .inl ((v4 * v6) + v8), .inl ((v4 * q121.1) + q130.1)] none (aX2_set _ _ hq134) (by decide) rfl (Nat.le_of_ble_eq_true rfl) rfl rfl ?_
    refine Wx.run ok kX2_fillOver 73 1 (lv' := [(10, .inl (v10 + (1 : Int32))), (0, .inr (.inr (some v0))), (1, .inr (.inr v1)), (2, .inl v2), (3, .inr (.inr v3)), (4, .inl v4), (5, .inl v5), (6, .inl v6), (7, .inl v7), (8, .inl v8), (9, .inl v9)]) (st' := []) (pc' := 140) rfl ?_
    refine Wx.jump ok kX2_fillOver 74 (tgt := 90) rfl (by decide) ?_
    refine Wx.sub [1, 2, 3, 4, 5, 6, 7, 8, 9, 10, 0] rfl ?_
    exact hr _ _ _ _ _ _ _ _ _ _ _ _ h
set_option maxRecDepth 100000 in
set_option maxHeartbeats 4000000 in
theorem aX2_fillOver_l90 {X : gX} (ok : gOk X cX2_fillOver RX2 11 none rmX2_fillOver) {res : gW} (hres : gRs X none res) {F : Nat} (k143 : Nat → (Option Nat) → Int32 → (Option Nat) → Int32 → Int32 → Int32 → Int32 → Int32 → gW → Option (gW)) (hk143 : ∀ (v0 : Nat) (v1 : Option Nat) (v2 : Int32) (v3 : Option Nat) (v4 : Int32) (v5 : Int32) (v6 : Int32) (v7 : Int32) (v8 : Int32) (w : gW), k143 v0 v1 v2 v3 v4 v5 v6 v7 v8 w = some res → Wx X w 0 0 143 [(0, .inr (.inr (some v0))), (1, .inr (.inr v1)), (2, .inl v2), (3, .inr (.inr v3)), (4, .inl v4), (5, .inl v5), (6, .inl v6), (7, .inl v7), (8, .inl v8)] []) : ∀ (n : Nat) (v0 : Nat) (v1 : Option Nat) (v2 : Int32) (v3 : Option Nat) (v4 : Int32) (v5 : Int32) (v6 : Int32) (v7 : Int32) (v8 : Int32) (v9 : Int32) (v10 : Int32) (w : gW), mX2_fillOver_l90 F k143 n v0 v1 v2 v3 v4 v5 v6 v7 v8 v9 v10 w = some res → Wx X w 0 0 90 [(0, .inr (.inr (some v0))), (1, .inr (.inr v1)), (2, .inl v2), (3, .inr (.inr v3)), (4, .inl v4), (5, .inl v5), (6, .inl v6), (7, .inl v7), (8, .inl v8), (9, .inl v9), (10, .inl v10)] [] := by
  intro n
  induction n with
  | zero => intro v0 v1 v2 v3 v4 v5 v6 v7 v8 v9 v10 w h; cases (show (none : Option (gW)) = some res from h)
  | succ n ih =>
    intro v0 v1 v2 v3 v4 v5 v6 v7 v8 v9 v10 w h
    exact aX2_fillOver_h90 ok hres (F := F) (mX2_fillOver_l90 F k143 n) k143 ih hk143 v0 v1 v2 v3 v4 v5 v6 v7 v8 v9 v10 w h
set_option maxRecDepth 100000 in
set_option maxHeartbeats 4000000 in
theorem aX2_fillOver_h64 {X : gX} (ok : gOk X cX2_fillOver RX2 11 none rmX2_fillOver) {res : gW} (hres : gRs X none res) {F : Nat} (r : Nat → (Option Nat) → Int32 → (Option Nat) → Int32 → Int32 → Int32 → Int32 → Int32 → gW → Option (gW)) (k149 : Nat → (Option Nat) → Int32 → (Option Nat) → Int32 → Int32 → Int32 → gW → Option (gW)) (hr : ∀ (v0 : Nat) (v1 : Option Nat) (v2 : Int32) (v3 : Option Nat) (v4 : Int32) (v5 : Int32) (v6 : Int32) (v7 : Int32) (v8 : Int32) (w : gW), r v0 v1 v2 v3 v4 v5 v6 v7 v8 w = some res → Wx X w 0 0 64 [(0, .inr (.inr (some v0))), (1, .inr (.inr v1)), (2, .inl v2), (3, .inr (.inr v3)), (4, .inl v4), (5, .inl v5), (6, .inl v6), (7, .inl v7), (8, .inl v8)] []) (hk149 : ∀ (v0 : Nat) (v1 : Option Nat) (v2 : Int32) (v3 : Option Nat) (v4 : Int32) (v5 : Int32) (v6 : Int32) (w : gW), k149 v0 v1 v2 v3 v4 v5 v6 w = some res → Wx X w 0 0 149 [(0, .inr (.inr (some v0))), (1, .inr (.inr v1)), (2, .inl v2), (3, .inr (.inr v3)), (4, .inl v4), (5, .inl v5), (6, .inl v6)] []) : ∀ (v0 : Nat) (v1 : Option Nat) (v2 : Int32) (v3 : Option Nat) (v4 : Int32) (v5 : Int32) (v6 : Int32) (v7 : Int32) (v8 : Int32) (w : gW), mX2_fillOver_h64 F r k149 v0 v1 v2 v3 v4 v5 v6 v7 v8 w = some res → Wx X w 0 0 64 [(0, .inr (.inr (some v0))), (1, .inr (.inr v1)), (2, .inl v2), (3, .inr (.inr v3)), (4, .inl v4), (5, .inl v5), (6, .inl v6), (7, .inl v7), (8, .inl v8)] [] := by
  intro v0 v1 v2 v3 v4 v5 v6 v7 v8 w h
  unfold mX2_fillOver_h64 at h
  refine Wx.run ok kX2_fillOver 34 2 (lv' := [(0, .inr (.inr (some v0))), (1, .inr (.inr v1)), (2, .inl v2), (3, .inr (.inr v3)), (4, .inl v4), (5, .inl v5), (6, .inl v6), (7, .inl v7), (8, .inl v8)]) (st' := [.inl v4, .inl v8]) (pc' := 68) rfl ?_
  refine Wx.icmp_ge ok kX2_fillOver 36 (tgt := 149) rfl (by decide) h (fun hc68 h => ?_) (fun hc68 h => ?_)
  · refine Wx.sub [0, 1, 2, 3, 4, 5, 6] rfl ?_
    exact hk149 _ _ _ _ _ _ _ _ h
  · refine Wx.run ok kX2_fillOver 37 4 (lv' := [(0, .inr (.inr (some v0))), (1, .inr (.inr v1)), (2, .inl v2), (3, .inr (.inr v3)), (4, .inl v4), (5, .inl v5), (6, .inl v6), (7, .inl v7), (8, .inl v8)]) (st' := [.inl v8, .inl v5, .inr (.inr v1), .inr (.inr v1)]) (pc' := 77) rfl ?_
    obtain ⟨a77, ha77, h⟩ := gob h
    obtain ⟨q77, hq77, h⟩ := gob h
    refine Wx.callV ok kX2_fillOver 41 rfl lm_RX2_67 cd_X0_move ha77 [.inl v5, .inl v8] (some (.inl q77.1)) (aX0_move _ _ hq77) (by decide) rfl (Nat.le_of_ble_eq_true rfl) rfl rfl ?_
    refine Wx.run ok kX2_fillOver 42 1 (lv' := [(0, .inr (.inr (some v0))), (1, .inr (.inr v1)), (2, .inl v2), (3, .inr (.inr v3)), (4, .inl v4), (5, .inl v5), (6, .inl v6), (7, .inl v7), (8, .inl v8)]) (st' := [.inl v7, .inl q77.1, .inr (.inr v1)]) (pc' := 82) rfl ?_
    obtain ⟨a82, ha82, h⟩ := gob h
    obtain ⟨q82, hq82, h⟩ := gob h
    refine Wx.callV ok kX2_fillOver 43 rfl lm_RX2_70 cd_X0_plus ha82 [.inl q77.1, .inl v7] (some (.inl q82.1)) (aX0_plus _ _ hq82) (by decide) rfl (Nat.le_of_ble_eq_true rfl) rfl rfl ?_
    refine Wx.run ok kX2_fillOver 44 3 (lv' := [(10, .inl (0 : Int32)), (9, .inl q82.1), (0, .inr (.inr (some v0))), (1, .inr (.inr v1)), (2, .inl v2), (3, .inr (.inr v3)), (4, .inl v4), (5, .inl v5), (6, .inl v6), (7, .inl v7), (8, .inl v8)]) (st' := []) (pc' := 90) rfl ?_
    refine Wx.sub [2, 3, 4, 5, 6, 7, 8, 9, 10, 1, 0] rfl ?_
    refine aX2_fillOver_l90 ok hres (F := F) _ ?_ F _ _ _ _ _ _ _ _ _ _ _ _ h
    · intro v0 v1 v2 v3 v4 v5 v6 v7 v8 w h
      refine Wx.run ok kX2_fillOver 75 1 (lv' := [(8, .inl (v8 + (1 : Int32))), (0, .inr (.inr (some v0))), (1, .inr (.inr v1)), (2, .inl v2), (3, .inr (.inr v3)), (4, .inl v4), (5, .inl v5), (6, .inl v6), (7, .inl v7)]) (st' := []) (pc' := 146) rfl ?_
      refine Wx.jump ok kX2_fillOver 76 (tgt := 64) rfl (by decide) ?_
      refine Wx.sub [1, 2, 3, 4, 5, 6, 7, 8, 0] rfl ?_
      exact hr _ _ _ _ _ _ _ _ _ _ h
set_option maxRecDepth 100000 in
set_option maxHeartbeats 4000000 in
theorem aX2_fillOver_l64 {X : gX} (ok : gOk X cX2_fillOver RX2 11 none rmX2_fillOver) {res : gW} (hres : gRs X none res) {F : Nat} (k149 : Nat → (Option Nat) → Int32 → (Option Nat) → Int32 → Int32 → Int32 → gW → Option (gW)) (hk149 : ∀ (v0 : Nat) (v1 : Option Nat) (v2 : Int32) (v3 : Option Nat) (v4 : Int32) (v5 : Int32) (v6 : Int32) (w : gW), k149 v0 v1 v2 v3 v4 v5 v6 w = some res → Wx X w 0 0 149 [(0, .inr (.inr (some v0))), (1, .inr (.inr v1)), (2, .inl v2), (3, .inr (.inr v3)), (4, .inl v4), (5, .inl v5), (6, .inl v6)] []) : ∀ (n : Nat) (v0 : Nat) (v1 : Option Nat) (v2 : Int32) (v3 : Option Nat) (v4 : Int32) (v5 : Int32) (v6 : Int32) (v7 : Int32) (v8 : Int32) (w : gW), mX2_fillOver_l64 F k149 n v0 v1 v2 v3 v4 v5 v6 v7 v8 w = some res → Wx X w 0 0 64 [(0, .inr (.inr (some v0))), (1, .inr (.inr v1)), (2, .inl v2), (3, .inr (.inr v3)), (4, .inl v4), (5, .inl v5), (6, .inl v6), (7, .inl v7), (8, .inl v8)] [] := by
  intro n
  induction n with
  | zero => intro v0 v1 v2 v3 v4 v5 v6 v7 v8 w h; cases (show (none : Option (gW)) = some res from h)
  | succ n ih =>
    intro v0 v1 v2 v3 v4 v5 v6 v7 v8 w h
    exact aX2_fillOver_h64 ok hres (F := F) (mX2_fillOver_l64 F k149 n) k149 ih hk149 v0 v1 v2 v3 v4 v5 v6 v7 v8 w h
set_option maxRecDepth 100000 in
set_option maxHeartbeats 4000000 in
theorem aX2_fillOver_h37 {X : gX} (ok : gOk X cX2_fillOver RX2 11 none rmX2_fillOver) {res : gW} (hres : gRs X none res) {F : Nat} (r : Nat → (Option Nat) → Int32 → (Option Nat) → Int32 → Int32 → Int32 → gW → Option (gW)) (k155 : Nat → (Option Nat) → Int32 → (Option Nat) → Int32 → Int32 → gW → Option (gW)) (hr : ∀ (v0 : Nat) (v1 : Option Nat) (v2 : Int32) (v3 : Option Nat) (v4 : Int32) (v5 : Int32) (v6 : Int32) (w : gW), r v0 v1 v2 v3 v4 v5 v6 w = some res → Wx X w 0 0 37 [(0, .inr (.inr (some v0))), (1, .inr (.inr v1)), (2, .inl v2), (3, .inr (.inr v3)), (4, .inl v4), (5, .inl v5), (6, .inl v6)] []) (hk155 : ∀ (v0 : Nat) (v1 : Option Nat) (v2 : Int32) (v3 : Option Nat) (v4 : Int32) (v5 : Int32) (w : gW), k155 v0 v1 v2 v3 v4 v5 w = some res → Wx X w 0 0 155 [(0, .inr (.inr (some v0))), (1, .inr (.inr v1)), (2, .inl v2), (3, .inr (.inr v3)), (4, .inl v4), (5, .inl v5)] []) : ∀ (v0 : Nat) (v1 : Option Nat) (v2 : Int32) (v3 : Option Nat) (v4 : Int32) (v5 : Int32) (v6 : Int32) (w : gW), mX2_fillOver_h37 F r k155 v0 v1 v2 v3 v4 v5 v6 w = some res → Wx X w 0 0 37 [(0, .inr (.inr (some v0))), (1, .inr (.inr v1)), (2, .inl v2), (3, .inr (.inr v3)), (4, .inl v4), (5, .inl v5), (6, .inl v6)] [] := by
  intro v0 v1 v2 v3 v4 v5 v6 w h
  unfold mX2_fillOver_h37 at h
  refine Wx.run ok kX2_fillOver 20 2 (lv' := [(0, .inr (.inr (some v0))), (1, .inr (.inr v1)), (2, .inl v2), (3, .inr (.inr v3)), (4, .inl v4), (5, .inl v5), (6, .inl v6)]) (st' := [.inr (.inr v3), .inl v6]) (pc' := 40) rfl ?_
  refine Wx.getI ok kX2_fillOver 22 rfl lk_RX2_30_0 h (fun t40 h => ?_)
  refine Wx.icmp_ge ok kX2_fillOver 23 (tgt := 155) rfl (by decide) h (fun hc43 h => ?_) (fun hc43 h => ?_)
  · refine Wx.sub [0, 1, 2, 3, 4, 5] rfl ?_
    exact hk155 _ _ _ _ _ _ _ h
  · refine Wx.run ok kX2_fillOver 24 1 (lv' := [(0, .inr (.inr (some v0))), (1, .inr (.inr v1)), (2, .inl v2), (3, .inr (.inr v3)), (4, .inl v4), (5, .inl v5), (6, .inl v6)]) (st' := [.inr (.inr v1)]) (pc' := 47) rfl ?_
    refine Wx.getR ok kX2_fillOver 25 rfl lk_RX2_57_0 h (fun t47 h => ?_)
    refine Wx.run ok kX2_fillOver 26 4 (lv' := [(0, .inr (.inr (some v0))), (1, .inr (.inr v1)), (2, .inl v2), (3, .inr (.inr v3)), (4, .inl v4), (5, .inl v5), (6, .inl v6)]) (st' := [.inl v6, .inl v5, .inl v2, .inr (.inr v1), .inr (.inr t47)]) (pc' := 56) rfl ?_
    obtain ⟨a56, ha56, h⟩ := gob h
    obtain ⟨q56, hq56, h⟩ := gob h
    refine Wx.callV ok kX2_fillOver 30 rfl lm_RX2_61 cd_X5_vectorOf ha56 [.inr (.inr v1), .inl v2, .inl v5, .inl v6] (some (.inl q56.1)) (aX5_vectorOf _ _ hq56) (by decide) rfl (Nat.le_of_ble_eq_true rfl) rfl rfl ?_
    refine Wx.run ok kX2_fillOver 31 3 (lv' := [(8, .inl (0 : Int32)), (7, .inl q56.1), (0, .inr (.inr (some v0))), (1, .inr (.inr v1)), (2, .inl v2), (3, .inr (.inr v3)), (4, .inl v4), (5, .inl v5), (6, .inl v6)]) (st' := []) (pc' := 64) rfl ?_
    refine Wx.sub [2, 3, 4, 5, 6, 7, 8, 1, 0] rfl ?_
    refine aX2_fillOver_l64 ok hres (F := F) _ ?_ F _ _ _ _ _ _ _ _ _ _ h
    · intro v0 v1 v2 v3 v4 v5 v6 w h
      refine Wx.run ok kX2_fillOver 77 1 (lv' := [(6, .inl (v6 + (1 : Int32))), (0, .inr (.inr (some v0))), (1, .inr (.inr v1)), (2, .inl v2), (3, .inr (.inr v3)), (4, .inl v4), (5, .inl v5)]) (st' := []) (pc' := 152) rfl ?_
      refine Wx.jump ok kX2_fillOver 78 (tgt := 37) rfl (by decide) ?_
      refine Wx.sub [1, 2, 3, 4, 5, 6, 0] rfl ?_
      exact hr _ _ _ _ _ _ _ _ h
set_option maxRecDepth 100000 in
set_option maxHeartbeats 4000000 in
theorem aX2_fillOver_l37 {X : gX} (ok : gOk X cX2_fillOver RX2 11 none rmX2_fillOver) {res : gW} (hres : gRs X none res) {F : Nat} (k155 : Nat → (Option Nat) → Int32 → (Option Nat) → Int32 → Int32 → gW → Option (gW)) (hk155 : ∀ (v0 : Nat) (v1 : Option Nat) (v2 : Int32) (v3 : Option Nat) (v4 : Int32) (v5 : Int32) (w : gW), k155 v0 v1 v2 v3 v4 v5 w = some res → Wx X w 0 0 155 [(0, .inr (.inr (some v0))), (1, .inr (.inr v1)), (2, .inl v2), (3, .inr (.inr v3)), (4, .inl v4), (5, .inl v5)] []) : ∀ (n : Nat) (v0 : Nat) (v1 : Option Nat) (v2 : Int32) (v3 : Option Nat) (v4 : Int32) (v5 : Int32) (v6 : Int32) (w : gW), mX2_fillOver_l37 F k155 n v0 v1 v2 v3 v4 v5 v6 w = some res → Wx X w 0 0 37 [(0, .inr (.inr (some v0))), (1, .inr (.inr v1)), (2, .inl v2), (3, .inr (.inr v3)), (4, .inl v4), (5, .inl v5), (6, .inl v6)] [] := by
  intro n
  induction n with
  | zero => intro v0 v1 v2 v3 v4 v5 v6 w h; cases (show (none : Option (gW)) = some res from h)
  | succ n ih =>
    intro v0 v1 v2 v3 v4 v5 v6 w h
    exact aX2_fillOver_h37 ok hres (F := F) (mX2_fillOver_l37 F k155 n) k155 ih hk155 v0 v1 v2 v3 v4 v5 v6 w h
set_option maxRecDepth 100000 in
set_option maxHeartbeats 4000000 in
theorem aX2_fillOver_h25 {X : gX} (ok : gOk X cX2_fillOver RX2 11 none rmX2_fillOver) {res : gW} (hres : gRs X none res) {F : Nat} (r : Nat → (Option Nat) → Int32 → (Option Nat) → Int32 → Int32 → gW → Option (gW)) (hr : ∀ (v0 : Nat) (v1 : Option Nat) (v2 : Int32) (v3 : Option Nat) (v4 : Int32) (v5 : Int32) (w : gW), r v0 v1 v2 v3 v4 v5 w = some res → Wx X w 0 0 25 [(0, .inr (.inr (some v0))), (1, .inr (.inr v1)), (2, .inl v2), (3, .inr (.inr v3)), (4, .inl v4), (5, .inl v5)] []) : ∀ (v0 : Nat) (v1 : Option Nat) (v2 : Int32) (v3 : Option Nat) (v4 : Int32) (v5 : Int32) (w : gW), mX2_fillOver_h25 F r v0 v1 v2 v3 v4 v5 w = some res → Wx X w 0 0 25 [(0, .inr (.inr (some v0))), (1, .inr (.inr v1)), (2, .inl v2), (3, .inr (.inr v3)), (4, .inl v4), (5, .inl v5)] [] := by
  intro v0 v1 v2 v3 v4 v5 w h
  unfold mX2_fillOver_h25 at h
  refine Wx.run ok kX2_fillOver 14 2 (lv' := [(0, .inr (.inr (some v0))), (1, .inr (.inr v1)), (2, .inl v2), (3, .inr (.inr v3)), (4, .inl v4), (5, .inl v5)]) (st' := [.inr (.inr v3), .inl v5]) (pc' := 28) rfl ?_
  refine Wx.getI ok kX2_fillOver 16 rfl lk_RX2_30_0 h (fun t28 h => ?_)
  refine Wx.icmp_ge ok kX2_fillOver 17 (tgt := 161) rfl (by decide) h (fun hc31 h => ?_) (fun hc31 h => ?_)
  · exact Wx.vreturn ok kX2_fillOver 81 rfl hres h (by decide)
  · refine Wx.run ok kX2_fillOver 18 2 (lv' := [(6, .inl (0 : Int32)), (0, .inr (.inr (some v0))), (1, .inr (.inr v1)), (2, .inl v2), (3, .inr (.inr v3)), (4, .inl v4), (5, .inl v5)]) (st' := []) (pc' := 37) rfl ?_
    refine Wx.sub [1, 2, 3, 4, 5, 6, 0] rfl ?_
    refine aX2_fillOver_l37 ok hres (F := F) _ ?_ F _ _ _ _ _ _ _ _ h
    · intro v0 v1 v2 v3 v4 v5 w h
      refine Wx.run ok kX2_fillOver 79 1 (lv' := [(5, .inl (v5 + (1 : Int32))), (0, .inr (.inr (some v0))), (1, .inr (.inr v1)), (2, .inl v2), (3, .inr (.inr v3)), (4, .inl v4)]) (st' := []) (pc' := 158) rfl ?_
      refine Wx.jump ok kX2_fillOver 80 (tgt := 25) rfl (by decide) ?_
      refine Wx.sub [1, 2, 3, 4, 5, 0] rfl ?_
      exact hr _ _ _ _ _ _ _ h
set_option maxRecDepth 100000 in
set_option maxHeartbeats 4000000 in
theorem aX2_fillOver_l25 {X : gX} (ok : gOk X cX2_fillOver RX2 11 none rmX2_fillOver) {res : gW} (hres : gRs X none res) {F : Nat} : ∀ (n : Nat) (v0 : Nat) (v1 : Option Nat) (v2 : Int32) (v3 : Option Nat) (v4 : Int32) (v5 : Int32) (w : gW), mX2_fillOver_l25 F n v0 v1 v2 v3 v4 v5 w = some res → Wx X w 0 0 25 [(0, .inr (.inr (some v0))), (1, .inr (.inr v1)), (2, .inl v2), (3, .inr (.inr v3)), (4, .inl v4), (5, .inl v5)] [] := by
  intro n
  induction n with
  | zero => intro v0 v1 v2 v3 v4 v5 w h; cases (show (none : Option (gW)) = some res from h)
  | succ n ih =>
    intro v0 v1 v2 v3 v4 v5 w h
    exact aX2_fillOver_h25 ok hres (F := F) (mX2_fillOver_l25 F n) ih v0 v1 v2 v3 v4 v5 w h
set_option maxRecDepth 100000 in
set_option maxHeartbeats 4000000 in
theorem aX2_fillOver (l : Launch) (G : gG) {F : Nat} {v0 : Nat} {v1 : Option Nat} {v2 : Int32} {w : gW} {res : gW} (h : mX2_fillOver F v0 v1 v2 w = some res) : gM l yX2_fillOver cX2_fillOver 11 none rmX2_fillOver G w (gTs [.inr (.inr (some v0)), .inr (.inr v1), .inl v2]) none res := by
  refine gM_of (y := yX2_fillOver) (by decide +kernel) (Nat.le_of_ble_eq_true rfl) ?_
  intro X ok hl hG hres hnm
  subst hl; subst hG
  unfold mX2_fillOver at h
  show Wx X w 0 0 0 [(0, .inr (.inr (some v0))), (1, .inr (.inr v1)), (2, .inl v2)] []
  refine Wx.run ok kX2_fillOver 0 1 (lv' := [(0, .inr (.inr (some v0))), (1, .inr (.inr v1)), (2, .inl v2)]) (st' := [.inr (.inr v1)]) (pc' := 1) rfl ?_
  refine Wx.getR ok kX2_fillOver 1 rfl lk_RX2_48_0 h (fun t1 h => ?_)
  refine Wx.run ok kX2_fillOver 2 2 (lv' := [(3, .inr (.inr t1)), (0, .inr (.inr (some v0))), (1, .inr (.inr v1)), (2, .inl v2)]) (st' := [.inr (.inr v1)]) (pc' := 6) rfl ?_
  refine Wx.getI ok kX2_fillOver 4 rfl lk_RX2_54_0 h (fun t6 h => ?_)
  refine Wx.run ok kX2_fillOver 5 4 (lv' := [(4, .inl t6), (3, .inr (.inr t1)), (0, .inr (.inr (some v0))), (1, .inr (.inr v1)), (2, .inl v2)]) (st' := [.inr (.inr t1), .inl t6, .inr (.inr (some v0))]) (pc' := 15) rfl ?_
  refine Wx.getI ok kX2_fillOver 9 rfl lk_RX2_30_0 h (fun t15 h => ?_)
  refine Wx.run ok kX2_fillOver 10 1 (lv' := [(4, .inl t6), (3, .inr (.inr t1)), (0, .inr (.inr (some v0))), (1, .inr (.inr v1)), (2, .inl v2)]) (st' := [.inl (t6 * t15), .inr (.inr (some v0))]) (pc' := 19) rfl ?_
  refine Wx.put ok kX2_fillOver 11 rfl lk_RX2_30_1 (gFit_i _) h (fun w19 h => ?_)
  refine Wx.run ok kX2_fillOver 12 2 (lv' := [(5, .inl (0 : Int32)), (4, .inl t6), (3, .inr (.inr t1)), (0, .inr (.inr (some v0))), (1, .inr (.inr v1)), (2, .inl v2)]) (st' := []) (pc' := 25) rfl ?_
  refine Wx.sub [3, 4, 5, 2, 1, 0] rfl ?_
  refine aX2_fillOver_l25 ok hres (F := F) F _ _ _ _ _ _ _ h
set_option maxRecDepth 100000 in
set_option maxHeartbeats 4000000 in
theorem aX5_findBounds_h48 {X : gX} (ok : gOk X cX5_findBounds RX5 4 none rmX5_findBounds) {res : gW} (hres : gRs X none res) {F : Nat} (r : Nat → (Option Nat) → Int32 → Int32 → gW → Option (gW)) (k80 : Nat → (Option Nat) → Int32 → gW → Option (gW)) (hr : ∀ (v0 : Nat) (v1 : Option Nat) (v2 : Int32) (v3 : Int32) (w : gW), r v0 v1 v2 v3 w = some res → Wx X w 0 0 48 [(0, .inr (.inr (some v0))), (1, .inr (.inr v1)), (2, .inl v2), (3, .inl v3)] []) (hk80 : ∀ (v0 : Nat) (v1 : Option Nat) (v2 : Int32) (w : gW), k80 v0 v1 v2 w = some res → Wx X w 0 0 80 [(0, .inr (.inr (some v0))), (1, .inr (.inr v1)), (2, .inl v2)] []) : ∀ (v0 : Nat) (v1 : Option Nat) (v2 : Int32) (v3 : Int32) (w : gW), mX5_findBounds_h48 F r k80 v0 v1 v2 v3 w = some res → Wx X w 0 0 48 [(0, .inr (.inr (some v0))), (1, .inr (.inr v1)), (2, .inl v2), (3, .inl v3)] [] := by
  intro v0 v1 v2 v3 w h
  unfold mX5_findBounds_h48 at h
  refine Wx.run ok kX5_findBounds 26 2 (lv' := [(0, .inr (.inr (some v0))), (1, .inr (.inr v1)), (2, .inl v2), (3, .inl v3)]) (st' := [.inr (.inr v1), .inl v3]) (pc' := 50) rfl ?_
  refine Wx.getI ok kX5_findBounds 28 rfl lk_RX5_40_0 h (fun t50 h => ?_)
  refine Wx.icmp_ge ok kX5_findBounds 29 (tgt := 80) rfl (by decide) h (fun hc53 h => ?_) (fun hc53 h => ?_)
  · refine Wx.sub [0, 1, 2] rfl ?_
    exact hk80 _ _ _ _ h
  · refine Wx.run ok kX5_findBounds 30 4 (lv' := [(0, .inr (.inr (some v0))), (1, .inr (.inr v1)), (2, .inl v2), (3, .inl v3)]) (st' := [.inl v3, .inl v2, .inr (.inr v1), .inr (.inr (some v0))]) (pc' := 60) rfl ?_
    obtain ⟨a60, ha60, h⟩ := gob h
    obtain ⟨q60, hq60, h⟩ := gob h
    refine Wx.callV ok kX5_findBounds 34 rfl lm_RX5_73 cd_X5_writeBound ha60 [.inr (.inr v1), .inl v2, .inl v3] none (aX5_writeBound _ _ hq60) (by decide) rfl (Nat.le_of_ble_eq_true rfl) rfl rfl ?_
    refine Wx.run ok kX5_findBounds 35 1 (lv' := [(0, .inr (.inr (some v0))), (1, .inr (.inr v1)), (2, .inl v2), (3, .inl v3)]) (st' := [.inr (.inr (some v0))]) (pc' := 64) rfl ?_
    refine Wx.getR ok kX5_findBounds 36 rfl lk_RX5_20_0 h (fun t64 h => ?_)
    refine Wx.run ok kX5_findBounds 37 1 (lv' := [(0, .inr (.inr (some v0))), (1, .inr (.inr v1)), (2, .inl v2), (3, .inl v3)]) (st' := [.inr (.inr (some v0)), .inr (.inr t64)]) (pc' := 68) rfl ?_
    refine Wx.getR ok kX5_findBounds 38 rfl lk_RX5_9_0 h (fun t68 h => ?_)
    obtain ⟨a71, ha71, h⟩ := gob h
    obtain ⟨q71, hq71, h⟩ := gob h
    refine Wx.callV ok kX5_findBounds 39 rfl lm_RX5_65 cd_X1_add ha71 [.inr (.inr t68)] none (aX1_add _ _ hq71) (by decide) rfl (Nat.le_of_ble_eq_true rfl) rfl rfl ?_
    refine Wx.run ok kX5_findBounds 40 1 (lv' := [(3, .inl (v3 + (1 : Int32))), (0, .inr (.inr (some v0))), (1, .inr (.inr v1)), (2, .inl v2)]) (st' := []) (pc' := 77) rfl ?_
    refine Wx.jump ok kX5_findBounds 41 (tgt := 48) rfl (by decide) ?_
    refine Wx.sub [1, 2, 3, 0] rfl ?_
    exact hr _ _ _ _ _ h
set_option maxRecDepth 100000 in
set_option maxHeartbeats 4000000 in
theorem aX5_findBounds_l48 {X : gX} (ok : gOk X cX5_findBounds RX5 4 none rmX5_findBounds) {res : gW} (hres : gRs X none res) {F : Nat} (k80 : Nat → (Option Nat) → Int32 → gW → Option (gW)) (hk80 : ∀ (v0 : Nat) (v1 : Option Nat) (v2 : Int32) (w : gW), k80 v0 v1 v2 w = some res → Wx X w 0 0 80 [(0, .inr (.inr (some v0))), (1, .inr (.inr v1)), (2, .inl v2)] []) : ∀ (n : Nat) (v0 : Nat) (v1 : Option Nat) (v2 : Int32) (v3 : Int32) (w : gW), mX5_findBounds_l48 F k80 n v0 v1 v2 v3 w = some res → Wx X w 0 0 48 [(0, .inr (.inr (some v0))), (1, .inr (.inr v1)), (2, .inl v2), (3, .inl v3)] [] := by
  intro n
  induction n with
  | zero => intro v0 v1 v2 v3 w h; cases (show (none : Option (gW)) = some res from h)
  | succ n ih =>
    intro v0 v1 v2 v3 w h
    exact aX5_findBounds_h48 ok hres (F := F) (mX5_findBounds_l48 F k80 n) k80 ih hk80 v0 v1 v2 v3 w h
set_option maxRecDepth 100000 in
set_option maxHeartbeats 4000000 in
theorem aX5_findBounds_h35 {X : gX} (ok : gOk X cX5_findBounds RX5 4 none rmX5_findBounds) {res : gW} (hres : gRs X none res) {F : Nat} (r : Nat → (Option Nat) → Int32 → gW → Option (gW)) (hr : ∀ (v0 : Nat) (v1 : Option Nat) (v2 : Int32) (w : gW), r v0 v1 v2 w = some res → Wx X w 0 0 35 [(0, .inr (.inr (some v0))), (1, .inr (.inr v1)), (2, .inl v2)] []) : ∀ (v0 : Nat) (v1 : Option Nat) (v2 : Int32) (w : gW), mX5_findBounds_h35 F r v0 v1 v2 w = some res → Wx X w 0 0 35 [(0, .inr (.inr (some v0))), (1, .inr (.inr v1)), (2, .inl v2)] [] := by
  intro v0 v1 v2 w h
  unfold mX5_findBounds_h35 at h
  refine Wx.run ok kX5_findBounds 19 2 (lv' := [(0, .inr (.inr (some v0))), (1, .inr (.inr v1)), (2, .inl v2)]) (st' := [.inr (.inr v1), .inl v2]) (pc' := 37) rfl ?_
  refine Wx.getR ok kX5_findBounds 21 rfl lk_RX5_52_0 h (fun t37 h => ?_)
  refine Wx.getI ok kX5_findBounds 22 rfl lk_RX5_56_0 h (fun t40 h => ?_)
  refine Wx.icmp_ge ok kX5_findBounds 23 (tgt := 86) rfl (by decide) h (fun hc43 h => ?_) (fun hc43 h => ?_)
  · exact Wx.vreturn ok kX5_findBounds 44 rfl hres h (by decide)
  · refine Wx.run ok kX5_findBounds 24 2 (lv' := [(3, .inl (0 : Int32)), (0, .inr (.inr (some v0))), (1, .inr (.inr v1)), (2, .inl v2)]) (st' := []) (pc' := 48) rfl ?_
    refine Wx.sub [1, 2, 3, 0] rfl ?_
    refine aX5_findBounds_l48 ok hres (F := F) _ ?_ F _ _ _ _ _ h
    · intro v0 v1 v2 w h
      refine Wx.run ok kX5_findBounds 42 1 (lv' := [(2, .inl (v2 + (1 : Int32))), (0, .inr (.inr (some v0))), (1, .inr (.inr v1))]) (st' := []) (pc' := 83) rfl ?_
      refine Wx.jump ok kX5_findBounds 43 (tgt := 35) rfl (by decide) ?_
      refine Wx.sub [1, 2, 0] rfl ?_
      exact hr _ _ _ _ h
set_option maxRecDepth 100000 in
set_option maxHeartbeats 4000000 in
theorem aX5_findBounds_l35 {X : gX} (ok : gOk X cX5_findBounds RX5 4 none rmX5_findBounds) {res : gW} (hres : gRs X none res) {F : Nat} : ∀ (n : Nat) (v0 : Nat) (v1 : Option Nat) (v2 : Int32) (w : gW), mX5_findBounds_l35 F n v0 v1 v2 w = some res → Wx X w 0 0 35 [(0, .inr (.inr (some v0))), (1, .inr (.inr v1)), (2, .inl v2)] [] := by
  intro n
  induction n with
  | zero => intro v0 v1 v2 w h; cases (show (none : Option (gW)) = some res from h)
  | succ n ih =>
    intro v0 v1 v2 w h
    exact aX5_findBounds_h35 ok hres (F := F) (mX5_findBounds_l35 F n) ih v0 v1 v2 w h
set_option maxRecDepth 100000 in
set_option maxHeartbeats 4000000 in
theorem aX5_findBounds (l : Launch) (G : gG) {F : Nat} {v0 : Nat} {v1 : Option Nat} {w : gW} {res : gW} (h : mX5_findBounds F v0 v1 w = some res) : gM l yX5_findBounds cX5_findBounds 4 none rmX5_findBounds G w (gTs [.inr (.inr (some v0)), .inr (.inr v1)]) none res := by
  refine gM_of (y := yX5_findBounds) (by decide +kernel) (Nat.le_of_ble_eq_true rfl) ?_
  intro X ok hl hG hres hnm
  subst hl; subst hG
  unfold mX5_findBounds at h
  show Wx X w 0 0 0 [(0, .inr (.inr (some v0))), (1, .inr (.inr v1))] []
  refine Wx.run ok kX5_findBounds 0 2 (lv' := [(0, .inr (.inr (some v0))), (1, .inr (.inr v1))]) (st' := [.inr (.inr v1), .inr (.inr (some v0))]) (pc' := 2) rfl ?_
  refine Wx.getR ok kX5_findBounds 2 rfl lk_RX5_52_0 h (fun t2 h => ?_)
  refine Wx.getI ok kX5_findBounds 3 rfl lk_RX5_56_0 h (fun t5 h => ?_)
  refine Wx.run ok kX5_findBounds 4 3 (lv' := [(0, .inr (.inr (some v0))), (1, .inr (.inr v1))]) (st' := [.inr (.inr v1), .inl (t5 - (1 : Int32)), .inr (.inr (some v0))]) (pc' := 11) rfl ?_
  refine Wx.getI ok kX5_findBounds 7 rfl lk_RX5_40_0 h (fun t11 h => ?_)
  refine Wx.run ok kX5_findBounds 8 1 (lv' := [(0, .inr (.inr (some v0))), (1, .inr (.inr v1))]) (st' := [.inl ((t5 - (1 : Int32)) * t11), .inr (.inr (some v0))]) (pc' := 15) rfl ?_
  refine Wx.put ok kX5_findBounds 9 rfl lk_RX5_31_1 (gFit_i _) h (fun w15 h => ?_)
  refine Wx.run ok kX5_findBounds 10 1 (lv' := [(0, .inr (.inr (some v0))), (1, .inr (.inr v1))]) (st' := [.inr (.inr (some v0))]) (pc' := 19) rfl ?_
  refine Wx.getR ok kX5_findBounds 11 rfl lk_RX5_20_0 h (fun t19 h => ?_)
  refine Wx.run ok kX5_findBounds 12 1 (lv' := [(0, .inr (.inr (some v0))), (1, .inr (.inr v1))]) (st' := [.inr (.inr v1), .inr (.inr t19)]) (pc' := 23) rfl ?_
  obtain ⟨a23, ha23, h⟩ := gob h
  obtain ⟨q23, hq23, h⟩ := gob h
  refine Wx.callV ok kX5_findBounds 13 rfl lm_RX5_69 cd_X0_places ha23 [] (some (.inl q23.1)) (aX0_places _ _ hq23) (by decide) rfl (Nat.le_of_ble_eq_true rfl) rfl rfl ?_
  refine Wx.run ok kX5_findBounds 14 1 (lv' := [(0, .inr (.inr (some v0))), (1, .inr (.inr v1))]) (st' := [.inr (.inr v1), .inl q23.1, .inr (.inr t19)]) (pc' := 27) rfl ?_
  refine Wx.getI ok kX5_findBounds 15 rfl lk_RX5_45_0 h (fun t27 h => ?_)
  obtain ⟨a30, ha30, h⟩ := gob h
  obtain ⟨q30, hq30, h⟩ := gob h
  refine Wx.callV ok kX5_findBounds 16 rfl lm_RX5_48 cd_X1_begin ha30 [.inl q23.1, .inl t27] none (aX1_begin _ _ hq30) (by decide) rfl (Nat.le_of_ble_eq_true rfl) rfl rfl ?_
  refine Wx.run ok kX5_findBounds 17 2 (lv' := [(2, .inl (1 : Int32)), (0, .inr (.inr (some v0))), (1, .inr (.inr v1))]) (st' := []) (pc' := 35) rfl ?_
  refine Wx.sub [1, 2, 0] rfl ?_
  refine aX5_findBounds_l35 ok hres (F := F) F _ _ _ _ h
set_option maxRecDepth 100000 in
set_option maxHeartbeats 4000000 in
theorem aX5_findStandards_b62 {X : gX} (ok : gOk X cX5_findStandards RX5 5 none rmX5_findStandards) {res : gW} (hres : gRs X none res) {F : Nat} (r : Nat → (Option Nat) → (Option Nat) → Int32 → Int32 → gW → Option (gW)) (k68 : Nat → (Option Nat) → gW → Option (gW)) (hr : ∀ (v0 : Nat) (v1 : Option Nat) (v2 : Option Nat) (v3 : Int32) (v4 : Int32) (w : gW), r v0 v1 v2 v3 v4 w = some res → Wx X w 0 0 20 [(0, .inr (.inr (some v0))), (1, .inr (.inr v1)), (2, .inr (.inr v2)), (3, .inl v3), (4, .inl v4)] []) (hk68 : ∀ (v0 : Nat) (v1 : Option Nat) (w : gW), k68 v0 v1 w = some res → Wx X w 0 0 68 [(0, .inr (.inr (some v0))), (1, .inr (.inr v1))] []) : ∀ (v0 : Nat) (v1 : Option Nat) (v2 : Option Nat) (v3 : Int32) (v4 : Int32) (w : gW), mX5_findStandards_b62 F r k68 v0 v1 v2 v3 v4 w = some res → Wx X w 0 0 62 [(0, .inr (.inr (some v0))), (1, .inr (.inr v1)), (2, .inr (.inr v2)), (3, .inl v3), (4, .inl v4)] [] := by
  intro v0 v1 v2 v3 v4 w h
  unfold mX5_findStandards_b62 at h
  refine Wx.run ok kX5_findStandards 34 1 (lv' := [(4, .inl (v4 + (1 : Int32))), (0, .inr (.inr (some v0))), (1, .inr (.inr v1)), (2, .inr (.inr v2)), (3, .inl v3)]) (st' := []) (pc' := 65) rfl ?_
  refine Wx.jump ok kX5_findStandards 35 (tgt := 20) rfl (by decide) ?_
  refine Wx.sub [1, 2, 3, 4, 0] rfl ?_
  exact hr _ _ _ _ _ _ h
set_option maxRecDepth 100000 in
set_option maxHeartbeats 4000000 in
theorem aX5_findStandards_h20 {X : gX} (ok : gOk X cX5_findStandards RX5 5 none rmX5_findStandards) {res : gW} (hres : gRs X none res) {F : Nat} (r : Nat → (Option Nat) → (Option Nat) → Int32 → Int32 → gW → Option (gW)) (k68 : Nat → (Option Nat) → gW → Option (gW)) (hr : ∀ (v0 : Nat) (v1 : Option Nat) (v2 : Option Nat) (v3 : Int32) (v4 : Int32) (w : gW), r v0 v1 v2 v3 v4 w = some res → Wx X w 0 0 20 [(0, .inr (.inr (some v0))), (1, .inr (.inr v1)), (2, .inr (.inr v2)), (3, .inl v3), (4, .inl v4)] []) (hk68 : ∀ (v0 : Nat) (v1 : Option Nat) (w : gW), k68 v0 v1 w = some res → Wx X w 0 0 68 [(0, .inr (.inr (some v0))), (1, .inr (.inr v1))] []) : ∀ (v0 : Nat) (v1 : Option Nat) (v2 : Option Nat) (v3 : Int32) (v4 : Int32) (w : gW), mX5_findStandards_h20 F r k68 v0 v1 v2 v3 v4 w = some res → Wx X w 0 0 20 [(0, .inr (.inr (some v0))), (1, .inr (.inr v1)), (2, .inr (.inr v2)), (3, .inl v3), (4, .inl v4)] [] := by
  intro v0 v1 v2 v3 v4 w h
  unfold mX5_findStandards_h20 at h
  refine Wx.run ok kX5_findStandards 11 2 (lv' := [(0, .inr (.inr (some v0))), (1, .inr (.inr v1)), (2, .inr (.inr v2)), (3, .inl v3), (4, .inl v4)]) (st' := [.inl v3, .inl v4]) (pc' := 23) rfl ?_
  refine Wx.icmp_ge ok kX5_findStandards 13 (tgt := 68) rfl (by decide) h (fun hc23 h => ?_) (fun hc23 h => ?_)
  · refine Wx.sub [0, 1] rfl ?_
    exact hk68 _ _ _ h
  · refine Wx.run ok kX5_findStandards 14 6 (lv' := [(0, .inr (.inr (some v0))), (1, .inr (.inr v1)), (2, .inr (.inr v2)), (3, .inl v3), (4, .inl v4)]) (st' := [.inl ((v3 - (1 : Int32)) - v4), .inr (.inr v2)]) (pc' := 33) rfl ?_
    obtain ⟨a33, ha33, h⟩ := gob h
    obtain ⟨q33, hq33, h⟩ := gob h
    refine Wx.callV ok kX5_findStandards 20 rfl lm_RX5_104 cd_X1_leadsAt ha33 [.inl ((v3 - (1 : Int32)) - v4)] (some (.inl q33.1)) (aX1_leadsAt _ _ hq33) (by decide) rfl (Nat.le_of_ble_eq_true rfl) rfl rfl ?_
    refine Wx.if_ne ok kX5_findStandards 21 (tgt := 62) rfl (by decide) h (fun hc36 h => ?_) (fun hc36 h => ?_)
    · refine Wx.run ok kX5_findStandards 22 5 (lv' := [(0, .inr (.inr (some v0))), (1, .inr (.inr v1)), (2, .inr (.inr v2)), (3, .inl v3), (4, .inl v4)]) (st' := [.inr (.inr v1), .inl v3, .inl v4, .inr (.inr v2), .inr (.inr (some v0))]) (pc' := 45) rfl ?_
      refine Wx.getI ok kX5_findStandards 27 rfl lk_RX5_45_0 h (fun t45 h => ?_)
      obtain ⟨a48, ha48, h⟩ := gob h
      obtain ⟨q48, hq48, h⟩ := gob h
      refine Wx.callV ok kX5_findStandards 28 rfl lm_RX5_108 cd_X5_writeStandard ha48 [.inr (.inr v2), .inl v4, .inl v3, .inl t45] none (aX5_writeStandard _ _ hq48) (by decide) rfl (Nat.le_of_ble_eq_true rfl) rfl rfl ?_
      refine Wx.run ok kX5_findStandards 29 1 (lv' := [(0, .inr (.inr (some v0))), (1, .inr (.inr v1)), (2, .inr (.inr v2)), (3, .inl v3), (4, .inl v4)]) (st' := [.inr (.inr (some v0))]) (pc' := 52) rfl ?_
      refine Wx.getR ok kX5_findStandards 30 rfl lk_RX5_24_0 h (fun t52 h => ?_)
      refine Wx.run ok kX5_findStandards 31 1 (lv' := [(0, .inr (.inr (some v0))), (1, .inr (.inr v1)), (2, .inr (.inr v2)), (3, .inl v3), (4, .inl v4)]) (st' := [.inr (.inr (some v0)), .inr (.inr t52)]) (pc' := 56) rfl ?_
      refine Wx.getR ok kX5_findStandards 32 rfl lk_RX5_9_0 h (fun t56 h => ?_)
      obtain ⟨a59, ha59, h⟩ := gob h
      obtain ⟨q59, hq59, h⟩ := gob h
      refine Wx.callV ok kX5_findStandards 33 rfl lm_RX5_65 cd_X1_add ha59 [.inr (.inr t56)] none (aX1_add _ _ hq59) (by decide) rfl (Nat.le_of_ble_eq_true rfl) rfl rfl ?_
      exact aX5_findStandards_b62 ok hres (F := F) r k68 hr hk68 _ _ _ _ _ _ h
    · exact aX5_findStandards_b62 ok hres (F := F) r k68 hr hk68 _ _ _ _ _ _ h
set_option maxRecDepth 100000 in
set_option maxHeartbeats 4000000 in
theorem aX5_findStandards_l20 {X : gX} (ok : gOk X cX5_findStandards RX5 5 none rmX5_findStandards) {res : gW} (hres : gRs X none res) {F : Nat} (k68 : Nat → (Option Nat) → gW → Option (gW)) (hk68 : ∀ (v0 : Nat) (v1 : Option Nat) (w : gW), k68 v0 v1 w = some res → Wx X w 0 0 68 [(0, .inr (.inr (some v0))), (1, .inr (.inr v1))] []) : ∀ (n : Nat) (v0 : Nat) (v1 : Option Nat) (v2 : Option Nat) (v3 : Int32) (v4 : Int32) (w : gW), mX5_findStandards_l20 F k68 n v0 v1 v2 v3 v4 w = some res → Wx X w 0 0 20 [(0, .inr (.inr (some v0))), (1, .inr (.inr v1)), (2, .inr (.inr v2)), (3, .inl v3), (4, .inl v4)] [] := by
  intro n
  induction n with
  | zero => intro v0 v1 v2 v3 v4 w h; cases (show (none : Option (gW)) = some res from h)
  | succ n ih =>
    intro v0 v1 v2 v3 v4 w h
    exact aX5_findStandards_h20 ok hres (F := F) (mX5_findStandards_l20 F k68 n) k68 ih hk68 v0 v1 v2 v3 v4 w h
set_option maxRecDepth 100000 in
set_option maxHeartbeats 4000000 in
theorem aX5_findStandards (l : Launch) (G : gG) {F : Nat} {v0 : Nat} {v1 : Option Nat} {v2 : Option Nat} {w : gW} {res : gW} (h : mX5_findStandards F v0 v1 v2 w = some res) : gM l yX5_findStandards cX5_findStandards 5 none rmX5_findStandards G w (gTs [.inr (.inr (some v0)), .inr (.inr v1), .inr (.inr v2)]) none res := by
  refine gM_of (y := yX5_findStandards) (by decide +kernel) (Nat.le_of_ble_eq_true rfl) ?_
  intro X ok hl hG hres hnm
  subst hl; subst hG
  unfold mX5_findStandards at h
  show Wx X w 0 0 0 [(0, .inr (.inr (some v0))), (1, .inr (.inr v1)), (2, .inr (.inr v2))] []
  refine Wx.run ok kX5_findStandards 0 1 (lv' := [(0, .inr (.inr (some v0))), (1, .inr (.inr v1)), (2, .inr (.inr v2))]) (st' := [.inr (.inr v1)]) (pc' := 1) rfl ?_
  obtain ⟨a1, ha1, h⟩ := gob h
  obtain ⟨q1, hq1, h⟩ := gob h
  refine Wx.callV ok kX5_findStandards 1 rfl lm_RX5_69 cd_X0_places ha1 [] (some (.inl q1.1)) (aX0_places _ _ hq1) (by decide) rfl (Nat.le_of_ble_eq_true rfl) rfl rfl ?_
  refine Wx.run ok kX5_findStandards 2 2 (lv' := [(3, .inl q1.1), (0, .inr (.inr (some v0))), (1, .inr (.inr v1)), (2, .inr (.inr v2))]) (st' := [.inr (.inr (some v0))]) (pc' := 6) rfl ?_
  refine Wx.getR ok kX5_findStandards 4 rfl lk_RX5_24_0 h (fun t6 h => ?_)
  refine Wx.run ok kX5_findStandards 5 2 (lv' := [(3, .inl q1.1), (0, .inr (.inr (some v0))), (1, .inr (.inr v1)), (2, .inr (.inr v2))]) (st' := [.inr (.inr v1), .inl q1.1, .inr (.inr t6)]) (pc' := 11) rfl ?_
  refine Wx.getI ok kX5_findStandards 7 rfl lk_RX5_45_0 h (fun t11 h => ?_)
  obtain ⟨a14, ha14, h⟩ := gob h
  obtain ⟨q14, hq14, h⟩ := gob h
  refine Wx.callV ok kX5_findStandards 8 rfl lm_RX5_48 cd_X1_begin ha14 [.inl q1.1, .inl t11] none (aX1_begin _ _ hq14) (by decide) rfl (Nat.le_of_ble_eq_true rfl) rfl rfl ?_
  refine Wx.run ok kX5_findStandards 9 2 (lv' := [(4, .inl (0 : Int32)), (3, .inl q1.1), (0, .inr (.inr (some v0))), (1, .inr (.inr v1)), (2, .inr (.inr v2))]) (st' := []) (pc' := 20) rfl ?_
  refine Wx.sub [2, 3, 4, 1, 0] rfl ?_
  refine aX5_findStandards_l20 ok hres (F := F) _ ?_ F _ _ _ _ _ _ h
  · intro v0 v1 w h
    refine Wx.run ok kX5_findStandards 36 2 (lv' := [(0, .inr (.inr (some v0))), (1, .inr (.inr v1))]) (st' := [.inr (.inr v1), .inr (.inr (some v0))]) (pc' := 70) rfl ?_
    refine Wx.getI ok kX5_findStandards 38 rfl lk_RX5_45_0 h (fun t70 h => ?_)
    refine Wx.run ok kX5_findStandards 39 1 (lv' := [(0, .inr (.inr (some v0))), (1, .inr (.inr v1))]) (st' := [.inr (.inr (some v0)), .inl t70, .inr (.inr (some v0))]) (pc' := 74) rfl ?_
    refine Wx.getR ok kX5_findStandards 40 rfl lk_RX5_24_0 h (fun t74 h => ?_)
    refine Wx.getI ok kX5_findStandards 41 rfl lk_RX5_34_0 h (fun t77 h => ?_)
    obtain ⟨q80, hq80, h⟩ := gob h
    refine Wx.callSN ok kX5_findStandards 42 rfl lm_RX5_112 cd_X6_power [.inl t70, .inl t77] (some (.inl q80.1)) (aX6_power _ _ hq80) (by decide) rfl (Nat.le_of_ble_eq_true rfl) rfl rfl ?_
    refine Wx.put ok kX5_findStandards 43 rfl lk_RX5_115_1 (gFit_i _) h (fun w83 h => ?_)
    exact Wx.vreturn ok kX5_findStandards 44 rfl hres h (by decide)
set_option maxRecDepth 100000 in
set_option maxHeartbeats 4000000 in
theorem aX5_findUnmoved_b76 {X : gX} (ok : gOk X cX5_findUnmoved RX5 6 none rmX5_findUnmoved) {res : gW} (hres : gRs X none res) {F : Nat} (r : Nat → (Option Nat) → (Option Nat) → Int32 → Int32 → Int32 → gW → Option (gW)) (k84 : Nat → (Option Nat) → (Option Nat) → Int32 → Int32 → gW → Option (gW)) (hr : ∀ (v0 : Nat) (v1 : Option Nat) (v2 : Option Nat) (v3 : Int32) (v4 : Int32) (v5 : Int32) (w : gW), r v0 v1 v2 v3 v4 v5 w = some res → Wx X w 0 0 40 [(0, .inr (.inr (some v0))), (1, .inr (.inr v1)), (2, .inr (.inr v2)), (3, .inl v3), (4, .inl v4), (5, .inl v5)] []) (hk84 : ∀ (v0 : Nat) (v1 : Option Nat) (v2 : Option Nat) (v3 : Int32) (v4 : Int32) (w : gW), k84 v0 v1 v2 v3 v4 w = some res → Wx X w 0 0 84 [(0, .inr (.inr (some v0))), (1, .inr (.inr v1)), (2, .inr (.inr v2)), (3, .inl v3), (4, .inl v4)] []) : ∀ (v0 : Nat) (v1 : Option Nat) (v2 : Option Nat) (v3 : Int32) (v4 : Int32) (v5 : Int32) (s0 : Option Nat) (s1 : Int32) (s2 : Int32) (s3 : Int32) (w : gW), mX5_findUnmoved_b76 F r k84 v0 v1 v2 v3 v4 v5 s0 s1 s2 s3 w = some res → Wx X w 0 0 76 [(0, .inr (.inr (some v0))), (1, .inr (.inr v1)), (2, .inr (.inr v2)), (3, .inl v3), (4, .inl v4), (5, .inl v5)] [.inl s3, .inl s2, .inl s1, .inr (.inr s0)] := by
  intro v0 v1 v2 v3 v4 v5 s0 s1 s2 s3 w h
  unfold mX5_findUnmoved_b76 at h
  refine Wx.run ok kX5_findUnmoved 39 1 (lv' := [(0, .inr (.inr (some v0))), (1, .inr (.inr v1)), (2, .inr (.inr v2)), (3, .inl v3), (4, .inl v4), (5, .inl v5)]) (st' := [.inl (s2 - s3), .inl s1, .inr (.inr s0)]) (pc' := 77) rfl ?_
  refine Wx.iast ok kX5_findUnmoved 40 rfl h (fun w77 h => ?_)
  refine Wx.run ok kX5_findUnmoved 41 1 (lv' := [(5, .inl (v5 + (1 : Int32))), (0, .inr (.inr (some v0))), (1, .inr (.inr v1)), (2, .inr (.inr v2)), (3, .inl v3), (4, .inl v4)]) (st' := []) (pc' := 81) rfl ?_
  refine Wx.jump ok kX5_findUnmoved 42 (tgt := 40) rfl (by decide) ?_
  refine Wx.sub [1, 2, 3, 4, 5, 0] rfl ?_
  exact hr _ _ _ _ _ _ _ h
set_option maxRecDepth 100000 in
set_option maxHeartbeats 4000000 in
theorem aX5_findUnmoved_h40 {X : gX} (ok : gOk X cX5_findUnmoved RX5 6 none rmX5_findUnmoved) {res : gW} (hres : gRs X none res) {F : Nat} (r : Nat → (Option Nat) → (Option Nat) → Int32 → Int32 → Int32 → gW → Option (gW)) (k84 : Nat → (Option Nat) → (Option Nat) → Int32 → Int32 → gW → Option (gW)) (hr : ∀ (v0 : Nat) (v1 : Option Nat) (v2 : Option Nat) (v3 : Int32) (v4 : Int32) (v5 : Int32) (w : gW), r v0 v1 v2 v3 v4 v5 w = some res → Wx X w 0 0 40 [(0, .inr (.inr (some v0))), (1, .inr (.inr v1)), (2, .inr (.inr v2)), (3, .inl v3), (4, .inl v4), (5, .inl v5)] []) (hk84 : ∀ (v0 : Nat) (v1 : Option Nat) (v2 : Option Nat) (v3 : Int32) (v4 : Int32) (w : gW), k84 v0 v1 v2 v3 v4 w = some res → Wx X w 0 0 84 [(0, .inr (.inr (some v0))), (1, .inr (.inr v1)), (2, .inr (.inr v2)), (3, .inl v3), (4, .inl v4)] []) : ∀ (v0 : Nat) (v1 : Option Nat) (v2 : Option Nat) (v3 : Int32) (v4 : Int32) (v5 : Int32) (w : gW), mX5_findUnmoved_h40 F r k84 v0 v1 v2 v3 v4 v5 w = some res → Wx X w 0 0 40 [(0, .inr (.inr (some v0))), (1, .inr (.inr v1)), (2, .inr (.inr v2)), (3, .inl v3), (4, .inl v4), (5, .inl v5)] [] := by
  intro v0 v1 v2 v3 v4 v5 w h
  unfold mX5_findUnmoved_h40 at h
  refine Wx.run ok kX5_findUnmoved 21 2 (lv' := [(0, .inr (.inr (some v0))), (1, .inr (.inr v1)), (2, .inr (.inr v2)), (3, .inl v3), (4, .inl v4), (5, .inl v5)]) (st' := [.inr (.inr v1), .inl v5]) (pc' := 43) rfl ?_
  refine Wx.getI ok kX5_findUnmoved 23 rfl lk_RX5_40_0 h (fun t43 h => ?_)
  refine Wx.icmp_ge ok kX5_findUnmoved 24 (tgt := 84) rfl (by decide) h (fun hc46 h => ?_) (fun hc46 h => ?_)
  · refine Wx.sub [0, 1, 2, 3, 4] rfl ?_
    exact hk84 _ _ _ _ _ _ h
  · refine Wx.run ok kX5_findUnmoved 25 1 (lv' := [(0, .inr (.inr (some v0))), (1, .inr (.inr v1)), (2, .inr (.inr v2)), (3, .inl v3), (4, .inl v4), (5, .inl v5)]) (st' := [.inr (.inr (some v0))]) (pc' := 50) rfl ?_
    refine Wx.getR ok kX5_findUnmoved 26 rfl lk_RX5_9_0 h (fun t50 h => ?_)
    refine Wx.run ok kX5_findUnmoved 27 5 (lv' := [(0, .inr (.inr (some v0))), (1, .inr (.inr v1)), (2, .inr (.inr v2)), (3, .inl v3), (4, .inl v4), (5, .inl v5)]) (st' := [.inl v5, .inl v4, .inl v3, .inr (.inr v1), .inl v5, .inr (.inr t50)]) (pc' := 61) rfl ?_
    obtain ⟨a61, ha61, h⟩ := gob h
    obtain ⟨q61, hq61, h⟩ := gob h
    refine Wx.callV ok kX5_findUnmoved 32 rfl lm_RX5_61 cd_X0_entry ha61 [.inl v3, .inl v4, .inl v5] (some (.inl q61.1)) (aX0_entry _ _ hq61) (by decide) rfl (Nat.le_of_ble_eq_true rfl) rfl rfl ?_
    refine Wx.run ok kX5_findUnmoved 33 2 (lv' := [(0, .inr (.inr (some v0))), (1, .inr (.inr v1)), (2, .inr (.inr v2)), (3, .inl v3), (4, .inl v4), (5, .inl v5)]) (st' := [.inl v5, .inl v4, .inl q61.1, .inl v5, .inr (.inr t50)]) (pc' := 68) rfl ?_
    refine Wx.icmp_ne ok kX5_findUnmoved 35 (tgt := 75) rfl (by decide) h (fun hc68 h => ?_) (fun hc68 h => ?_)
    · refine Wx.run ok kX5_findUnmoved 36 1 (lv' := [(0, .inr (.inr (some v0))), (1, .inr (.inr v1)), (2, .inr (.inr v2)), (3, .inl v3), (4, .inl v4), (5, .inl v5)]) (st' := [.inl (1 : Int32), .inl q61.1, .inl v5, .inr (.inr t50)]) (pc' := 72) rfl ?_
      refine Wx.jump ok kX5_findUnmoved 37 (tgt := 76) rfl (by decide) ?_
      exact aX5_findUnmoved_b76 ok hres (F := F) r k84 hr hk84 _ _ _ _ _ _ _ _ _ _ _ h
    · refine Wx.run ok kX5_findUnmoved 38 1 (lv' := [(0, .inr (.inr (some v0))), (1, .inr (.inr v1)), (2, .inr (.inr v2)), (3, .inl v3), (4, .inl v4), (5, .inl v5)]) (st' := [.inl (0 : Int32), .inl q61.1, .inl v5, .inr (.inr t50)]) (pc' := 76) rfl ?_
      exact aX5_findUnmoved_b76 ok hres (F := F) r k84 hr hk84 _ _ _ _ _ _ _ _ _ _ _ h
set_option maxRecDepth 100000 in
set_option maxHeartbeats 4000000 in
theorem aX5_findUnmoved_l40 {X : gX} (ok : gOk X cX5_findUnmoved RX5 6 none rmX5_findUnmoved) {res : gW} (hres : gRs X none res) {F : Nat} (k84 : Nat → (Option Nat) → (Option Nat) → Int32 → Int32 → gW → Option (gW)) (hk84 : ∀ (v0 : Nat) (v1 : Option Nat) (v2 : Option Nat) (v3 : Int32) (v4 : Int32) (w : gW), k84 v0 v1 v2 v3 v4 w = some res → Wx X w 0 0 84 [(0, .inr (.inr (some v0))), (1, .inr (.inr v1)), (2, .inr (.inr v2)), (3, .inl v3), (4, .inl v4)] []) : ∀ (n : Nat) (v0 : Nat) (v1 : Option Nat) (v2 : Option Nat) (v3 : Int32) (v4 : Int32) (v5 : Int32) (w : gW), mX5_findUnmoved_l40 F k84 n v0 v1 v2 v3 v4 v5 w = some res → Wx X w 0 0 40 [(0, .inr (.inr (some v0))), (1, .inr (.inr v1)), (2, .inr (.inr v2)), (3, .inl v3), (4, .inl v4), (5, .inl v5)] [] := by
  intro n
  induction n with
  | zero => intro v0 v1 v2 v3 v4 v5 w h; cases (show (none : Option (gW)) = some res from h)
  | succ n ih =>
    intro v0 v1 v2 v3 v4 v5 w h
    exact aX5_findUnmoved_h40 ok hres (F := F) (mX5_findUnmoved_l40 F k84 n) k84 ih hk84 v0 v1 v2 v3 v4 v5 w h
set_option maxRecDepth 100000 in
set_option maxHeartbeats 4000000 in
theorem aX5_findUnmoved_h28 {X : gX} (ok : gOk X cX5_findUnmoved RX5 6 none rmX5_findUnmoved) {res : gW} (hres : gRs X none res) {F : Nat} (r : Nat → (Option Nat) → (Option Nat) → Int32 → Int32 → gW → Option (gW)) (k98 : Nat → (Option Nat) → (Option Nat) → Int32 → gW → Option (gW)) (hr : ∀ (v0 : Nat) (v1 : Option Nat) (v2 : Option Nat) (v3 : Int32) (v4 : Int32) (w : gW), r v0 v1 v2 v3 v4 w = some res → Wx X w 0 0 28 [(0, .inr (.inr (some v0))), (1, .inr (.inr v1)), (2, .inr (.inr v2)), (3, .inl v3), (4, .inl v4)] []) (hk98 : ∀ (v0 : Nat) (v1 : Option Nat) (v2 : Option Nat) (v3 : Int32) (w : gW), k98 v0 v1 v2 v3 w = some res → Wx X w 0 0 98 [(0, .inr (.inr (some v0))), (1, .inr (.inr v1)), (2, .inr (.inr v2)), (3, .inl v3)] []) : ∀ (v0 : Nat) (v1 : Option Nat) (v2 : Option Nat) (v3 : Int32) (v4 : Int32) (w : gW), mX5_findUnmoved_h28 F r k98 v0 v1 v2 v3 v4 w = some res → Wx X w 0 0 28 [(0, .inr (.inr (some v0))), (1, .inr (.inr v1)), (2, .inr (.inr v2)), (3, .inl v3), (4, .inl v4)] [] := by
  intro v0 v1 v2 v3 v4 w h
  unfold mX5_findUnmoved_h28 at h
  refine Wx.run ok kX5_findUnmoved 15 2 (lv' := [(0, .inr (.inr (some v0))), (1, .inr (.inr v1)), (2, .inr (.inr v2)), (3, .inl v3), (4, .inl v4)]) (st' := [.inr (.inr v1), .inl v4]) (pc' := 31) rfl ?_
  refine Wx.getI ok kX5_findUnmoved 17 rfl lk_RX5_40_0 h (fun t31 h => ?_)
  refine Wx.icmp_ge ok kX5_findUnmoved 18 (tgt := 98) rfl (by decide) h (fun hc34 h => ?_) (fun hc34 h => ?_)
  · refine Wx.sub [0, 1, 2, 3] rfl ?_
    exact hk98 _ _ _ _ _ h
  · refine Wx.run ok kX5_findUnmoved 19 2 (lv' := [(5, .inl (0 : Int32)), (0, .inr (.inr (some v0))), (1, .inr (.inr v1)), (2, .inr (.inr v2)), (3, .inl v3), (4, .inl v4)]) (st' := []) (pc' := 40) rfl ?_
    refine Wx.sub [1, 2, 3, 4, 5, 0] rfl ?_
    refine aX5_findUnmoved_l40 ok hres (F := F) _ ?_ F _ _ _ _ _ _ _ h
    · intro v0 v1 v2 v3 v4 w h
      refine Wx.run ok kX5_findUnmoved 43 2 (lv' := [(0, .inr (.inr (some v0))), (1, .inr (.inr v1)), (2, .inr (.inr v2)), (3, .inl v3), (4, .inl v4)]) (st' := [.inr (.inr (some v0)), .inr (.inr v2)]) (pc' := 86) rfl ?_
      refine Wx.getR ok kX5_findUnmoved 45 rfl lk_RX5_9_0 h (fun t86 h => ?_)
      obtain ⟨a89, ha89, h⟩ := gob h
      obtain ⟨q89, hq89, h⟩ := gob h
      refine Wx.callV ok kX5_findUnmoved 46 rfl lm_RX5_65 cd_X1_add ha89 [.inr (.inr t86)] none (aX1_add _ _ hq89) (by decide) rfl (Nat.le_of_ble_eq_true rfl) rfl rfl ?_
      refine Wx.run ok kX5_findUnmoved 47 1 (lv' := [(4, .inl (v4 + (1 : Int32))), (0, .inr (.inr (some v0))), (1, .inr (.inr v1)), (2, .inr (.inr v2)), (3, .inl v3)]) (st' := []) (pc' := 95) rfl ?_
      refine Wx.jump ok kX5_findUnmoved 48 (tgt := 28) rfl (by decide) ?_
      refine Wx.sub [1, 2, 3, 4, 0] rfl ?_
      exact hr _ _ _ _ _ _ h
set_option maxRecDepth 100000 in
set_option maxHeartbeats 4000000 in
theorem aX5_findUnmoved_l28 {X : gX} (ok : gOk X cX5_findUnmoved RX5 6 none rmX5_findUnmoved) {res : gW} (hres : gRs X none res) {F : Nat} (k98 : Nat → (Option Nat) → (Option Nat) → Int32 → gW → Option (gW)) (hk98 : ∀ (v0 : Nat) (v1 : Option Nat) (v2 : Option Nat) (v3 : Int32) (w : gW), k98 v0 v1 v2 v3 w = some res → Wx X w 0 0 98 [(0, .inr (.inr (some v0))), (1, .inr (.inr v1)), (2, .inr (.inr v2)), (3, .inl v3)] []) : ∀ (n : Nat) (v0 : Nat) (v1 : Option Nat) (v2 : Option Nat) (v3 : Int32) (v4 : Int32) (w : gW), mX5_findUnmoved_l28 F k98 n v0 v1 v2 v3 v4 w = some res → Wx X w 0 0 28 [(0, .inr (.inr (some v0))), (1, .inr (.inr v1)), (2, .inr (.inr v2)), (3, .inl v3), (4, .inl v4)] [] := by
  intro n
  induction n with
  | zero => intro v0 v1 v2 v3 v4 w h; cases (show (none : Option (gW)) = some res from h)
  | succ n ih =>
    intro v0 v1 v2 v3 v4 w h
    exact aX5_findUnmoved_h28 ok hres (F := F) (mX5_findUnmoved_l28 F k98 n) k98 ih hk98 v0 v1 v2 v3 v4 w h
set_option maxRecDepth 100000 in
set_option maxHeartbeats 4000000 in
theorem aX5_findUnmoved_h14 {X : gX} (ok : gOk X cX5_findUnmoved RX5 6 none rmX5_findUnmoved) {res : gW} (hres : gRs X none res) {F : Nat} (r : Nat → (Option Nat) → (Option Nat) → Int32 → gW → Option (gW)) (k104 : Nat → (Option Nat) → (Option Nat) → gW → Option (gW)) (hr : ∀ (v0 : Nat) (v1 : Option Nat) (v2 : Option Nat) (v3 : Int32) (w : gW), r v0 v1 v2 v3 w = some res → Wx X w 0 0 14 [(0, .inr (.inr (some v0))), (1, .inr (.inr v1)), (2, .inr (.inr v2)), (3, .inl v3)] []) (hk104 : ∀ (v0 : Nat) (v1 : Option Nat) (v2 : Option Nat) (w : gW), k104 v0 v1 v2 w = some res → Wx X w 0 0 104 [(0, .inr (.inr (some v0))), (1, .inr (.inr v1)), (2, .inr (.inr v2))] []) : ∀ (v0 : Nat) (v1 : Option Nat) (v2 : Option Nat) (v3 : Int32) (w : gW), mX5_findUnmoved_h14 F r k104 v0 v1 v2 v3 w = some res → Wx X w 0 0 14 [(0, .inr (.inr (some v0))), (1, .inr (.inr v1)), (2, .inr (.inr v2)), (3, .inl v3)] [] := by
  intro v0 v1 v2 v3 w h
  unfold mX5_findUnmoved_h14 at h
  refine Wx.run ok kX5_findUnmoved 8 2 (lv' := [(0, .inr (.inr (some v0))), (1, .inr (.inr v1)), (2, .inr (.inr v2)), (3, .inl v3)]) (st' := [.inr (.inr v1), .inl v3]) (pc' := 16) rfl ?_
  refine Wx.getR ok kX5_findUnmoved 10 rfl lk_RX5_52_0 h (fun t16 h => ?_)
  refine Wx.getI ok kX5_findUnmoved 11 rfl lk_RX5_56_0 h (fun t19 h => ?_)
  refine Wx.icmp_ge ok kX5_findUnmoved 12 (tgt := 104) rfl (by decide) h (fun hc22 h => ?_) (fun hc22 h => ?_)
  · refine Wx.sub [0, 1, 2] rfl ?_
    exact hk104 _ _ _ _ h
  · refine Wx.run ok kX5_findUnmoved 13 2 (lv' := [(4, .inl (0 : Int32)), (0, .inr (.inr (some v0))), (1, .inr (.inr v1)), (2, .inr (.inr v2)), (3, .inl v3)]) (st' := []) (pc' := 28) rfl ?_
    refine Wx.sub [1, 2, 3, 4, 0] rfl ?_
    refine aX5_findUnmoved_l28 ok hres (F := F) _ ?_ F _ _ _ _ _ _ h
    · intro v0 v1 v2 v3 w h
      refine Wx.run ok kX5_findUnmoved 49 1 (lv' := [(3, .inl (v3 + (1 : Int32))), (0, .inr (.inr (some v0))), (1, .inr (.inr v1)), (2, .inr (.inr v2))]) (st' := []) (pc' := 101) rfl ?_
      refine Wx.jump ok kX5_findUnmoved 50 (tgt := 14) rfl (by decide) ?_
      refine Wx.sub [1, 2, 3, 0] rfl ?_
      exact hr _ _ _ _ _ h
set_option maxRecDepth 100000 in
set_option maxHeartbeats 4000000 in
theorem aX5_findUnmoved_l14 {X : gX} (ok : gOk X cX5_findUnmoved RX5 6 none rmX5_findUnmoved) {res : gW} (hres : gRs X none res) {F : Nat} (k104 : Nat → (Option Nat) → (Option Nat) → gW → Option (gW)) (hk104 : ∀ (v0 : Nat) (v1 : Option Nat) (v2 : Option Nat) (w : gW), k104 v0 v1 v2 w = some res → Wx X w 0 0 104 [(0, .inr (.inr (some v0))), (1, .inr (.inr v1)), (2, .inr (.inr v2))] []) : ∀ (n : Nat) (v0 : Nat) (v1 : Option Nat) (v2 : Option Nat) (v3 : Int32) (w : gW), mX5_findUnmoved_l14 F k104 n v0 v1 v2 v3 w = some res → Wx X w 0 0 14 [(0, .inr (.inr (some v0))), (1, .inr (.inr v1)), (2, .inr (.inr v2)), (3, .inl v3)] [] := by
  intro n
  induction n with
  | zero => intro v0 v1 v2 v3 w h; cases (show (none : Option (gW)) = some res from h)
  | succ n ih =>
    intro v0 v1 v2 v3 w h
    exact aX5_findUnmoved_h14 ok hres (F := F) (mX5_findUnmoved_l14 F k104 n) k104 ih hk104 v0 v1 v2 v3 w h
set_option maxRecDepth 100000 in
set_option maxHeartbeats 4000000 in
theorem aX5_findUnmoved (l : Launch) (G : gG) {F : Nat} {v0 : Nat} {v1 : Option Nat} {v2 : Option Nat} {w : gW} {res : gW} (h : mX5_findUnmoved F v0 v1 v2 w = some res) : gM l yX5_findUnmoved cX5_findUnmoved 6 none rmX5_findUnmoved G w (gTs [.inr (.inr (some v0)), .inr (.inr v1), .inr (.inr v2)]) none res := by
  refine gM_of (y := yX5_findUnmoved) (by decide +kernel) (Nat.le_of_ble_eq_true rfl) ?_
  intro X ok hl hG hres hnm
  subst hl; subst hG
  unfold mX5_findUnmoved at h
  show Wx X w 0 0 0 [(0, .inr (.inr (some v0))), (1, .inr (.inr v1)), (2, .inr (.inr v2))] []
  refine Wx.run ok kX5_findUnmoved 0 2 (lv' := [(0, .inr (.inr (some v0))), (1, .inr (.inr v1)), (2, .inr (.inr v2))]) (st' := [.inr (.inr v1), .inr (.inr v2)]) (pc' := 2) rfl ?_
  refine Wx.getI ok kX5_findUnmoved 2 rfl lk_RX5_40_0 h (fun t2 h => ?_)
  refine Wx.run ok kX5_findUnmoved 3 1 (lv' := [(0, .inr (.inr (some v0))), (1, .inr (.inr v1)), (2, .inr (.inr v2))]) (st' := [.inr (.inr v1), .inl t2, .inr (.inr v2)]) (pc' := 6) rfl ?_
  refine Wx.getI ok kX5_findUnmoved 4 rfl lk_RX5_45_0 h (fun t6 h => ?_)
  obtain ⟨a9, ha9, h⟩ := gob h
  obtain ⟨q9, hq9, h⟩ := gob h
  refine Wx.callV ok kX5_findUnmoved 5 rfl lm_RX5_48 cd_X1_begin ha9 [.inl t2, .inl t6] none (aX1_begin _ _ hq9) (by decide) rfl (Nat.le_of_ble_eq_true rfl) rfl rfl ?_
  refine Wx.run ok kX5_findUnmoved 6 2 (lv' := [(3, .inl (0 : Int32)), (0, .inr (.inr (some v0))), (1, .inr (.inr v1)), (2, .inr (.inr v2))]) (st' := []) (pc' := 14) rfl ?_
  refine Wx.sub [1, 2, 3, 0] rfl ?_
  refine aX5_findUnmoved_l14 ok hres (F := F) _ ?_ F _ _ _ _ _ h
  · intro v0 v1 v2 w h
    refine Wx.run ok kX5_findUnmoved 51 2 (lv' := [(0, .inr (.inr (some v0))), (1, .inr (.inr v1)), (2, .inr (.inr v2))]) (st' := [.inr (.inr v2), .inr (.inr (some v0))]) (pc' := 106) rfl ?_
    refine Wx.getI ok kX5_findUnmoved 53 rfl lk_RX5_34_0 h (fun t106 h => ?_)
    refine Wx.put ok kX5_findUnmoved 54 rfl lk_RX5_37_1 (gFit_i _) h (fun w109 h => ?_)
    refine Wx.run ok kX5_findUnmoved 55 2 (lv' := [(0, .inr (.inr (some v0))), (1, .inr (.inr v1)), (2, .inr (.inr v2))]) (st' := [.inr (.inr v1), .inr (.inr (some v0))]) (pc' := 114) rfl ?_
    refine Wx.getI ok kX5_findUnmoved 57 rfl lk_RX5_40_0 h (fun t114 h => ?_)
    refine Wx.run ok kX5_findUnmoved 58 1 (lv' := [(0, .inr (.inr (some v0))), (1, .inr (.inr v1)), (2, .inr (.inr v2))]) (st' := [.inr (.inr (some v0)), .inl t114, .inr (.inr (some v0))]) (pc' := 118) rfl ?_
    refine Wx.getI ok kX5_findUnmoved 59 rfl lk_RX5_37_0 h (fun t118 h => ?_)
    refine Wx.run ok kX5_findUnmoved 60 1 (lv' := [(0, .inr (.inr (some v0))), (1, .inr (.inr v1)), (2, .inr (.inr v2))]) (st' := [.inl (t114 - t118), .inr (.inr (some v0))]) (pc' := 122) rfl ?_
    refine Wx.put ok kX5_findUnmoved 61 rfl lk_RX5_27_1 (gFit_i _) h (fun w122 h => ?_)
    exact Wx.vreturn ok kX5_findUnmoved 62 rfl hres h (by decide)
set_option maxRecDepth 100000 in
set_option maxHeartbeats 4000000 in
theorem aX6_cyclic (l : Launch) (G : gG) {F : Nat} {v0 : Nat} {v1 : Int32} {w : gW} {res : Int32 × gW} (h : mX6_cyclic F v0 v1 w = some res) : gM l yX6_cyclic cX6_cyclic 3 (some .int) rmX6_cyclic G w (gTs [.inr (.inr (some v0)), .inl v1]) (some (.int res.1)) res.2 := by
  refine gM_of (y := yX6_cyclic) (by decide +kernel) (Nat.le_of_ble_eq_true rfl) ?_
  intro X ok hl hG hres hnm
  subst hl; subst hG
  unfold mX6_cyclic at h
  show Wx X w 0 0 0 [(0, .inr (.inr (some v0))), (1, .inl v1)] []
  refine Wx.run ok kX6_cyclic 0 2 (lv' := [(0, .inr (.inr (some v0))), (1, .inl v1)]) (st' := [.inl (1 : Int32), .inl v1]) (pc' := 2) rfl ?_
  refine Wx.icmp_lt ok kX6_cyclic 2 (tgt := 11) rfl (by decide) h (fun hc2 h => ?_) (fun hc2 h => ?_)
  · refine Wx.run ok kX6_cyclic 6 1 (lv' := [(0, .inr (.inr (some v0))), (1, .inl v1)]) (st' := [.inl (-1 : Int32)]) (pc' := 12) rfl ?_
    exact Wx.ireturn ok kX6_cyclic 7 rfl hres h (by decide)
  · refine Wx.run ok kX6_cyclic 3 2 (lv' := [(0, .inr (.inr (some v0))), (1, .inl v1)]) (st' := [.inl (48 : Int32), .inl v1]) (pc' := 8) rfl ?_
    refine Wx.icmp_le ok kX6_cyclic 5 (tgt := 13) rfl (by decide) h (fun hc8 h => ?_) (fun hc8 h => ?_)
    · refine Wx.run ok kX6_cyclic 8 1 (lv' := [(0, .inr (.inr (some v0))), (1, .inl v1)]) (st' := [.inr (.inr (some v0))]) (pc' := 14) rfl ?_
      obtain ⟨a14, ha14, h⟩ := gob h
      obtain ⟨q14, hq14, h⟩ := gob h
      refine Wx.callV ok kX6_cyclic 9 rfl lm_RX6_28 cd_X6_spareGroup ha14 [] (some (.inr (.inr q14.1))) (aX6_spareGroup _ _ hq14) (by decide) rfl (Nat.le_of_ble_eq_true rfl) rfl rfl ?_
      refine Wx.run ok kX6_cyclic 10 2 (lv' := [(2, .inr (.inr q14.1)), (0, .inr (.inr (some v0))), (1, .inl v1)]) (st' := [.inr (.inr q14.1)]) (pc' := 19) rfl ?_
      refine Wx.ifnonnull ok kX6_cyclic 12 (tgt := 25) rfl (by decide) h (fun hc19 h => ?_) (fun hc19 h => ?_)
      · refine Wx.run ok kX6_cyclic 13 1 (lv' := [(2, .inr (.inr q14.1)), (0, .inr (.inr (some v0))), (1, .inl v1)]) (st' := [.inl (-3 : Int32)]) (pc' := 24) rfl ?_
        exact Wx.ireturn ok kX6_cyclic 14 rfl hres h (by decide)
      · refine Wx.run ok kX6_cyclic 15 2 (lv' := [(2, .inr (.inr q14.1)), (0, .inr (.inr (some v0))), (1, .inl v1)]) (st' := [.inl v1, .inr (.inr q14.1)]) (pc' := 27) rfl ?_
        obtain ⟨a27, ha27, h⟩ := gob h
        obtain ⟨q27, hq27, h⟩ := gob h
        refine Wx.callV ok kX6_cyclic 17 rfl lm_RX6_32 cd_X2_fillTurns ha27 [.inl v1] none (aX2_fillTurns _ _ hq27) (by decide) rfl (Nat.le_of_ble_eq_true rfl) rfl rfl ?_
        refine Wx.run ok kX6_cyclic 18 2 (lv' := [(2, .inr (.inr q14.1)), (0, .inr (.inr (some v0))), (1, .inl v1)]) (st' := [.inr (.inr q14.1), .inr (.inr (some v0))]) (pc' := 32) rfl ?_
        obtain ⟨a32, ha32, h⟩ := gob h
        obtain ⟨q32, hq32, h⟩ := gob h
        refine Wx.callV ok kX6_cyclic 20 rfl lm_RX6_36 cd_X6_keep ha32 [.inr (.inr q14.1)] (some (.inl q32.1)) (aX6_keep _ _ hq32) (by decide) rfl (Nat.le_of_ble_eq_true rfl) rfl rfl ?_
        exact Wx.ireturn ok kX6_cyclic 21 rfl hres h (by decide)
    · refine Wx.run ok kX6_cyclic 6 1 (lv' := [(0, .inr (.inr (some v0))), (1, .inl v1)]) (st' := [.inl (-1 : Int32)]) (pc' := 12) rfl ?_
      exact Wx.ireturn ok kX6_cyclic 7 rfl hres h (by decide)
set_option maxRecDepth 100000 in
set_option maxHeartbeats 4000000 in
theorem aX6_dihedral (l : Launch) (G : gG) {F : Nat} {v0 : Nat} {v1 : Int32} {w : gW} {res : Int32 × gW} (h : mX6_dihedral F v0 v1 w = some res) : gM l yX6_dihedral cX6_dihedral 3 (some .int) rmX6_dihedral G w (gTs [.inr (.inr (some v0)), .inl v1]) (some (.int res.1)) res.2 := by
  refine gM_of (y := yX6_dihedral) (by decide +kernel) (Nat.le_of_ble_eq_true rfl) ?_
  intro X ok hl hG hres hnm
  subst hl; subst hG
  unfold mX6_dihedral at h
  show Wx X w 0 0 0 [(0, .inr (.inr (some v0))), (1, .inl v1)] []
  refine Wx.run ok kX6_dihedral 0 2 (lv' := [(0, .inr (.inr (some v0))), (1, .inl v1)]) (st' := [.inl (1 : Int32), .inl v1]) (pc' := 2) rfl ?_
  refine Wx.icmp_lt ok kX6_dihedral 2 (tgt := 11) rfl (by decide) h (fun hc2 h => ?_) (fun hc2 h => ?_)
  · refine Wx.run ok kX6_dihedral 6 1 (lv' := [(0, .inr (.inr (some v0))), (1, .inl v1)]) (st' := [.inl (-1 : Int32)]) (pc' := 12) rfl ?_
    exact Wx.ireturn ok kX6_dihedral 7 rfl hres h (by decide)
  · refine Wx.run ok kX6_dihedral 3 2 (lv' := [(0, .inr (.inr (some v0))), (1, .inl v1)]) (st' := [.inl (24 : Int32), .inl v1]) (pc' := 8) rfl ?_
    refine Wx.icmp_le ok kX6_dihedral 5 (tgt := 13) rfl (by decide) h (fun hc8 h => ?_) (fun hc8 h => ?_)
    · refine Wx.run ok kX6_dihedral 8 1 (lv' := [(0, .inr (.inr (some v0))), (1, .inl v1)]) (st' := [.inr (.inr (some v0))]) (pc' := 14) rfl ?_
      obtain ⟨a14, ha14, h⟩ := gob h
      obtain ⟨q14, hq14, h⟩ := gob h
      refine Wx.callV ok kX6_dihedral 9 rfl lm_RX6_28 cd_X6_spareGroup ha14 [] (some (.inr (.inr q14.1))) (aX6_spareGroup _ _ hq14) (by decide) rfl (Nat.le_of_ble_eq_true rfl) rfl rfl ?_
      refine Wx.run ok kX6_dihedral 10 2 (lv' := [(2, .inr (.inr q14.1)), (0, .inr (.inr (some v0))), (1, .inl v1)]) (st' := [.inr (.inr q14.1)]) (pc' := 19) rfl ?_
      refine Wx.ifnonnull ok kX6_dihedral 12 (tgt := 25) rfl (by decide) h (fun hc19 h => ?_) (fun hc19 h => ?_)
      · refine Wx.run ok kX6_dihedral 13 1 (lv' := [(2, .inr (.inr q14.1)), (0, .inr (.inr (some v0))), (1, .inl v1)]) (st' := [.inl (-3 : Int32)]) (pc' := 24) rfl ?_
        exact Wx.ireturn ok kX6_dihedral 14 rfl hres h (by decide)
      · refine Wx.run ok kX6_dihedral 15 2 (lv' := [(2, .inr (.inr q14.1)), (0, .inr (.inr (some v0))), (1, .inl v1)]) (st' := [.inl v1, .inr (.inr q14.1)]) (pc' := 27) rfl ?_
        obtain ⟨a27, ha27, h⟩ := gob h
        obtain ⟨q27, hq27, h⟩ := gob h
        refine Wx.callV ok kX6_dihedral 17 rfl lm_RX6_40 cd_X2_fillTurnsAndFlips ha27 [.inl v1] none (aX2_fillTurnsAndFlips _ _ hq27) (by decide) rfl (Nat.le_of_ble_eq_true rfl) rfl rfl ?_
        refine Wx.run ok kX6_dihedral 18 2 (lv' := [(2, .inr (.inr q14.1)), (0, .inr (.inr (some v0))), (1, .inl v1)]) (st' := [.inr (.inr q14.1), .inr (.inr (some v0))]) (pc' := 32) rfl ?_
        obtain ⟨a32, ha32, h⟩ := gob h
        obtain ⟨q32, hq32, h⟩ := gob h
        refine Wx.callV ok kX6_dihedral 20 rfl lm_RX6_36 cd_X6_keep ha32 [.inr (.inr q14.1)] (some (.inl q32.1)) (aX6_keep _ _ hq32) (by decide) rfl (Nat.le_of_ble_eq_true rfl) rfl rfl ?_
        exact Wx.ireturn ok kX6_dihedral 21 rfl hres h (by decide)
    · refine Wx.run ok kX6_dihedral 6 1 (lv' := [(0, .inr (.inr (some v0))), (1, .inl v1)]) (st' := [.inl (-1 : Int32)]) (pc' := 12) rfl ?_
      exact Wx.ireturn ok kX6_dihedral 7 rfl hres h (by decide)
set_option maxRecDepth 100000 in
set_option maxHeartbeats 4000000 in
theorem aX6_module_b91 {X : gX} (ok : gOk X cX6_module RX6 5 (some .int) rmX6_module) {res : Int32 × gW} (hres : gRs X (some (.int res.1)) res.2) {F : Nat} : ∀ (v0 : Nat) (v2 : Int32) (v3 : Int32) (v4 : Option Nat) (w : gW), mX6_module_b91 F v0 v2 v3 v4 w = some res → Wx X w 12 2926 91 [(0, .inr (.inr (some v0))), (2, .inl v2), (3, .inl v3), (4, .inr (.inr v4))] [] := by
  intro v0 v2 v3 v4 w h
  unfold mX6_module_b91 at h
  refine Wx.run ok kX6_module 49 1 (lv' := [(0, .inr (.inr (some v0))), (2, .inl v2), (3, .inl v3), (4, .inr (.inr v4))]) (st' := [.inr (.inr (some v0))]) (pc' := 92) rfl ?_
  refine Wx.getR ok kX6_module 50 rfl lk_RX6_17_0 h (fun t92 h => ?_)
  refine Wx.run ok kX6_module 51 1 (lv' := [(0, .inr (.inr (some v0))), (2, .inl v2), (3, .inl v3), (4, .inr (.inr v4))]) (st' := [.inr (.inr (some v0)), .inr (.inr t92)]) (pc' := 96) rfl ?_
  refine Wx.getI ok kX6_module 52 rfl lk_RX6_90_0 h (fun t96 h => ?_)
  refine Wx.aald ok kX6_module 53 rfl (ci := 0) (by decide) h (fun t99 h => ?_)
  refine Wx.run ok kX6_module 54 3 (lv' := [(0, .inr (.inr (some v0))), (2, .inl v2), (3, .inl v3), (4, .inr (.inr v4))]) (st' := [.inl v3, .inl v2, .inr (.inr v4), .inr (.inr t99)]) (pc' := 104) rfl ?_
  obtain ⟨a104, ha104, h⟩ := gob h
  obtain ⟨q104, hq104, h⟩ := gob h
  refine Wx.callV ok kX6_module 57 rfl lm_RX6_148 cd_X0_begin ha104 [.inr (.inr v4), .inl v2, .inl v3] none (aX0_begin _ _ hq104) (by decide) rfl (Nat.le_of_ble_eq_true rfl) rfl rfl ?_
  refine Wx.run ok kX6_module 58 2 (lv' := [(0, .inr (.inr (some v0))), (2, .inl v2), (3, .inl v3), (4, .inr (.inr v4))]) (st' := [.inr (.inr (some v0)), .inr (.inr (some v0))]) (pc' := 109) rfl ?_
  refine Wx.getI ok kX6_module 60 rfl lk_RX6_90_0 h (fun t109 h => ?_)
  refine Wx.run ok kX6_module 61 3 (lv' := [(0, .inr (.inr (some v0))), (2, .inl v2), (3, .inl v3), (4, .inr (.inr v4))]) (st' := [.inl (t109 + (1 : Int32)), .inr (.inr (some v0)), .inl t109]) (pc' := 115) rfl ?_
  refine Wx.put ok kX6_module 64 rfl lk_RX6_90_1 (gFit_i _) h (fun w115 h => ?_)
  exact Wx.ireturn ok kX6_module 65 rfl hres h (by decide)
set_option maxRecDepth 100000 in
set_option maxHeartbeats 4000000 in
theorem aX6_module_b39 {X : gX} (ok : gOk X cX6_module RX6 5 (some .int) rmX6_module) {res : Int32 × gW} (hres : gRs X (some (.int res.1)) res.2) {F : Nat} : ∀ (v0 : Nat) (v2 : Int32) (v3 : Int32) (v4 : Option Nat) (w : gW), mX6_module_b39 F v0 v2 v3 v4 w = some res → Wx X w 0 0 39 [(0, .inr (.inr (some v0))), (2, .inl v2), (3, .inl v3), (4, .inr (.inr v4))] [] := by
  intro v0 v2 v3 v4 w h
  unfold mX6_module_b39 at h
  refine Wx.run ok kX6_module 21 2 (lv' := [(0, .inr (.inr (some v0))), (2, .inl v2), (3, .inl v3), (4, .inr (.inr v4))]) (st' := [.inl (1 : Int32), .inl v3]) (pc' := 41) rfl ?_
  refine Wx.icmp_lt ok kX6_module 23 (tgt := 49) rfl (by decide) h (fun hc41 h => ?_) (fun hc41 h => ?_)
  · refine Wx.run ok kX6_module 27 1 (lv' := [(0, .inr (.inr (some v0))), (2, .inl v2), (3, .inl v3), (4, .inr (.inr v4))]) (st' := [.inl (-1 : Int32)]) (pc' := 50) rfl ?_
    exact Wx.ireturn ok kX6_module 28 rfl hres h (by decide)
  · refine Wx.run ok kX6_module 24 2 (lv' := [(0, .inr (.inr (some v0))), (2, .inl v2), (3, .inl v3), (4, .inr (.inr v4))]) (st' := [.inl (2 : Int32), .inl v3]) (pc' := 46) rfl ?_
    refine Wx.icmp_le ok kX6_module 26 (tgt := 51) rfl (by decide) h (fun hc46 h => ?_) (fun hc46 h => ?_)
    · refine Wx.run ok kX6_module 29 1 (lv' := [(0, .inr (.inr (some v0))), (2, .inl v2), (3, .inl v3), (4, .inr (.inr v4))]) (st' := [.inr (.inr (some v0))]) (pc' := 52) rfl ?_
      refine Wx.getI ok kX6_module 30 rfl lk_RX6_90_0 h (fun t52 h => ?_)
      refine Wx.run ok kX6_module 31 1 (lv' := [(0, .inr (.inr (some v0))), (2, .inl v2), (3, .inl v3), (4, .inr (.inr v4))]) (st' := [.inl (6 : Int32), .inl t52]) (pc' := 57) rfl ?_
      refine Wx.icmp_lt ok kX6_module 32 (tgt := 63) rfl (by decide) h (fun hc57 h => ?_) (fun hc57 h => ?_)
      · refine Wx.run ok kX6_module 35 1 (lv' := [(0, .inr (.inr (some v0))), (2, .inl v2), (3, .inl v3), (4, .inr (.inr v4))]) (st' := [.inr (.inr (some v0))]) (pc' := 64) rfl ?_
        refine Wx.getR ok kX6_module 36 rfl lk_RX6_17_0 h (fun t64 h => ?_)
        refine Wx.run ok kX6_module 37 1 (lv' := [(0, .inr (.inr (some v0))), (2, .inl v2), (3, .inl v3), (4, .inr (.inr v4))]) (st' := [.inr (.inr (some v0)), .inr (.inr t64)]) (pc' := 68) rfl ?_
        refine Wx.getI ok kX6_module 38 rfl lk_RX6_90_0 h (fun t68 h => ?_)
        refine Wx.aald ok kX6_module 39 rfl (ci := 0) (by decide) h (fun t71 h => ?_)
        refine Wx.ifnonnull ok kX6_module 40 (tgt := 91) rfl (by decide) h (fun hc72 h => ?_) (fun hc72 h => ?_)
        · refine Wx.run ok kX6_module 41 1 (lv' := [(0, .inr (.inr (some v0))), (2, .inl v2), (3, .inl v3), (4, .inr (.inr v4))]) (st' := [.inr (.inr (some v0))]) (pc' := 76) rfl ?_
          refine Wx.getR ok kX6_module 42 rfl lk_RX6_17_0 h (fun t76 h => ?_)
          refine Wx.run ok kX6_module 43 1 (lv' := [(0, .inr (.inr (some v0))), (2, .inl v2), (3, .inl v3), (4, .inr (.inr v4))]) (st' := [.inr (.inr (some v0)), .inr (.inr t76)]) (pc' := 80) rfl ?_
          refine Wx.getI ok kX6_module 44 rfl lk_RX6_90_0 h (fun t80 h => ?_)
          refine Wx.new ok kX6_module 45 rfl nw_RX6_15 (by decide) ?_
          refine Wx.run ok kX6_module 46 1 (lv' := [(0, .inr (.inr (some v0))), (2, .inl v2), (3, .inl v3), (4, .inr (.inr v4))]) (st' := [.inr (.inr (some w.2)), .inr (.inr (some w.2)), .inl t80, .inr (.inr t76)]) (pc' := 87) rfl ?_
          obtain ⟨q87, hq87, h⟩ := gob h
          refine Wx.callIN ok kX6_module 47 rfl lm_RX6_147 cd_X0_init [] (aX0_init _ _ hq87) (by decide) rfl (Nat.le_of_ble_eq_true rfl) rfl ?_
          refine Wx.aast ok kX6_module 48 rfl (ci := 0) (by decide) h (fun w90 h => ?_)
          exact aX6_module_b91 ok hres (F := F) _ _ _ _ _ h
        · refine Wx.widen (k := 12) (n := 2926) (by decide) (by decide) ?_
          exact aX6_module_b91 ok hres (F := F) _ _ _ _ _ h
      · refine Wx.run ok kX6_module 33 1 (lv' := [(0, .inr (.inr (some v0))), (2, .inl v2), (3, .inl v3), (4, .inr (.inr v4))]) (st' := [.inl (-3 : Int32)]) (pc' := 62) rfl ?_
        exact Wx.ireturn ok kX6_module 34 rfl hres h (by decide)
    · refine Wx.run ok kX6_module 27 1 (lv' := [(0, .inr (.inr (some v0))), (2, .inl v2), (3, .inl v3), (4, .inr (.inr v4))]) (st' := [.inl (-1 : Int32)]) (pc' := 50) rfl ?_
      exact Wx.ireturn ok kX6_module 28 rfl hres h (by decide)
set_option maxRecDepth 100000 in
set_option maxHeartbeats 4000000 in
theorem aX6_module (l : Launch) (G : gG) {F : Nat} {v0 : Nat} {v1 : Int32} {v2 : Int32} {v3 : Int32} {w : gW} {res : Int32 × gW} (h : mX6_module F v0 v1 v2 v3 w = some res) : gM l yX6_module cX6_module 5 (some .int) rmX6_module G w (gTs [.inr (.inr (some v0)), .inl v1, .inl v2, .inl v3]) (some (.int res.1)) res.2 := by
  refine gM_of (y := yX6_module) (by decide +kernel) (Nat.le_of_ble_eq_true rfl) ?_
  intro X ok hl hG hres hnm
  subst hl; subst hG
  unfold mX6_module at h
  show Wx X w 0 0 0 [(0, .inr (.inr (some v0))), (1, .inl v1), (2, .inl v2), (3, .inl v3)] []
  refine Wx.run ok kX6_module 0 2 (lv' := [(0, .inr (.inr (some v0))), (1, .inl v1), (2, .inl v2), (3, .inl v3)]) (st' := [.inl v1, .inr (.inr (some v0))]) (pc' := 2) rfl ?_
  obtain ⟨a2, ha2, h⟩ := gob h
  obtain ⟨q2, hq2, h⟩ := gob h
  refine Wx.callV ok kX6_module 2 rfl lm_RX6_46 cd_X6_groupAt ha2 [.inl v1] (some (.inr (.inr q2.1))) (aX6_groupAt _ _ hq2) (by decide) rfl (Nat.le_of_ble_eq_true rfl) rfl rfl ?_
  refine Wx.run ok kX6_module 3 2 (lv' := [(4, .inr (.inr q2.1)), (0, .inr (.inr (some v0))), (1, .inl v1), (2, .inl v2), (3, .inl v3)]) (st' := [.inr (.inr q2.1)]) (pc' := 9) rfl ?_
  refine Wx.ifnull ok kX6_module 5 (tgt := 22) rfl (by decide) h (fun hc9 h => ?_) (fun hc9 h => ?_)
  · refine Wx.run ok kX6_module 10 1 (lv' := [(4, .inr (.inr q2.1)), (0, .inr (.inr (some v0))), (1, .inl v1), (2, .inl v2), (3, .inl v3)]) (st' := [.inl (-1 : Int32)]) (pc' := 23) rfl ?_
    exact Wx.ireturn ok kX6_module 11 rfl hres h (by decide)
  · refine Wx.run ok kX6_module 6 1 (lv' := [(4, .inr (.inr q2.1)), (0, .inr (.inr (some v0))), (1, .inl v1), (2, .inl v2), (3, .inl v3)]) (st' := [.inr (.inr q2.1)]) (pc' := 14) rfl ?_
    refine Wx.getI ok kX6_module 7 rfl lk_RX6_50_0 h (fun t14 h => ?_)
    refine Wx.run ok kX6_module 8 1 (lv' := [(4, .inr (.inr q2.1)), (0, .inr (.inr (some v0))), (1, .inl v1), (2, .inl v2), (3, .inl v3)]) (st' := [.inl (8 : Int32), .inl t14]) (pc' := 19) rfl ?_
    refine Wx.icmp_le ok kX6_module 9 (tgt := 24) rfl (by decide) h (fun hc19 h => ?_) (fun hc19 h => ?_)
    · refine Wx.run ok kX6_module 12 2 (lv' := [(4, .inr (.inr q2.1)), (0, .inr (.inr (some v0))), (1, .inl v1), (2, .inl v2), (3, .inl v3)]) (st' := [.inl (2 : Int32), .inl v2]) (pc' := 26) rfl ?_
      refine Wx.icmp_eq ok kX6_module 14 (tgt := 39) rfl (by decide) h (fun hc26 h => ?_) (fun hc26 h => ?_)
      · refine Wx.sub [1, 3, 4, 0] rfl ?_
        exact aX6_module_b39 ok hres (F := F) _ _ _ _ _ h
      · refine Wx.run ok kX6_module 15 2 (lv' := [(4, .inr (.inr q2.1)), (0, .inr (.inr (some v0))), (1, .inl v1), (2, .inl v2), (3, .inl v3)]) (st' := [.inl (3 : Int32), .inl v2]) (pc' := 31) rfl ?_
        refine Wx.icmp_eq ok kX6_module 17 (tgt := 39) rfl (by decide) h (fun hc31 h => ?_) (fun hc31 h => ?_)
        · refine Wx.sub [1, 3, 4, 0] rfl ?_
          exact aX6_module_b39 ok hres (F := F) _ _ _ _ _ h
        · refine Wx.run ok kX6_module 18 2 (lv' := [(4, .inr (.inr q2.1)), (0, .inr (.inr (some v0))), (1, .inl v1), (2, .inl v2), (3, .inl v3)]) (st' := [.inl (5 : Int32), .inl v2]) (pc' := 36) rfl ?_
          refine Wx.icmp_ne ok kX6_module 20 (tgt := 49) rfl (by decide) h (fun hc36 h => ?_) (fun hc36 h => ?_)
          · refine Wx.sub [1, 3, 4, 0] rfl ?_
            exact aX6_module_b39 ok hres (F := F) _ _ _ _ _ h
          · refine Wx.run ok kX6_module 27 1 (lv' := [(4, .inr (.inr q2.1)), (0, .inr (.inr (some v0))), (1, .inl v1), (2, .inl v2), (3, .inl v3)]) (st' := [.inl (-1 : Int32)]) (pc' := 50) rfl ?_
            exact Wx.ireturn ok kX6_module 28 rfl hres h (by decide)
    · refine Wx.run ok kX6_module 10 1 (lv' := [(4, .inr (.inr q2.1)), (0, .inr (.inr (some v0))), (1, .inl v1), (2, .inl v2), (3, .inl v3)]) (st' := [.inl (-1 : Int32)]) (pc' := 23) rfl ?_
      exact Wx.ireturn ok kX6_module 11 rfl hres h (by decide)
set_option maxRecDepth 100000 in
set_option maxHeartbeats 4000000 in
theorem aX6_pair (l : Launch) (G : gG) {F : Nat} {v0 : Nat} {v1 : Int32} {v2 : Int32} {w : gW} {res : Int32 × gW} (h : mX6_pair F v0 v1 v2 w = some res) : gM l yX6_pair cX6_pair 6 (some .int) rmX6_pair G w (gTs [.inr (.inr (some v0)), .inl v1, .inl v2]) (some (.int res.1)) res.2 := by
  refine gM_of (y := yX6_pair) (by decide +kernel) (Nat.le_of_ble_eq_true rfl) ?_
  intro X ok hl hG hres hnm
  subst hl; subst hG
  unfold mX6_pair at h
  show Wx X w 0 0 0 [(0, .inr (.inr (some v0))), (1, .inl v1), (2, .inl v2)] []
  refine Wx.run ok kX6_pair 0 2 (lv' := [(0, .inr (.inr (some v0))), (1, .inl v1), (2, .inl v2)]) (st' := [.inl v1, .inr (.inr (some v0))]) (pc' := 2) rfl ?_
  obtain ⟨a2, ha2, h⟩ := gob h
  obtain ⟨q2, hq2, h⟩ := gob h
  refine Wx.callV ok kX6_pair 2 rfl lm_RX6_46 cd_X6_groupAt ha2 [.inl v1] (some (.inr (.inr q2.1))) (aX6_groupAt _ _ hq2) (by decide) rfl (Nat.le_of_ble_eq_true rfl) rfl rfl ?_
  refine Wx.run ok kX6_pair 3 3 (lv' := [(3, .inr (.inr q2.1)), (0, .inr (.inr (some v0))), (1, .inl v1), (2, .inl v2)]) (st' := [.inl v2, .inr (.inr (some v0))]) (pc' := 8) rfl ?_
  obtain ⟨a8, ha8, h⟩ := gob h
  obtain ⟨q8, hq8, h⟩ := gob h
  refine Wx.callV ok kX6_pair 6 rfl lm_RX6_46 cd_X6_groupAt ha8 [.inl v2] (some (.inr (.inr q8.1))) (aX6_groupAt _ _ hq8) (by decide) rfl (Nat.le_of_ble_eq_true rfl) rfl rfl ?_
  refine Wx.run ok kX6_pair 7 2 (lv' := [(4, .inr (.inr q8.1)), (3, .inr (.inr q2.1)), (0, .inr (.inr (some v0))), (1, .inl v1), (2, .inl v2)]) (st' := [.inr (.inr q2.1)]) (pc' := 14) rfl ?_
  refine Wx.ifnull ok kX6_pair 9 (tgt := 22) rfl (by decide) h (fun hc14 h => ?_) (fun hc14 h => ?_)
  · refine Wx.run ok kX6_pair 12 1 (lv' := [(4, .inr (.inr q8.1)), (3, .inr (.inr q2.1)), (0, .inr (.inr (some v0))), (1, .inl v1), (2, .inl v2)]) (st' := [.inl (-1 : Int32)]) (pc' := 23) rfl ?_
    exact Wx.ireturn ok kX6_pair 13 rfl hres h (by decide)
  · refine Wx.run ok kX6_pair 10 1 (lv' := [(4, .inr (.inr q8.1)), (3, .inr (.inr q2.1)), (0, .inr (.inr (some v0))), (1, .inl v1), (2, .inl v2)]) (st' := [.inr (.inr q8.1)]) (pc' := 19) rfl ?_
    refine Wx.ifnonnull ok kX6_pair 11 (tgt := 24) rfl (by decide) h (fun hc19 h => ?_) (fun hc19 h => ?_)
    · refine Wx.run ok kX6_pair 12 1 (lv' := [(4, .inr (.inr q8.1)), (3, .inr (.inr q2.1)), (0, .inr (.inr (some v0))), (1, .inl v1), (2, .inl v2)]) (st' := [.inl (-1 : Int32)]) (pc' := 23) rfl ?_
      exact Wx.ireturn ok kX6_pair 13 rfl hres h (by decide)
    · refine Wx.run ok kX6_pair 14 1 (lv' := [(4, .inr (.inr q8.1)), (3, .inr (.inr q2.1)), (0, .inr (.inr (some v0))), (1, .inl v1), (2, .inl v2)]) (st' := [.inr (.inr q2.1)]) (pc' := 25) rfl ?_
      refine Wx.getI ok kX6_pair 15 rfl lk_RX6_50_0 h (fun t25 h => ?_)
      refine Wx.run ok kX6_pair 16 1 (lv' := [(4, .inr (.inr q8.1)), (3, .inr (.inr q2.1)), (0, .inr (.inr (some v0))), (1, .inl v1), (2, .inl v2)]) (st' := [.inr (.inr q8.1), .inl t25]) (pc' := 30) rfl ?_
      refine Wx.getI ok kX6_pair 17 rfl lk_RX6_50_0 h (fun t30 h => ?_)
      refine Wx.run ok kX6_pair 18 2 (lv' := [(4, .inr (.inr q8.1)), (3, .inr (.inr q2.1)), (0, .inr (.inr (some v0))), (1, .inl v1), (2, .inl v2)]) (st' := [.inl (48 : Int32), .inl (t25 * t30)]) (pc' := 36) rfl ?_
      refine Wx.icmp_le ok kX6_pair 20 (tgt := 42) rfl (by decide) h (fun hc36 h => ?_) (fun hc36 h => ?_)
      · refine Wx.run ok kX6_pair 23 1 (lv' := [(4, .inr (.inr q8.1)), (3, .inr (.inr q2.1)), (0, .inr (.inr (some v0))), (1, .inl v1), (2, .inl v2)]) (st' := [.inr (.inr (some v0))]) (pc' := 43) rfl ?_
        obtain ⟨a43, ha43, h⟩ := gob h
        obtain ⟨q43, hq43, h⟩ := gob h
        refine Wx.callV ok kX6_pair 24 rfl lm_RX6_28 cd_X6_spareGroup ha43 [] (some (.inr (.inr q43.1))) (aX6_spareGroup _ _ hq43) (by decide) rfl (Nat.le_of_ble_eq_true rfl) rfl rfl ?_
        refine Wx.run ok kX6_pair 25 2 (lv' := [(5, .inr (.inr q43.1)), (4, .inr (.inr q8.1)), (3, .inr (.inr q2.1)), (0, .inr (.inr (some v0))), (1, .inl v1), (2, .inl v2)]) (st' := [.inr (.inr q43.1)]) (pc' := 50) rfl ?_
        refine Wx.ifnonnull ok kX6_pair 27 (tgt := 56) rfl (by decide) h (fun hc50 h => ?_) (fun hc50 h => ?_)
        · refine Wx.run ok kX6_pair 28 1 (lv' := [(5, .inr (.inr q43.1)), (4, .inr (.inr q8.1)), (3, .inr (.inr q2.1)), (0, .inr (.inr (some v0))), (1, .inl v1), (2, .inl v2)]) (st' := [.inl (-3 : Int32)]) (pc' := 55) rfl ?_
          exact Wx.ireturn ok kX6_pair 29 rfl hres h (by decide)
        · refine Wx.run ok kX6_pair 30 3 (lv' := [(5, .inr (.inr q43.1)), (4, .inr (.inr q8.1)), (3, .inr (.inr q2.1)), (0, .inr (.inr (some v0))), (1, .inl v1), (2, .inl v2)]) (st' := [.inr (.inr q8.1), .inr (.inr q2.1), .inr (.inr q43.1)]) (pc' := 61) rfl ?_
          obtain ⟨a61, ha61, h⟩ := gob h
          obtain ⟨q61, hq61, h⟩ := gob h
          refine Wx.callV ok kX6_pair 33 rfl lm_RX6_54 cd_X2_fillPair ha61 [.inr (.inr q2.1), .inr (.inr q8.1)] none (aX2_fillPair _ _ hq61) (by decide) rfl (Nat.le_of_ble_eq_true rfl) rfl rfl ?_
          refine Wx.run ok kX6_pair 34 2 (lv' := [(5, .inr (.inr q43.1)), (4, .inr (.inr q8.1)), (3, .inr (.inr q2.1)), (0, .inr (.inr (some v0))), (1, .inl v1), (2, .inl v2)]) (st' := [.inr (.inr q43.1), .inr (.inr (some v0))]) (pc' := 67) rfl ?_
          obtain ⟨a67, ha67, h⟩ := gob h
          obtain ⟨q67, hq67, h⟩ := gob h
          refine Wx.callV ok kX6_pair 36 rfl lm_RX6_36 cd_X6_keep ha67 [.inr (.inr q43.1)] (some (.inl q67.1)) (aX6_keep _ _ hq67) (by decide) rfl (Nat.le_of_ble_eq_true rfl) rfl rfl ?_
          exact Wx.ireturn ok kX6_pair 37 rfl hres h (by decide)
      · refine Wx.run ok kX6_pair 21 1 (lv' := [(4, .inr (.inr q8.1)), (3, .inr (.inr q2.1)), (0, .inr (.inr (some v0))), (1, .inl v1), (2, .inl v2)]) (st' := [.inl (-3 : Int32)]) (pc' := 41) rfl ?_
        exact Wx.ireturn ok kX6_pair 22 rfl hres h (by decide)
set_option maxRecDepth 100000 in
set_option maxHeartbeats 4000000 in
theorem aX6_quaternions (l : Launch) (G : gG) {F : Nat} {v0 : Nat} {w : gW} {res : Int32 × gW} (h : mX6_quaternions F v0 w = some res) : gM l yX6_quaternions cX6_quaternions 2 (some .int) rmX6_quaternions G w (gTs [.inr (.inr (some v0))]) (some (.int res.1)) res.2 := by
  refine gM_of (y := yX6_quaternions) (by decide +kernel) (Nat.le_of_ble_eq_true rfl) ?_
  intro X ok hl hG hres hnm
  subst hl; subst hG
  unfold mX6_quaternions at h
  show Wx X w 0 0 0 [(0, .inr (.inr (some v0)))] []
  refine Wx.run ok kX6_quaternions 0 1 (lv' := [(0, .inr (.inr (some v0)))]) (st' := [.inr (.inr (some v0))]) (pc' := 1) rfl ?_
  obtain ⟨a1, ha1, h⟩ := gob h
  obtain ⟨q1, hq1, h⟩ := gob h
  refine Wx.callV ok kX6_quaternions 1 rfl lm_RX6_28 cd_X6_spareGroup ha1 [] (some (.inr (.inr q1.1))) (aX6_spareGroup _ _ hq1) (by decide) rfl (Nat.le_of_ble_eq_true rfl) rfl rfl ?_
  refine Wx.run ok kX6_quaternions 2 2 (lv' := [(1, .inr (.inr q1.1)), (0, .inr (.inr (some v0)))]) (st' := [.inr (.inr q1.1)]) (pc' := 6) rfl ?_
  refine Wx.ifnonnull ok kX6_quaternions 4 (tgt := 12) rfl (by decide) h (fun hc6 h => ?_) (fun hc6 h => ?_)
  · refine Wx.run ok kX6_quaternions 5 1 (lv' := [(1, .inr (.inr q1.1)), (0, .inr (.inr (some v0)))]) (st' := [.inl (-3 : Int32)]) (pc' := 11) rfl ?_
    exact Wx.ireturn ok kX6_quaternions 6 rfl hres h (by decide)
  · refine Wx.run ok kX6_quaternions 7 1 (lv' := [(1, .inr (.inr q1.1)), (0, .inr (.inr (some v0)))]) (st' := [.inr (.inr q1.1)]) (pc' := 13) rfl ?_
    obtain ⟨a13, ha13, h⟩ := gob h
    obtain ⟨q13, hq13, h⟩ := gob h
    refine Wx.callV ok kX6_quaternions 8 rfl lm_RX6_43 cd_X2_fillUnits ha13 [] none (aX2_fillUnits _ _ hq13) (by decide) rfl (Nat.le_of_ble_eq_true rfl) rfl rfl ?_
    refine Wx.run ok kX6_quaternions 9 2 (lv' := [(1, .inr (.inr q1.1)), (0, .inr (.inr (some v0)))]) (st' := [.inr (.inr q1.1), .inr (.inr (some v0))]) (pc' := 18) rfl ?_
    obtain ⟨a18, ha18, h⟩ := gob h
    obtain ⟨q18, hq18, h⟩ := gob h
    refine Wx.callV ok kX6_quaternions 11 rfl lm_RX6_36 cd_X6_keep ha18 [.inr (.inr q1.1)] (some (.inl q18.1)) (aX6_keep _ _ hq18) (by decide) rfl (Nat.le_of_ble_eq_true rfl) rfl rfl ?_
    exact Wx.ireturn ok kX6_quaternions 12 rfl hres h (by decide)
set_option maxRecDepth 100000 in
set_option maxHeartbeats 4000000 in
theorem aX6_sound (l : Launch) (G : gG) {F : Nat} {v0 : Nat} {v1 : Int32} {w : gW} {res : Int32 × gW} (h : mX6_sound F v0 v1 w = some res) : gM l yX6_sound cX6_sound 3 (some .int) rmX6_sound G w (gTs [.inr (.inr (some v0)), .inl v1]) (some (.int res.1)) res.2 := by
  refine gM_of (y := yX6_sound) (by decide +kernel) (Nat.le_of_ble_eq_true rfl) ?_
  intro X ok hl hG hres hnm
  subst hl; subst hG
  unfold mX6_sound at h
  show Wx X w 0 0 0 [(0, .inr (.inr (some v0))), (1, .inl v1)] []
  refine Wx.run ok kX6_sound 0 2 (lv' := [(0, .inr (.inr (some v0))), (1, .inl v1)]) (st' := [.inl v1, .inr (.inr (some v0))]) (pc' := 2) rfl ?_
  obtain ⟨a2, ha2, h⟩ := gob h
  obtain ⟨q2, hq2, h⟩ := gob h
  refine Wx.callV ok kX6_sound 2 rfl lm_RX6_152 cd_X6_actionAt ha2 [.inl v1] (some (.inr (.inr q2.1))) (aX6_actionAt _ _ hq2) (by decide) rfl (Nat.le_of_ble_eq_true rfl) rfl rfl ?_
  refine Wx.run ok kX6_sound 3 2 (lv' := [(2, .inr (.inr q2.1)), (0, .inr (.inr (some v0))), (1, .inl v1)]) (st' := [.inr (.inr q2.1)]) (pc' := 7) rfl ?_
  refine Wx.ifnonnull ok kX6_sound 5 (tgt := 14) rfl (by decide) h (fun hc7 h => ?_) (fun hc7 h => ?_)
  · refine Wx.run ok kX6_sound 6 1 (lv' := [(2, .inr (.inr q2.1)), (0, .inr (.inr (some v0))), (1, .inl v1)]) (st' := [.inl (-1 : Int32)]) (pc' := 11) rfl ?_
    refine Wx.jump ok kX6_sound 7 (tgt := 18) rfl (by decide) ?_
    exact Wx.ireturn ok kX6_sound 10 rfl hres h (by decide)
  · refine Wx.run ok kX6_sound 8 1 (lv' := [(2, .inr (.inr q2.1)), (0, .inr (.inr (some v0))), (1, .inl v1)]) (st' := [.inr (.inr q2.1)]) (pc' := 15) rfl ?_
    obtain ⟨a15, ha15, h⟩ := gob h
    obtain ⟨q15, hq15, h⟩ := gob h
    refine Wx.callV ok kX6_sound 9 rfl lm_RX6_165 cd_X0_firstUnsound ha15 [] (some (.inl q15.1)) (aX0_firstUnsound _ _ hq15) (by decide) rfl (Nat.le_of_ble_eq_true rfl) rfl rfl ?_
    exact Wx.ireturn ok kX6_sound 10 rfl hres h (by decide)
set_option maxRecDepth 100000 in
set_option maxHeartbeats 4000000 in
theorem aX6_table (l : Launch) (G : gG) {F : Nat} {v0 : Nat} {v1 : Int32} {v2 : Int32} {v3 : Int32} {w : gW} {res : Int32 × gW} (h : mX6_table F v0 v1 v2 v3 w = some res) : gM l yX6_table cX6_table 8 (some .int) rmX6_table G w (gTs [.inr (.inr (some v0)), .inl v1, .inl v2, .inl v3]) (some (.int res.1)) res.2 := by
  refine gM_of (y := yX6_table) (by decide +kernel) (Nat.le_of_ble_eq_true rfl) ?_
  intro X ok hl hG hres hnm
  subst hl; subst hG
  unfold mX6_table at h
  show Wx X w 0 0 0 [(0, .inr (.inr (some v0))), (1, .inl v1), (2, .inl v2), (3, .inl v3)] []
  refine Wx.run ok kX6_table 0 2 (lv' := [(0, .inr (.inr (some v0))), (1, .inl v1), (2, .inl v2), (3, .inl v3)]) (st' := [.inl v1, .inr (.inr (some v0))]) (pc' := 2) rfl ?_
  obtain ⟨a2, ha2, h⟩ := gob h
  obtain ⟨q2, hq2, h⟩ := gob h
  refine Wx.callV ok kX6_table 2 rfl lm_RX6_58 cd_X6_sheetAt ha2 [.inl v1] (some (.inr (.inr q2.1))) (aX6_sheetAt _ _ hq2) (by decide) rfl (Nat.le_of_ble_eq_true rfl) rfl rfl ?_
  refine Wx.run ok kX6_table 3 2 (lv' := [(4, .inr (.inr q2.1)), (0, .inr (.inr (some v0))), (1, .inl v1), (2, .inl v2), (3, .inl v3)]) (st' := [.inr (.inr q2.1)]) (pc' := 9) rfl ?_
  refine Wx.ifnull ok kX6_table 5 (tgt := 30) rfl (by decide) h (fun hc9 h => ?_) (fun hc9 h => ?_)
  · refine Wx.run ok kX6_table 15 1 (lv' := [(4, .inr (.inr q2.1)), (0, .inr (.inr (some v0))), (1, .inl v1), (2, .inl v2), (3, .inl v3)]) (st' := [.inl (-1 : Int32)]) (pc' := 31) rfl ?_
    exact Wx.ireturn ok kX6_table 16 rfl hres h (by decide)
  · refine Wx.run ok kX6_table 6 1 (lv' := [(4, .inr (.inr q2.1)), (0, .inr (.inr (some v0))), (1, .inl v1), (2, .inl v2), (3, .inl v3)]) (st' := [.inl v2]) (pc' := 13) rfl ?_
    obtain ⟨q13, hq13, h⟩ := gob h
    refine Wx.callS ok kX6_table 7 rfl lm_RX6_62 cd_X6_isLane [.inl v2] (some (.inl q13.1)) (aX6_isLane _ _ hq13) (by decide) rfl (Nat.le_of_ble_eq_true rfl) rfl rfl ?_
    refine Wx.if_eq ok kX6_table 8 (tgt := 30) rfl (by decide) h (fun hc16 h => ?_) (fun hc16 h => ?_)
    · refine Wx.run ok kX6_table 15 1 (lv' := [(4, .inr (.inr q2.1)), (0, .inr (.inr (some v0))), (1, .inl v1), (2, .inl v2), (3, .inl v3)]) (st' := [.inl (-1 : Int32)]) (pc' := 31) rfl ?_
      exact Wx.ireturn ok kX6_table 16 rfl hres h (by decide)
    · refine Wx.run ok kX6_table 9 2 (lv' := [(4, .inr (.inr q2.1)), (0, .inr (.inr (some v0))), (1, .inl v1), (2, .inl v2), (3, .inl v3)]) (st' := [.inl (1 : Int32), .inl v3]) (pc' := 21) rfl ?_
      refine Wx.icmp_lt ok kX6_table 11 (tgt := 30) rfl (by decide) h (fun hc21 h => ?_) (fun hc21 h => ?_)
      · refine Wx.run ok kX6_table 15 1 (lv' := [(4, .inr (.inr q2.1)), (0, .inr (.inr (some v0))), (1, .inl v1), (2, .inl v2), (3, .inl v3)]) (st' := [.inl (-1 : Int32)]) (pc' := 31) rfl ?_
        exact Wx.ireturn ok kX6_table 16 rfl hres h (by decide)
      · refine Wx.run ok kX6_table 12 2 (lv' := [(4, .inr (.inr q2.1)), (0, .inr (.inr (some v0))), (1, .inl v1), (2, .inl v2), (3, .inl v3)]) (st' := [.inl (12 : Int32), .inl v3]) (pc' := 27) rfl ?_
        refine Wx.icmp_le ok kX6_table 14 (tgt := 32) rfl (by decide) h (fun hc27 h => ?_) (fun hc27 h => ?_)
        · refine Wx.run ok kX6_table 17 5 (lv' := [(4, .inr (.inr q2.1)), (0, .inr (.inr (some v0))), (1, .inl v1), (2, .inl v2), (3, .inl v3)]) (st' := [.inl (v3 * v3), .inl v2, .inr (.inr q2.1)]) (pc' := 38) rfl ?_
          obtain ⟨a38, ha38, h⟩ := gob h
          obtain ⟨q38, hq38, h⟩ := gob h
          refine Wx.callV ok kX6_table 22 rfl lm_RX6_79 cd_X4_faultOfReading ha38 [.inl v2, .inl (v3 * v3)] (some (.inl q38.1)) (aX4_faultOfReading _ _ hq38) (by decide) rfl (Nat.le_of_ble_eq_true rfl) rfl rfl ?_
          refine Wx.run ok kX6_table 23 2 (lv' := [(5, .inl q38.1), (4, .inr (.inr q2.1)), (0, .inr (.inr (some v0))), (1, .inl v1), (2, .inl v2), (3, .inl v3)]) (st' := [.inl q38.1]) (pc' := 45) rfl ?_
          refine Wx.if_eq ok kX6_table 25 (tgt := 54) rfl (by decide) h (fun hc45 h => ?_) (fun hc45 h => ?_)
          · refine Wx.run ok kX6_table 30 1 (lv' := [(5, .inl q38.1), (4, .inr (.inr q2.1)), (0, .inr (.inr (some v0))), (1, .inl v1), (2, .inl v2), (3, .inl v3)]) (st' := [.inr (.inr (some v0))]) (pc' := 55) rfl ?_
            obtain ⟨a55, ha55, h⟩ := gob h
            obtain ⟨q55, hq55, h⟩ := gob h
            refine Wx.callV ok kX6_table 31 rfl lm_RX6_28 cd_X6_spareGroup ha55 [] (some (.inr (.inr q55.1))) (aX6_spareGroup _ _ hq55) (by decide) rfl (Nat.le_of_ble_eq_true rfl) rfl rfl ?_
            refine Wx.run ok kX6_table 32 2 (lv' := [(6, .inr (.inr q55.1)), (5, .inl q38.1), (4, .inr (.inr q2.1)), (0, .inr (.inr (some v0))), (1, .inl v1), (2, .inl v2), (3, .inl v3)]) (st' := [.inr (.inr q55.1)]) (pc' := 62) rfl ?_
            refine Wx.ifnonnull ok kX6_table 34 (tgt := 68) rfl (by decide) h (fun hc62 h => ?_) (fun hc62 h => ?_)
            · refine Wx.run ok kX6_table 35 1 (lv' := [(6, .inr (.inr q55.1)), (5, .inl q38.1), (4, .inr (.inr q2.1)), (0, .inr (.inr (some v0))), (1, .inl v1), (2, .inl v2), (3, .inl v3)]) (st' := [.inl (-3 : Int32)]) (pc' := 67) rfl ?_
              exact Wx.ireturn ok kX6_table 36 rfl hres h (by decide)
            · refine Wx.run ok kX6_table 37 3 (lv' := [(6, .inr (.inr q55.1)), (5, .inl q38.1), (4, .inr (.inr q2.1)), (0, .inr (.inr (some v0))), (1, .inl v1), (2, .inl v2), (3, .inl v3)]) (st' := [.inl v3, .inr (.inr q2.1), .inr (.inr q55.1)]) (pc' := 73) rfl ?_
              obtain ⟨a73, ha73, h⟩ := gob h
              obtain ⟨q73, hq73, h⟩ := gob h
              refine Wx.callV ok kX6_table 40 rfl lm_RX6_83 cd_X2_readFrom ha73 [.inr (.inr q2.1), .inl v3] (some (.inl q73.1)) (aX2_readFrom _ _ hq73) (by decide) rfl (Nat.le_of_ble_eq_true rfl) rfl rfl ?_
              refine Wx.run ok kX6_table 41 2 (lv' := [(7, .inl q73.1), (6, .inr (.inr q55.1)), (5, .inl q38.1), (4, .inr (.inr q2.1)), (0, .inr (.inr (some v0))), (1, .inl v1), (2, .inl v2), (3, .inl v3)]) (st' := [.inl q73.1]) (pc' := 80) rfl ?_
              refine Wx.if_lt ok kX6_table 43 (tgt := 89) rfl (by decide) h (fun hc80 h => ?_) (fun hc80 h => ?_)
              · refine Wx.run ok kX6_table 48 2 (lv' := [(7, .inl q73.1), (6, .inr (.inr q55.1)), (5, .inl q38.1), (4, .inr (.inr q2.1)), (0, .inr (.inr (some v0))), (1, .inl v1), (2, .inl v2), (3, .inl v3)]) (st' := [.inr (.inr q55.1), .inr (.inr (some v0))]) (pc' := 92) rfl ?_
                obtain ⟨a92, ha92, h⟩ := gob h
                obtain ⟨q92, hq92, h⟩ := gob h
                refine Wx.callV ok kX6_table 50 rfl lm_RX6_36 cd_X6_keep ha92 [.inr (.inr q55.1)] (some (.inl q92.1)) (aX6_keep _ _ hq92) (by decide) rfl (Nat.le_of_ble_eq_true rfl) rfl rfl ?_
                exact Wx.ireturn ok kX6_table 51 rfl hres h (by decide)
              · refine Wx.run ok kX6_table 44 3 (lv' := [(7, .inl q73.1), (6, .inr (.inr q55.1)), (5, .inl q38.1), (4, .inr (.inr q2.1)), (0, .inr (.inr (some v0))), (1, .inl v1), (2, .inl v2), (3, .inl v3)]) (st' := [.inl ((-100 : Int32) - q73.1)]) (pc' := 88) rfl ?_
                exact Wx.ireturn ok kX6_table 47 rfl hres h (by decide)
          · refine Wx.run ok kX6_table 26 3 (lv' := [(5, .inl q38.1), (4, .inr (.inr q2.1)), (0, .inr (.inr (some v0))), (1, .inl v1), (2, .inl v2), (3, .inl v3)]) (st' := [.inl ((-10 : Int32) - q38.1)]) (pc' := 53) rfl ?_
            exact Wx.ireturn ok kX6_table 29 rfl hres h (by decide)
        · refine Wx.run ok kX6_table 15 1 (lv' := [(4, .inr (.inr q2.1)), (0, .inr (.inr (some v0))), (1, .inl v1), (2, .inl v2), (3, .inl v3)]) (st' := [.inl (-1 : Int32)]) (pc' := 31) rfl ?_
          exact Wx.ireturn ok kX6_table 16 rfl hres h (by decide)
set_option maxRecDepth 100000 in
set_option maxHeartbeats 4000000 in
theorem aX7_classOf_b211 {X : gX} (ok : gOk X cX7_classOf RX7 9 (some .int) rmX7_classOf) {res : Int32 × gW} (hres : gRs X (some (.int res.1)) res.2) {F : Nat} (r : Nat → Int32 → Int32 → Int32 → Int32 → gW → Option (Int32 × gW)) (k217 : Nat → Int32 → Int32 → Int32 → gW → Option (Int32 × gW)) (hr : ∀ (v0 : Nat) (v2 : Int32) (v5 : Int32) (v6 : Int32) (v7 : Int32) (w : gW), r v0 v2 v5 v6 v7 w = some res → Wx X w 0 0 109 [(0, .inr (.inr (some v0))), (2, .inl v2), (5, .inl v5), (6, .inl v6), (7, .inl v7)] []) (hk217 : ∀ (v0 : Nat) (v2 : Int32) (v5 : Int32) (v6 : Int32) (w : gW), k217 v0 v2 v5 v6 w = some res → Wx X w 0 0 217 [(0, .inr (.inr (some v0))), (2, .inl v2), (5, .inl v5), (6, .inl v6)] []) : ∀ (v0 : Nat) (v2 : Int32) (v5 : Int32) (v6 : Int32) (v7 : Int32) (w : gW), mX7_classOf_b211 F r k217 v0 v2 v5 v6 v7 w = some res → Wx X w 0 0 211 [(0, .inr (.inr (some v0))), (2, .inl v2), (5, .inl v5), (6, .inl v6), (7, .inl v7)] [] := by
  intro v0 v2 v5 v6 v7 w h
  unfold mX7_classOf_b211 at h
  refine Wx.run ok kX7_classOf 113 1 (lv' := [(7, .inl (v7 + (1 : Int32))), (0, .inr (.inr (some v0))), (2, .inl v2), (5, .inl v5), (6, .inl v6)]) (st' := []) (pc' := 214) rfl ?_
  refine Wx.jump ok kX7_classOf 114 (tgt := 109) rfl (by decide) ?_
  refine Wx.sub [1, 2, 3, 4, 0] rfl ?_
  exact hr _ _ _ _ _ _ h
set_option maxRecDepth 100000 in
set_option maxHeartbeats 4000000 in
theorem aX7_classOf_b203 {X : gX} (ok : gOk X cX7_classOf RX7 9 (some .int) rmX7_classOf) {res : Int32 × gW} (hres : gRs X (some (.int res.1)) res.2) {F : Nat} (r : Nat → Int32 → Int32 → Int32 → Int32 → gW → Option (Int32 × gW)) (k217 : Nat → Int32 → Int32 → Int32 → gW → Option (Int32 × gW)) (hr : ∀ (v0 : Nat) (v2 : Int32) (v5 : Int32) (v6 : Int32) (v7 : Int32) (w : gW), r v0 v2 v5 v6 v7 w = some res → Wx X w 0 0 109 [(0, .inr (.inr (some v0))), (2, .inl v2), (5, .inl v5), (6, .inl v6), (7, .inl v7)] []) (hk217 : ∀ (v0 : Nat) (v2 : Int32) (v5 : Int32) (v6 : Int32) (w : gW), k217 v0 v2 v5 v6 w = some res → Wx X w 0 0 217 [(0, .inr (.inr (some v0))), (2, .inl v2), (5, .inl v5), (6, .inl v6)] []) : ∀ (v0 : Nat) (v2 : Int32) (v5 : Int32) (v6 : Int32) (v7 : Int32) (v8 : Int32) (w : gW), mX7_classOf_b203 F r k217 v0 v2 v5 v6 v7 v8 w = some res → Wx X w 0 0 203 [(0, .inr (.inr (some v0))), (2, .inl v2), (5, .inl v5), (6, .inl v6), (7, .inl v7), (8, .inl v8)] [] := by
  intro v0 v2 v5 v6 v7 v8 w h
  unfold mX7_classOf_b203 at h
  refine Wx.run ok kX7_classOf 109 1 (lv' := [(0, .inr (.inr (some v0))), (2, .inl v2), (5, .inl v5), (6, .inl v6), (7, .inl v7), (8, .inl v8)]) (st' := [.inl v8]) (pc' := 205) rfl ?_
  refine Wx.if_eq ok kX7_classOf 110 (tgt := 211) rfl (by decide) h (fun hc205 h => ?_) (fun hc205 h => ?_)
  · refine Wx.sub [0, 1, 2, 3, 4] rfl ?_
    exact aX7_classOf_b211 ok hres (F := F) r k217 hr hk217 _ _ _ _ _ _ h
  · refine Wx.run ok kX7_classOf 111 1 (lv' := [(0, .inr (.inr (some v0))), (2, .inl v2), (5, .inl v5), (6, .inl v6), (7, .inl v7), (8, .inl v8)]) (st' := [.inl (-4 : Int32)]) (pc' := 210) rfl ?_
    exact Wx.ireturn ok kX7_classOf 112 rfl hres h (by decide)
set_option maxRecDepth 100000 in
set_option maxHeartbeats 4000000 in
theorem aX7_classOf_b171 {X : gX} (ok : gOk X cX7_classOf RX7 9 (some .int) rmX7_classOf) {res : Int32 × gW} (hres : gRs X (some (.int res.1)) res.2) {F : Nat} (r : Nat → Int32 → Int32 → Int32 → Int32 → gW → Option (Int32 × gW)) (k217 : Nat → Int32 → Int32 → Int32 → gW → Option (Int32 × gW)) (hr : ∀ (v0 : Nat) (v2 : Int32) (v5 : Int32) (v6 : Int32) (v7 : Int32) (w : gW), r v0 v2 v5 v6 v7 w = some res → Wx X w 0 0 109 [(0, .inr (.inr (some v0))), (2, .inl v2), (5, .inl v5), (6, .inl v6), (7, .inl v7)] []) (hk217 : ∀ (v0 : Nat) (v2 : Int32) (v5 : Int32) (v6 : Int32) (w : gW), k217 v0 v2 v5 v6 w = some res → Wx X w 0 0 217 [(0, .inr (.inr (some v0))), (2, .inl v2), (5, .inl v5), (6, .inl v6)] []) : ∀ (v0 : Nat) (v2 : Int32) (v5 : Int32) (v6 : Int32) (v7 : Int32) (s0 : Int32) (w : gW), mX7_classOf_b171 F r k217 v0 v2 v5 v6 v7 s0 w = some res → Wx X w 0 0 171 [(0, .inr (.inr (some v0))), (2, .inl v2), (5, .inl v5), (6, .inl v6), (7, .inl v7)] [.inl s0] := by
  intro v0 v2 v5 v6 v7 s0 w h
  unfold mX7_classOf_b171 at h
  refine Wx.run ok kX7_classOf 94 2 (lv' := [(8, .inl s0), (0, .inr (.inr (some v0))), (2, .inl v2), (5, .inl v5), (6, .inl v6), (7, .inl v7)]) (st' := [.inl v5]) (pc' := 175) rfl ?_
  refine Wx.if_le ok kX7_classOf 96 (tgt := 203) rfl (by decide) h (fun hc175 h => ?_) (fun hc175 h => ?_)
  · refine Wx.sub [1, 2, 3, 4, 5, 0] rfl ?_
    exact aX7_classOf_b203 ok hres (F := F) r k217 hr hk217 _ _ _ _ _ _ _ h
  · refine Wx.run ok kX7_classOf 97 1 (lv' := [(8, .inl s0), (0, .inr (.inr (some v0))), (2, .inl v2), (5, .inl v5), (6, .inl v6), (7, .inl v7)]) (st' := [.inl v6]) (pc' := 180) rfl ?_
    refine Wx.if_le ok kX7_classOf 98 (tgt := 203) rfl (by decide) h (fun hc180 h => ?_) (fun hc180 h => ?_)
    · refine Wx.sub [1, 2, 3, 4, 5, 0] rfl ?_
      exact aX7_classOf_b203 ok hres (F := F) r k217 hr hk217 _ _ _ _ _ _ _ h
    · refine Wx.run ok kX7_classOf 99 1 (lv' := [(8, .inl s0), (0, .inr (.inr (some v0))), (2, .inl v2), (5, .inl v5), (6, .inl v6), (7, .inl v7)]) (st' := [.inr (.inr (some v0))]) (pc' := 184) rfl ?_
      refine Wx.getR ok kX7_classOf 100 rfl lk_RX7_67_0 h (fun t184 h => ?_)
      refine Wx.run ok kX7_classOf 101 4 (lv' := [(8, .inl s0), (0, .inr (.inr (some v0))), (2, .inl v2), (5, .inl v5), (6, .inl v6), (7, .inl v7)]) (st' := [.inl v7, .inl v6, .inl v5, .inr (.inr (some v0)), .inr (.inr t184)]) (pc' := 194) rfl ?_
      obtain ⟨a194, ha194, h⟩ := gob h
      obtain ⟨q194, hq194, h⟩ := gob h
      refine Wx.callV ok kX7_classOf 105 rfl lm_RX7_233 cd_X7_placeOf ha194 [.inl v5, .inl v6, .inl v7] (some (.inl q194.1)) (aX7_placeOf _ _ hq194) (by decide) rfl (Nat.le_of_ble_eq_true rfl) rfl rfl ?_
      refine Wx.run ok kX7_classOf 106 1 (lv' := [(8, .inl s0), (0, .inr (.inr (some v0))), (2, .inl v2), (5, .inl v5), (6, .inl v6), (7, .inl v7)]) (st' := [.inl s0, .inl q194.1, .inr (.inr t184)]) (pc' := 199) rfl ?_
      refine Wx.iast ok kX7_classOf 107 rfl h (fun w199 h => ?_)
      refine Wx.jump ok kX7_classOf 108 (tgt := 211) rfl (by decide) ?_
      refine Wx.sub [1, 2, 3, 4, 5] rfl ?_
      exact aX7_classOf_b211 ok hres (F := F) r k217 hr hk217 _ _ _ _ _ _ h
set_option maxRecDepth 100000 in
set_option maxHeartbeats 4000000 in
theorem aX7_classOf_h109 {X : gX} (ok : gOk X cX7_classOf RX7 9 (some .int) rmX7_classOf) {res : Int32 × gW} (hres : gRs X (some (.int res.1)) res.2) {F : Nat} (r : Nat → Int32 → Int32 → Int32 → Int32 → gW → Option (Int32 × gW)) (k217 : Nat → Int32 → Int32 → Int32 → gW → Option (Int32 × gW)) (hr : ∀ (v0 : Nat) (v2 : Int32) (v5 : Int32) (v6 : Int32) (v7 : Int32) (w : gW), r v0 v2 v5 v6 v7 w = some res → Wx X w 0 0 109 [(0, .inr (.inr (some v0))), (2, .inl v2), (5, .inl v5), (6, .inl v6), (7, .inl v7)] []) (hk217 : ∀ (v0 : Nat) (v2 : Int32) (v5 : Int32) (v6 : Int32) (w : gW), k217 v0 v2 v5 v6 w = some res → Wx X w 0 0 217 [(0, .inr (.inr (some v0))), (2, .inl v2), (5, .inl v5), (6, .inl v6)] []) : ∀ (v0 : Nat) (v2 : Int32) (v5 : Int32) (v6 : Int32) (v7 : Int32) (w : gW), mX7_classOf_h109 F r k217 v0 v2 v5 v6 v7 w = some res → Wx X w 0 0 109 [(0, .inr (.inr (some v0))), (2, .inl v2), (5, .inl v5), (6, .inl v6), (7, .inl v7)] [] := by
  intro v0 v2 v5 v6 v7 w h
  unfold mX7_classOf_h109 at h
  refine Wx.run ok kX7_classOf 60 2 (lv' := [(0, .inr (.inr (some v0))), (2, .inl v2), (5, .inl v5), (6, .inl v6), (7, .inl v7)]) (st' := [.inr (.inr (some v0)), .inl v7]) (pc' := 112) rfl ?_
  refine Wx.getI ok kX7_classOf 62 rfl lk_RX7_211_0 h (fun t112 h => ?_)
  refine Wx.icmp_ge ok kX7_classOf 63 (tgt := 217) rfl (by decide) h (fun hc115 h => ?_) (fun hc115 h => ?_)
  · refine Wx.sub [0, 1, 2, 3] rfl ?_
    exact hk217 _ _ _ _ _ h
  · refine Wx.run ok kX7_classOf 64 1 (lv' := [(0, .inr (.inr (some v0))), (2, .inl v2), (5, .inl v5), (6, .inl v6), (7, .inl v7)]) (st' := [.inr (.inr (some v0))]) (pc' := 119) rfl ?_
    refine Wx.getR ok kX7_classOf 65 rfl lk_RX7_26_0 h (fun t119 h => ?_)
    refine Wx.run ok kX7_classOf 66 4 (lv' := [(0, .inr (.inr (some v0))), (2, .inl v2), (5, .inl v5), (6, .inl v6), (7, .inl v7)]) (st' := [.inr (.inr (some v0)), .inl ((144 : Int32) * v2), .inr (.inr t119)]) (pc' := 128) rfl ?_
    refine Wx.getI ok kX7_classOf 70 rfl lk_RX7_211_0 h (fun t128 h => ?_)
    refine Wx.run ok kX7_classOf 71 1 (lv' := [(0, .inr (.inr (some v0))), (2, .inl v2), (5, .inl v5), (6, .inl v6), (7, .inl v7)]) (st' := [.inr (.inr (some v0)), .inl t128, .inl ((144 : Int32) * v2), .inr (.inr t119)]) (pc' := 132) rfl ?_
    refine Wx.getI ok kX7_classOf 72 rfl lk_RX7_208_0 h (fun t132 h => ?_)
    refine Wx.run ok kX7_classOf 73 8 (lv' := [(0, .inr (.inr (some v0))), (2, .inl v2), (5, .inl v5), (6, .inl v6), (7, .inl v7)]) (st' := [.inl ((((144 : Int32) * v2) + (t128 * ((t132 * v5) + v6))) + v7), .inr (.inr t119)]) (pc' := 146) rfl ?_
    refine Wx.iald ok kX7_classOf 81 rfl h (fun t146 h => ?_)
    refine Wx.run ok kX7_classOf 82 1 (lv' := [(0, .inr (.inr (some v0))), (2, .inl v2), (5, .inl v5), (6, .inl v6), (7, .inl v7)]) (st' := [.inr (.inr (some v0)), .inl t146]) (pc' := 148) rfl ?_
    refine Wx.getI ok kX7_classOf 83 rfl lk_RX7_196_0 h (fun t148 h => ?_)
    refine Wx.irem ok kX7_classOf 84 rfl h (fun t151 h => ?_)
    refine Wx.run ok kX7_classOf 85 2 (lv' := [(8, .inl t151), (0, .inr (.inr (some v0))), (2, .inl v2), (5, .inl v5), (6, .inl v6), (7, .inl v7)]) (st' := [.inl t151]) (pc' := 156) rfl ?_
    refine Wx.if_ge ok kX7_classOf 87 (tgt := 169) rfl (by decide) h (fun hc156 h => ?_) (fun hc156 h => ?_)
    · refine Wx.run ok kX7_classOf 93 1 (lv' := [(8, .inl t151), (0, .inr (.inr (some v0))), (2, .inl v2), (5, .inl v5), (6, .inl v6), (7, .inl v7)]) (st' := [.inl t151]) (pc' := 171) rfl ?_
      refine Wx.sub [1, 2, 3, 4, 5] rfl ?_
      exact aX7_classOf_b171 ok hres (F := F) r k217 hr hk217 _ _ _ _ _ _ _ h
    · refine Wx.run ok kX7_classOf 88 2 (lv' := [(8, .inl t151), (0, .inr (.inr (some v0))), (2, .inl v2), (5, .inl v5), (6, .inl v6), (7, .inl v7)]) (st' := [.inr (.inr (some v0)), .inl t151]) (pc' := 162) rfl ?_
      refine Wx.getI ok kX7_classOf 90 rfl lk_RX7_196_0 h (fun t162 h => ?_)
      refine Wx.run ok kX7_classOf 91 1 (lv' := [(8, .inl t151), (0, .inr (.inr (some v0))), (2, .inl v2), (5, .inl v5), (6, .inl v6), (7, .inl v7)]) (st' := [.inl (t151 + t162)]) (pc' := 166) rfl ?_
      refine Wx.jump ok kX7_classOf 92 (tgt := 171) rfl (by decide) ?_
      refine Wx.sub [1, 2, 3, 4, 5] rfl ?_
      exact aX7_classOf_b171 ok hres (F := F) r k217 hr hk217 _ _ _ _ _ _ _ h
set_option maxRecDepth 100000 in
set_option maxHeartbeats 4000000 in
theorem aX7_classOf_l109 {X : gX} (ok : gOk X cX7_classOf RX7 9 (some .int) rmX7_classOf) {res : Int32 × gW} (hres : gRs X (some (.int res.1)) res.2) {F : Nat} (k217 : Nat → Int32 → Int32 → Int32 → gW → Option (Int32 × gW)) (hk217 : ∀ (v0 : Nat) (v2 : Int32) (v5 : Int32) (v6 : Int32) (w : gW), k217 v0 v2 v5 v6 w = some res → Wx X w 0 0 217 [(0, .inr (.inr (some v0))), (2, .inl v2), (5, .inl v5), (6, .inl v6)] []) : ∀ (n : Nat) (v0 : Nat) (v2 : Int32) (v5 : Int32) (v6 : Int32) (v7 : Int32) (w : gW), mX7_classOf_l109 F k217 n v0 v2 v5 v6 v7 w = some res → Wx X w 0 0 109 [(0, .inr (.inr (some v0))), (2, .inl v2), (5, .inl v5), (6, .inl v6), (7, .inl v7)] [] := by
  intro n
  induction n with
  | zero => intro v0 v2 v5 v6 v7 w h; cases (show (none : Option (Int32 × gW)) = some res from h)
  | succ n ih =>
    intro v0 v2 v5 v6 v7 w h
    exact aX7_classOf_h109 ok hres (F := F) (mX7_classOf_l109 F k217 n) k217 ih hk217 v0 v2 v5 v6 v7 w h
set_option maxRecDepth 100000 in
set_option maxHeartbeats 4000000 in
theorem aX7_classOf_h97 {X : gX} (ok : gOk X cX7_classOf RX7 9 (some .int) rmX7_classOf) {res : Int32 × gW} (hres : gRs X (some (.int res.1)) res.2) {F : Nat} (r : Nat → Int32 → Int32 → Int32 → gW → Option (Int32 × gW)) (k223 : Nat → Int32 → Int32 → gW → Option (Int32 × gW)) (hr : ∀ (v0 : Nat) (v2 : Int32) (v5 : Int32) (v6 : Int32) (w : gW), r v0 v2 v5 v6 w = some res → Wx X w 0 0 97 [(0, .inr (.inr (some v0))), (2, .inl v2), (5, .inl v5), (6, .inl v6)] []) (hk223 : ∀ (v0 : Nat) (v2 : Int32) (v5 : Int32) (w : gW), k223 v0 v2 v5 w = some res → Wx X w 0 0 223 [(0, .inr (.inr (some v0))), (2, .inl v2), (5, .inl v5)] []) : ∀ (v0 : Nat) (v2 : Int32) (v5 : Int32) (v6 : Int32) (w : gW), mX7_classOf_h97 F r k223 v0 v2 v5 v6 w = some res → Wx X w 0 0 97 [(0, .inr (.inr (some v0))), (2, .inl v2), (5, .inl v5), (6, .inl v6)] [] := by
  intro v0 v2 v5 v6 w h
  unfold mX7_classOf_h97 at h
  refine Wx.run ok kX7_classOf 54 2 (lv' := [(0, .inr (.inr (some v0))), (2, .inl v2), (5, .inl v5), (6, .inl v6)]) (st' := [.inr (.inr (some v0)), .inl v6]) (pc' := 100) rfl ?_
  refine Wx.getI ok kX7_classOf 56 rfl lk_RX7_208_0 h (fun t100 h => ?_)
  refine Wx.icmp_ge ok kX7_classOf 57 (tgt := 223) rfl (by decide) h (fun hc103 h => ?_) (fun hc103 h => ?_)
  · refine Wx.sub [0, 1, 2] rfl ?_
    exact hk223 _ _ _ _ h
  · refine Wx.run ok kX7_classOf 58 2 (lv' := [(7, .inl (0 : Int32)), (0, .inr (.inr (some v0))), (2, .inl v2), (5, .inl v5), (6, .inl v6)]) (st' := []) (pc' := 109) rfl ?_
    refine Wx.sub [1, 2, 3, 4, 0] rfl ?_
    refine aX7_classOf_l109 ok hres (F := F) _ ?_ F _ _ _ _ _ _ h
    · intro v0 v2 v5 v6 w h
      refine Wx.run ok kX7_classOf 115 1 (lv' := [(6, .inl (v6 + (1 : Int32))), (0, .inr (.inr (some v0))), (2, .inl v2), (5, .inl v5)]) (st' := []) (pc' := 220) rfl ?_
      refine Wx.jump ok kX7_classOf 116 (tgt := 97) rfl (by decide) ?_
      refine Wx.sub [1, 2, 3, 0] rfl ?_
      exact hr _ _ _ _ _ h
set_option maxRecDepth 100000 in
set_option maxHeartbeats 4000000 in
theorem aX7_classOf_l97 {X : gX} (ok : gOk X cX7_classOf RX7 9 (some .int) rmX7_classOf) {res : Int32 × gW} (hres : gRs X (some (.int res.1)) res.2) {F : Nat} (k223 : Nat → Int32 → Int32 → gW → Option (Int32 × gW)) (hk223 : ∀ (v0 : Nat) (v2 : Int32) (v5 : Int32) (w : gW), k223 v0 v2 v5 w = some res → Wx X w 0 0 223 [(0, .inr (.inr (some v0))), (2, .inl v2), (5, .inl v5)] []) : ∀ (n : Nat) (v0 : Nat) (v2 : Int32) (v5 : Int32) (v6 : Int32) (w : gW), mX7_classOf_l97 F k223 n v0 v2 v5 v6 w = some res → Wx X w 0 0 97 [(0, .inr (.inr (some v0))), (2, .inl v2), (5, .inl v5), (6, .inl v6)] [] := by
  intro n
  induction n with
  | zero => intro v0 v2 v5 v6 w h; cases (show (none : Option (Int32 × gW)) = some res from h)
  | succ n ih =>
    intro v0 v2 v5 v6 w h
    exact aX7_classOf_h97 ok hres (F := F) (mX7_classOf_l97 F k223 n) k223 ih hk223 v0 v2 v5 v6 w h
set_option maxRecDepth 100000 in
set_option maxHeartbeats 4000000 in
theorem aX7_classOf_h85 {X : gX} (ok : gOk X cX7_classOf RX7 9 (some .int) rmX7_classOf) {res : Int32 × gW} (hres : gRs X (some (.int res.1)) res.2) {F : Nat} (r : Nat → Int32 → Int32 → gW → Option (Int32 × gW)) (k229 : Nat → gW → Option (Int32 × gW)) (hr : ∀ (v0 : Nat) (v2 : Int32) (v5 : Int32) (w : gW), r v0 v2 v5 w = some res → Wx X w 0 0 85 [(0, .inr (.inr (some v0))), (2, .inl v2), (5, .inl v5)] []) (hk229 : ∀ (v0 : Nat) (w : gW), k229 v0 w = some res → Wx X w 0 0 229 [(0, .inr (.inr (some v0)))] []) : ∀ (v0 : Nat) (v2 : Int32) (v5 : Int32) (w : gW), mX7_classOf_h85 F r k229 v0 v2 v5 w = some res → Wx X w 0 0 85 [(0, .inr (.inr (some v0))), (2, .inl v2), (5, .inl v5)] [] := by
  intro v0 v2 v5 w h
  unfold mX7_classOf_h85 at h
  refine Wx.run ok kX7_classOf 48 2 (lv' := [(0, .inr (.inr (some v0))), (2, .inl v2), (5, .inl v5)]) (st' := [.inr (.inr (some v0)), .inl v5]) (pc' := 88) rfl ?_
  refine Wx.getI ok kX7_classOf 50 rfl lk_RX7_208_0 h (fun t88 h => ?_)
  refine Wx.icmp_ge ok kX7_classOf 51 (tgt := 229) rfl (by decide) h (fun hc91 h => ?_) (fun hc91 h => ?_)
  · refine Wx.sub [0] rfl ?_
    exact hk229 _ _ h
  · refine Wx.run ok kX7_classOf 52 2 (lv' := [(6, .inl (0 : Int32)), (0, .inr (.inr (some v0))), (2, .inl v2), (5, .inl v5)]) (st' := []) (pc' := 97) rfl ?_
    refine Wx.sub [1, 2, 3, 0] rfl ?_
    refine aX7_classOf_l97 ok hres (F := F) _ ?_ F _ _ _ _ _ h
    · intro v0 v2 v5 w h
      refine Wx.run ok kX7_classOf 117 1 (lv' := [(5, .inl (v5 + (1 : Int32))), (0, .inr (.inr (some v0))), (2, .inl v2)]) (st' := []) (pc' := 226) rfl ?_
      refine Wx.jump ok kX7_classOf 118 (tgt := 85) rfl (by decide) ?_
      refine Wx.sub [1, 2, 0] rfl ?_
      exact hr _ _ _ _ h
set_option maxRecDepth 100000 in
set_option maxHeartbeats 4000000 in
theorem aX7_classOf_l85 {X : gX} (ok : gOk X cX7_classOf RX7 9 (some .int) rmX7_classOf) {res : Int32 × gW} (hres : gRs X (some (.int res.1)) res.2) {F : Nat} (k229 : Nat → gW → Option (Int32 × gW)) (hk229 : ∀ (v0 : Nat) (w : gW), k229 v0 w = some res → Wx X w 0 0 229 [(0, .inr (.inr (some v0)))] []) : ∀ (n : Nat) (v0 : Nat) (v2 : Int32) (v5 : Int32) (w : gW), mX7_classOf_l85 F k229 n v0 v2 v5 w = some res → Wx X w 0 0 85 [(0, .inr (.inr (some v0))), (2, .inl v2), (5, .inl v5)] [] := by
  intro n
  induction n with
  | zero => intro v0 v2 v5 w h; cases (show (none : Option (Int32 × gW)) = some res from h)
  | succ n ih =>
    intro v0 v2 v5 w h
    exact aX7_classOf_h85 ok hres (F := F) (mX7_classOf_l85 F k229 n) k229 ih hk229 v0 v2 v5 w h
set_option maxRecDepth 100000 in
set_option maxHeartbeats 4000000 in
theorem aX7_classOf (l : Launch) (G : gG) {F : Nat} {v0 : Nat} {v1 : Int32} {v2 : Int32} {v3 : Int32} {w : gW} {res : Int32 × gW} (h : mX7_classOf F v0 v1 v2 v3 w = some res) : gM l yX7_classOf cX7_classOf 9 (some .int) rmX7_classOf G w (gTs [.inr (.inr (some v0)), .inl v1, .inl v2, .inl v3]) (some (.int res.1)) res.2 := by
  refine gM_of (y := yX7_classOf) (by decide +kernel) (Nat.le_of_ble_eq_true rfl) ?_
  intro X ok hl hG hres hnm
  subst hl; subst hG
  unfold mX7_classOf at h
  show Wx X w 0 0 0 [(0, .inr (.inr (some v0))), (1, .inl v1), (2, .inl v2), (3, .inl v3)] []
  refine Wx.run ok kX7_classOf 0 2 (lv' := [(0, .inr (.inr (some v0))), (1, .inl v1), (2, .inl v2), (3, .inl v3)]) (st' := [.inl v1, .inr (.inr (some v0))]) (pc' := 2) rfl ?_
  obtain ⟨a2, ha2, h⟩ := gob h
  obtain ⟨q2, hq2, h⟩ := gob h
  refine Wx.callV ok kX7_classOf 2 rfl lm_RX7_190 cd_X7_isModule ha2 [.inl v1] (some (.inl q2.1)) (aX7_isModule _ _ hq2) (by decide) rfl (Nat.le_of_ble_eq_true rfl) rfl rfl ?_
  refine Wx.if_eq ok kX7_classOf 3 (tgt := 30) rfl (by decide) h (fun hc5 h => ?_) (fun hc5 h => ?_)
  · refine Wx.run ok kX7_classOf 16 1 (lv' := [(0, .inr (.inr (some v0))), (1, .inl v1), (2, .inl v2), (3, .inl v3)]) (st' := [.inl (-1 : Int32)]) (pc' := 31) rfl ?_
    exact Wx.ireturn ok kX7_classOf 17 rfl hres h (by decide)
  · refine Wx.run ok kX7_classOf 4 3 (lv' := [(0, .inr (.inr (some v0))), (1, .inl v1), (2, .inl v2), (3, .inl v3)]) (st' := [.inr (.inl (0 : Int64)), .inr (.inl ((v2).toInt64))]) (pc' := 11) rfl ?_
    refine Wx.ldc2 ok kX7_classOf 7 rfl gw_860 ?_
    obtain ⟨q14, hq14, h⟩ := gob h
    refine Wx.callS ok kX7_classOf 8 rfl lm_RX7_100 cd_X7_in [.inr (.inl ((v2).toInt64)), .inr (.inl (0 : Int64)), .inr (.inl (3 : Int64))] (some (.inl q14.1)) (aX7_in _ _ hq14) (by decide) rfl (Nat.le_of_ble_eq_true rfl) rfl rfl ?_
    refine Wx.if_eq ok kX7_classOf 9 (tgt := 30) rfl (by decide) h (fun hc17 h => ?_) (fun hc17 h => ?_)
    · refine Wx.run ok kX7_classOf 16 1 (lv' := [(0, .inr (.inr (some v0))), (1, .inl v1), (2, .inl v2), (3, .inl v3)]) (st' := [.inl (-1 : Int32)]) (pc' := 31) rfl ?_
      exact Wx.ireturn ok kX7_classOf 17 rfl hres h (by decide)
    · refine Wx.run ok kX7_classOf 10 4 (lv' := [(0, .inr (.inr (some v0))), (1, .inl v1), (2, .inl v2), (3, .inl v3)]) (st' := [.inr (.inl (1 : Int64)), .inr (.inl (0 : Int64)), .inr (.inl ((v3).toInt64))]) (pc' := 24) rfl ?_
      obtain ⟨q24, hq24, h⟩ := gob h
      refine Wx.callS ok kX7_classOf 14 rfl lm_RX7_100 cd_X7_in [.inr (.inl ((v3).toInt64)), .inr (.inl (0 : Int64)), .inr (.inl (1 : Int64))] (some (.inl q24.1)) (aX7_in _ _ hq24) (by decide) rfl (Nat.le_of_ble_eq_true rfl) rfl rfl ?_
      refine Wx.if_ne ok kX7_classOf 15 (tgt := 32) rfl (by decide) h (fun hc27 h => ?_) (fun hc27 h => ?_)
      · refine Wx.run ok kX7_classOf 16 1 (lv' := [(0, .inr (.inr (some v0))), (1, .inl v1), (2, .inl v2), (3, .inl v3)]) (st' := [.inl (-1 : Int32)]) (pc' := 31) rfl ?_
        exact Wx.ireturn ok kX7_classOf 17 rfl hres h (by decide)
      · refine Wx.run ok kX7_classOf 18 2 (lv' := [(0, .inr (.inr (some v0))), (1, .inl v1), (2, .inl v2), (3, .inl v3)]) (st' := [.inl v1, .inr (.inr (some v0))]) (pc' := 34) rfl ?_
        obtain ⟨a34, ha34, h⟩ := gob h
        obtain ⟨q34, hq34, h⟩ := gob h
        refine Wx.callV ok kX7_classOf 20 rfl lm_RX7_260 cd_X7_sound ha34 [.inl v1] (some (.inl q34.1)) (aX7_sound _ _ hq34) (by decide) rfl (Nat.le_of_ble_eq_true rfl) rfl rfl ?_
        refine Wx.if_eq ok kX7_classOf 21 (tgt := 43) rfl (by decide) h (fun hc37 h => ?_) (fun hc37 h => ?_)
        · refine Wx.run ok kX7_classOf 24 2 (lv' := [(0, .inr (.inr (some v0))), (1, .inl v1), (2, .inl v2), (3, .inl v3)]) (st' := [.inl v1, .inr (.inr (some v0))]) (pc' := 45) rfl ?_
          obtain ⟨a45, ha45, h⟩ := gob h
          obtain ⟨q45, hq45, h⟩ := gob h
          refine Wx.callV ok kX7_classOf 26 rfl lm_RX7_263 cd_X7_know ha45 [.inl v1] none (aX7_know _ _ hq45) (by decide) rfl (Nat.le_of_ble_eq_true rfl) rfl rfl ?_
          refine Wx.run ok kX7_classOf 27 4 (lv' := [(0, .inr (.inr (some v0))), (1, .inl v1), (2, .inl v2), (3, .inl v3)]) (st' := [.inr (.inr (some v0)), .inl v3, .inl v2, .inr (.inr (some v0))]) (pc' := 52) rfl ?_
          refine Wx.getI ok kX7_classOf 31 rfl lk_RX7_211_0 h (fun t52 h => ?_)
          refine Wx.run ok kX7_classOf 32 1 (lv' := [(0, .inr (.inr (some v0))), (1, .inl v1), (2, .inl v2), (3, .inl v3)]) (st' := [.inr (.inr (some v0)), .inl t52, .inl v3, .inl v2, .inr (.inr (some v0))]) (pc' := 56) rfl ?_
          refine Wx.getI ok kX7_classOf 33 rfl lk_RX7_208_0 h (fun t56 h => ?_)
          refine Wx.run ok kX7_classOf 34 2 (lv' := [(0, .inr (.inr (some v0))), (1, .inl v1), (2, .inl v2), (3, .inl v3)]) (st' := [.inr (.inr (some v0)), .inl (t52 * t56), .inl v3, .inl v2, .inr (.inr (some v0))]) (pc' := 61) rfl ?_
          refine Wx.getI ok kX7_classOf 36 rfl lk_RX7_208_0 h (fun t61 h => ?_)
          refine Wx.run ok kX7_classOf 37 1 (lv' := [(0, .inr (.inr (some v0))), (1, .inl v1), (2, .inl v2), (3, .inl v3)]) (st' := [.inl ((t52 * t56) * t61), .inl v3, .inl v2, .inr (.inr (some v0))]) (pc' := 65) rfl ?_
          obtain ⟨a65, ha65, h⟩ := gob h
          obtain ⟨q65, hq65, h⟩ := gob h
          refine Wx.callV ok kX7_classOf 38 rfl lm_RX7_126 cd_X7_faultOf ha65 [.inl v2, .inl v3, .inl ((t52 * t56) * t61)] (some (.inl q65.1)) (aX7_faultOf _ _ hq65) (by decide) rfl (Nat.le_of_ble_eq_true rfl) rfl rfl ?_
          refine Wx.run ok kX7_classOf 39 2 (lv' := [(4, .inl q65.1), (0, .inr (.inr (some v0))), (1, .inl v1), (2, .inl v2), (3, .inl v3)]) (st' := [.inl q65.1]) (pc' := 72) rfl ?_
          refine Wx.if_ge ok kX7_classOf 41 (tgt := 78) rfl (by decide) h (fun hc72 h => ?_) (fun hc72 h => ?_)
          · refine Wx.run ok kX7_classOf 44 1 (lv' := [(4, .inl q65.1), (0, .inr (.inr (some v0))), (1, .inl v1), (2, .inl v2), (3, .inl v3)]) (st' := [.inr (.inr (some v0))]) (pc' := 79) rfl ?_
            obtain ⟨a79, ha79, h⟩ := gob h
            obtain ⟨q79, hq79, h⟩ := gob h
            refine Wx.callV ok kX7_classOf 45 rfl lm_RX7_220 cd_X7_clearLine ha79 [] none (aX7_clearLine _ _ hq79) (by decide) rfl (Nat.le_of_ble_eq_true rfl) rfl rfl ?_
            refine Wx.run ok kX7_classOf 46 2 (lv' := [(5, .inl (0 : Int32)), (4, .inl q65.1), (0, .inr (.inr (some v0))), (1, .inl v1), (2, .inl v2), (3, .inl v3)]) (st' := []) (pc' := 85) rfl ?_
            refine Wx.sub [2, 4, 0] rfl ?_
            refine aX7_classOf_l85 ok hres (F := F) _ ?_ F _ _ _ _ h
            · intro v0 w h
              refine Wx.run ok kX7_classOf 119 1 (lv' := [(0, .inr (.inr (some v0)))]) (st' := [.inr (.inr (some v0))]) (pc' := 230) rfl ?_
              obtain ⟨a230, ha230, h⟩ := gob h
              obtain ⟨q230, hq230, h⟩ := gob h
              refine Wx.callV ok kX7_classOf 120 rfl lm_RX7_278 cd_X7_isCocycle ha230 [] (some (.inl q230.1)) (aX7_isCocycle _ _ hq230) (by decide) rfl (Nat.le_of_ble_eq_true rfl) rfl rfl ?_
              refine Wx.if_eq ok kX7_classOf 121 (tgt := 243) rfl (by decide) h (fun hc233 h => ?_) (fun hc233 h => ?_)
              · refine Wx.run ok kX7_classOf 125 1 (lv' := [(0, .inr (.inr (some v0)))]) (st' := [.inl (-4 : Int32)]) (pc' := 245) rfl ?_
                exact Wx.ireturn ok kX7_classOf 126 rfl hres h (by decide)
              · refine Wx.run ok kX7_classOf 122 1 (lv' := [(0, .inr (.inr (some v0)))]) (st' := [.inr (.inr (some v0))]) (pc' := 237) rfl ?_
                obtain ⟨a237, ha237, h⟩ := gob h
                obtain ⟨q237, hq237, h⟩ := gob h
                refine Wx.callV ok kX7_classOf 123 rfl lm_RX7_282 cd_X7_classOfLine ha237 [] (some (.inl q237.1)) (aX7_classOfLine _ _ hq237) (by decide) rfl (Nat.le_of_ble_eq_true rfl) rfl rfl ?_
                refine Wx.jump ok kX7_classOf 124 (tgt := 245) rfl (by decide) ?_
                exact Wx.ireturn ok kX7_classOf 126 rfl hres h (by decide)
          · refine Wx.run ok kX7_classOf 42 1 (lv' := [(4, .inl q65.1), (0, .inr (.inr (some v0))), (1, .inl v1), (2, .inl v2), (3, .inl v3)]) (st' := [.inl q65.1]) (pc' := 77) rfl ?_
            exact Wx.ireturn ok kX7_classOf 43 rfl hres h (by decide)
        · refine Wx.run ok kX7_classOf 22 1 (lv' := [(0, .inr (.inr (some v0))), (1, .inl v1), (2, .inl v2), (3, .inl v3)]) (st' := [.inl (-2 : Int32)]) (pc' := 42) rfl ?_
          exact Wx.ireturn ok kX7_classOf 23 rfl hres h (by decide)
