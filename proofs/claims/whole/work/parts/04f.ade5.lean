set_option maxRecDepth 100000 in
set_option maxHeartbeats 4000000 in
theorem aX7_nextLike_h17 {X : gX} (ok : gOk X cX7_nextLike RX7 7 (some .int) rmX7_nextLike) {res : Int32 × gW} (hres : gRs X (some (.int res.1)) res.2) {F : Nat} (r : Nat → Int32 → Int32 → Int32 → gW → Option (Int32 × gW)) (hr : ∀ (v0 : Nat) (v2 : Int32) (v5 : Int32) (v6 : Int32) (w : gW), r v0 v2 v5 v6 w = some res → Wx X w 0 0 17 [(0, .inr (.inr (some v0))), (2, .inl v2), (5, .inl v5), (6, .inl v6)] []) : ∀ (v0 : Nat) (v2 : Int32) (v5 : Int32) (v6 : Int32) (w : gW), mX7_nextLike_h17 F r v0 v2 v5 v6 w = some res → Wx X w 0 0 17 [(0, .inr (.inr (some v0))), (2, .inl v2), (5, .inl v5), (6, .inl v6)] [] := by
  intro v0 v2 v5 v6 w h
  unfold mX7_nextLike_h17 at h
  refine Wx.run ok kX7_nextLike 10 2 (lv' := [(0, .inr (.inr (some v0))), (2, .inl v2), (5, .inl v5), (6, .inl v6)]) (st' := [.inr (.inr (some v0)), .inl v5]) (pc' := 20) rfl ?_
  refine Wx.getR ok kX7_nextLike 12 rfl lk_RX7_7_0 h (fun t20 h => ?_)
  refine Wx.run ok kX7_nextLike 13 1 (lv' := [(0, .inr (.inr (some v0))), (2, .inl v2), (5, .inl v5), (6, .inl v6)]) (st' := [.inl v2, .inr (.inr t20), .inl v5]) (pc' := 24) rfl ?_
  refine Wx.iald ok kX7_nextLike 14 rfl h (fun t24 h => ?_)
  refine Wx.icmp_ge ok kX7_nextLike 15 (tgt := 46) rfl (by decide) h (fun hc25 h => ?_) (fun hc25 h => ?_)
  · refine Wx.run ok kX7_nextLike 24 1 (lv' := [(0, .inr (.inr (some v0))), (2, .inl v2), (5, .inl v5), (6, .inl v6)]) (st' := [.inl v5]) (pc' := 48) rfl ?_
    exact Wx.ireturn ok kX7_nextLike 25 rfl hres h (by decide)
  · refine Wx.run ok kX7_nextLike 16 3 (lv' := [(0, .inr (.inr (some v0))), (2, .inl v2), (5, .inl v5), (6, .inl v6)]) (st' := [.inl v5, .inl v2, .inr (.inr (some v0))]) (pc' := 32) rfl ?_
    obtain ⟨a32, ha32, h⟩ := gob h
    obtain ⟨q32, hq32, h⟩ := gob h
    refine Wx.callV ok kX7_nextLike 19 rfl lm_RX7_140 cd_X7_orderOf ha32 [.inl v2, .inl v5] (some (.inl q32.1)) (aX7_orderOf _ _ hq32) (by decide) rfl (Nat.le_of_ble_eq_true rfl) rfl rfl ?_
    refine Wx.run ok kX7_nextLike 20 1 (lv' := [(0, .inr (.inr (some v0))), (2, .inl v2), (5, .inl v5), (6, .inl v6)]) (st' := [.inl v6, .inl q32.1]) (pc' := 37) rfl ?_
    refine Wx.icmp_eq ok kX7_nextLike 21 (tgt := 46) rfl (by decide) h (fun hc37 h => ?_) (fun hc37 h => ?_)
    · refine Wx.run ok kX7_nextLike 24 1 (lv' := [(0, .inr (.inr (some v0))), (2, .inl v2), (5, .inl v5), (6, .inl v6)]) (st' := [.inl v5]) (pc' := 48) rfl ?_
      exact Wx.ireturn ok kX7_nextLike 25 rfl hres h (by decide)
    · refine Wx.run ok kX7_nextLike 22 1 (lv' := [(5, .inl (v5 + (1 : Int32))), (0, .inr (.inr (some v0))), (2, .inl v2), (6, .inl v6)]) (st' := []) (pc' := 43) rfl ?_
      refine Wx.jump ok kX7_nextLike 23 (tgt := 17) rfl (by decide) ?_
      refine Wx.sub [1, 2, 0, 3] rfl ?_
      exact hr _ _ _ _ _ h
set_option maxRecDepth 100000 in
set_option maxHeartbeats 4000000 in
theorem aX7_nextLike_l17 {X : gX} (ok : gOk X cX7_nextLike RX7 7 (some .int) rmX7_nextLike) {res : Int32 × gW} (hres : gRs X (some (.int res.1)) res.2) {F : Nat} : ∀ (n : Nat) (v0 : Nat) (v2 : Int32) (v5 : Int32) (v6 : Int32) (w : gW), mX7_nextLike_l17 F n v0 v2 v5 v6 w = some res → Wx X w 0 0 17 [(0, .inr (.inr (some v0))), (2, .inl v2), (5, .inl v5), (6, .inl v6)] [] := by
  intro n
  induction n with
  | zero => intro v0 v2 v5 v6 w h; cases (show (none : Option (Int32 × gW)) = some res from h)
  | succ n ih =>
    intro v0 v2 v5 v6 w h
    exact aX7_nextLike_h17 ok hres (F := F) (mX7_nextLike_l17 F n) ih v0 v2 v5 v6 w h
set_option maxRecDepth 100000 in
set_option maxHeartbeats 4000000 in
theorem aX7_nextLike (l : Launch) (G : gG) {F : Nat} {v0 : Nat} {v1 : Int32} {v2 : Int32} {v3 : Int32} {v4 : Int32} {w : gW} {res : Int32 × gW} (h : mX7_nextLike F v0 v1 v2 v3 v4 w = some res) : gM l yX7_nextLike cX7_nextLike 7 (some .int) rmX7_nextLike G w (gTs [.inr (.inr (some v0)), .inl v1, .inl v2, .inl v3, .inl v4]) (some (.int res.1)) res.2 := by
  refine gM_of (y := yX7_nextLike) (by decide +kernel) (Nat.le_of_ble_eq_true rfl) ?_
  intro X ok hl hG hres hnm
  subst hl; subst hG
  unfold mX7_nextLike at h
  show Wx X w 0 0 0 [(0, .inr (.inr (some v0))), (1, .inl v1), (2, .inl v2), (3, .inl v3), (4, .inl v4)] []
  refine Wx.run ok kX7_nextLike 0 5 (lv' := [(5, .inl v4), (0, .inr (.inr (some v0))), (1, .inl v1), (2, .inl v2), (3, .inl v3), (4, .inl v4)]) (st' := [.inr (.inr (some v0)), .inl v1, .inr (.inr (some v0))]) (pc' := 7) rfl ?_
  refine Wx.getR ok kX7_nextLike 5 rfl lk_RX7_58_0 h (fun t7 h => ?_)
  refine Wx.run ok kX7_nextLike 6 1 (lv' := [(5, .inl v4), (0, .inr (.inr (some v0))), (1, .inl v1), (2, .inl v2), (3, .inl v3), (4, .inl v4)]) (st' := [.inl v3, .inr (.inr t7), .inl v1, .inr (.inr (some v0))]) (pc' := 11) rfl ?_
  refine Wx.iald ok kX7_nextLike 7 rfl h (fun t11 h => ?_)
  obtain ⟨a12, ha12, h⟩ := gob h
  obtain ⟨q12, hq12, h⟩ := gob h
  refine Wx.callV ok kX7_nextLike 8 rfl lm_RX7_140 cd_X7_orderOf ha12 [.inl v1, .inl t11] (some (.inl q12.1)) (aX7_orderOf _ _ hq12) (by decide) rfl (Nat.le_of_ble_eq_true rfl) rfl rfl ?_
  refine Wx.run ok kX7_nextLike 9 1 (lv' := [(6, .inl q12.1), (5, .inl v4), (0, .inr (.inr (some v0))), (1, .inl v1), (2, .inl v2), (3, .inl v3), (4, .inl v4)]) (st' := []) (pc' := 17) rfl ?_
  refine Wx.sub [2, 4, 1, 0] rfl ?_
  refine aX7_nextLike_l17 ok hres (F := F) F _ _ _ _ _ h
set_option maxRecDepth 100000 in
set_option maxHeartbeats 4000000 in
theorem aX7_ofOrder_b33 {X : gX} (ok : gOk X cX7_ofOrder RX7 5 (some .int) rmX7_ofOrder) {res : Int32 × gW} (hres : gRs X (some (.int res.1)) res.2) {F : Nat} (r : Nat → Int32 → Int32 → Int32 → Int32 → gW → Option (Int32 × gW)) (hr : ∀ (v0 : Nat) (v1 : Int32) (v2 : Int32) (v3 : Int32) (v4 : Int32) (w : gW), r v0 v1 v2 v3 v4 w = some res → Wx X w 0 0 5 [(0, .inr (.inr (some v0))), (1, .inl v1), (2, .inl v2), (3, .inl v3), (4, .inl v4)] []) : ∀ (v0 : Nat) (v1 : Int32) (v2 : Int32) (v4 : Int32) (s0 : Int32) (s1 : Int32) (w : gW), mX7_ofOrder_b33 F r v0 v1 v2 v4 s0 s1 w = some res → Wx X w 0 0 33 [(0, .inr (.inr (some v0))), (1, .inl v1), (2, .inl v2), (4, .inl v4)] [.inl s1, .inl s0] := by
  intro v0 v1 v2 v4 s0 s1 w h
  unfold mX7_ofOrder_b33 at h
  refine Wx.run ok kX7_ofOrder 20 3 (lv' := [(4, .inl (v4 + (1 : Int32))), (3, .inl (s0 + s1)), (0, .inr (.inr (some v0))), (1, .inl v1), (2, .inl v2)]) (st' := []) (pc' := 38) rfl ?_
  refine Wx.jump ok kX7_ofOrder 23 (tgt := 5) rfl (by decide) ?_
  refine Wx.sub [2, 3, 4, 1, 0] rfl ?_
  exact hr _ _ _ _ _ _ h
set_option maxRecDepth 100000 in
set_option maxHeartbeats 4000000 in
theorem aX7_ofOrder_h5 {X : gX} (ok : gOk X cX7_ofOrder RX7 5 (some .int) rmX7_ofOrder) {res : Int32 × gW} (hres : gRs X (some (.int res.1)) res.2) {F : Nat} (r : Nat → Int32 → Int32 → Int32 → Int32 → gW → Option (Int32 × gW)) (hr : ∀ (v0 : Nat) (v1 : Int32) (v2 : Int32) (v3 : Int32) (v4 : Int32) (w : gW), r v0 v1 v2 v3 v4 w = some res → Wx X w 0 0 5 [(0, .inr (.inr (some v0))), (1, .inl v1), (2, .inl v2), (3, .inl v3), (4, .inl v4)] []) : ∀ (v0 : Nat) (v1 : Int32) (v2 : Int32) (v3 : Int32) (v4 : Int32) (w : gW), mX7_ofOrder_h5 F r v0 v1 v2 v3 v4 w = some res → Wx X w 0 0 5 [(0, .inr (.inr (some v0))), (1, .inl v1), (2, .inl v2), (3, .inl v3), (4, .inl v4)] [] := by
  intro v0 v1 v2 v3 v4 w h
  unfold mX7_ofOrder_h5 at h
  refine Wx.run ok kX7_ofOrder 4 2 (lv' := [(0, .inr (.inr (some v0))), (1, .inl v1), (2, .inl v2), (3, .inl v3), (4, .inl v4)]) (st' := [.inr (.inr (some v0)), .inl v4]) (pc' := 8) rfl ?_
  refine Wx.getR ok kX7_ofOrder 6 rfl lk_RX7_7_0 h (fun t8 h => ?_)
  refine Wx.run ok kX7_ofOrder 7 1 (lv' := [(0, .inr (.inr (some v0))), (1, .inl v1), (2, .inl v2), (3, .inl v3), (4, .inl v4)]) (st' := [.inl v1, .inr (.inr t8), .inl v4]) (pc' := 12) rfl ?_
  refine Wx.iald ok kX7_ofOrder 8 rfl h (fun t12 h => ?_)
  refine Wx.icmp_ge ok kX7_ofOrder 9 (tgt := 41) rfl (by decide) h (fun hc13 h => ?_) (fun hc13 h => ?_)
  · refine Wx.run ok kX7_ofOrder 24 1 (lv' := [(0, .inr (.inr (some v0))), (1, .inl v1), (2, .inl v2), (3, .inl v3), (4, .inl v4)]) (st' := [.inl v3]) (pc' := 42) rfl ?_
    exact Wx.ireturn ok kX7_ofOrder 25 rfl hres h (by decide)
  · refine Wx.run ok kX7_ofOrder 10 4 (lv' := [(0, .inr (.inr (some v0))), (1, .inl v1), (2, .inl v2), (3, .inl v3), (4, .inl v4)]) (st' := [.inl v4, .inl v1, .inr (.inr (some v0)), .inl v3]) (pc' := 21) rfl ?_
    obtain ⟨a21, ha21, h⟩ := gob h
    obtain ⟨q21, hq21, h⟩ := gob h
    refine Wx.callV ok kX7_ofOrder 14 rfl lm_RX7_140 cd_X7_orderOf ha21 [.inl v1, .inl v4] (some (.inl q21.1)) (aX7_orderOf _ _ hq21) (by decide) rfl (Nat.le_of_ble_eq_true rfl) rfl rfl ?_
    refine Wx.run ok kX7_ofOrder 15 1 (lv' := [(0, .inr (.inr (some v0))), (1, .inl v1), (2, .inl v2), (3, .inl v3), (4, .inl v4)]) (st' := [.inl v2, .inl q21.1, .inl v3]) (pc' := 25) rfl ?_
    refine Wx.icmp_ne ok kX7_ofOrder 16 (tgt := 32) rfl (by decide) h (fun hc25 h => ?_) (fun hc25 h => ?_)
    · refine Wx.run ok kX7_ofOrder 17 1 (lv' := [(0, .inr (.inr (some v0))), (1, .inl v1), (2, .inl v2), (3, .inl v3), (4, .inl v4)]) (st' := [.inl (1 : Int32), .inl v3]) (pc' := 29) rfl ?_
      refine Wx.jump ok kX7_ofOrder 18 (tgt := 33) rfl (by decide) ?_
      refine Wx.sub [0, 1, 2, 4] rfl ?_
      exact aX7_ofOrder_b33 ok hres (F := F) r hr _ _ _ _ _ _ _ h
    · refine Wx.run ok kX7_ofOrder 19 1 (lv' := [(0, .inr (.inr (some v0))), (1, .inl v1), (2, .inl v2), (3, .inl v3), (4, .inl v4)]) (st' := [.inl (0 : Int32), .inl v3]) (pc' := 33) rfl ?_
      refine Wx.sub [0, 1, 2, 4] rfl ?_
      exact aX7_ofOrder_b33 ok hres (F := F) r hr _ _ _ _ _ _ _ h
set_option maxRecDepth 100000 in
set_option maxHeartbeats 4000000 in
theorem aX7_ofOrder_l5 {X : gX} (ok : gOk X cX7_ofOrder RX7 5 (some .int) rmX7_ofOrder) {res : Int32 × gW} (hres : gRs X (some (.int res.1)) res.2) {F : Nat} : ∀ (n : Nat) (v0 : Nat) (v1 : Int32) (v2 : Int32) (v3 : Int32) (v4 : Int32) (w : gW), mX7_ofOrder_l5 F n v0 v1 v2 v3 v4 w = some res → Wx X w 0 0 5 [(0, .inr (.inr (some v0))), (1, .inl v1), (2, .inl v2), (3, .inl v3), (4, .inl v4)] [] := by
  intro n
  induction n with
  | zero => intro v0 v1 v2 v3 v4 w h; cases (show (none : Option (Int32 × gW)) = some res from h)
  | succ n ih =>
    intro v0 v1 v2 v3 v4 w h
    exact aX7_ofOrder_h5 ok hres (F := F) (mX7_ofOrder_l5 F n) ih v0 v1 v2 v3 v4 w h
set_option maxRecDepth 100000 in
set_option maxHeartbeats 4000000 in
theorem aX7_ofOrder (l : Launch) (G : gG) {F : Nat} {v0 : Nat} {v1 : Int32} {v2 : Int32} {w : gW} {res : Int32 × gW} (h : mX7_ofOrder F v0 v1 v2 w = some res) : gM l yX7_ofOrder cX7_ofOrder 5 (some .int) rmX7_ofOrder G w (gTs [.inr (.inr (some v0)), .inl v1, .inl v2]) (some (.int res.1)) res.2 := by
  refine gM_of (y := yX7_ofOrder) (by decide +kernel) (Nat.le_of_ble_eq_true rfl) ?_
  intro X ok hl hG hres hnm
  subst hl; subst hG
  unfold mX7_ofOrder at h
  show Wx X w 0 0 0 [(0, .inr (.inr (some v0))), (1, .inl v1), (2, .inl v2)] []
  refine Wx.run ok kX7_ofOrder 0 4 (lv' := [(4, .inl (0 : Int32)), (3, .inl (0 : Int32)), (0, .inr (.inr (some v0))), (1, .inl v1), (2, .inl v2)]) (st' := []) (pc' := 5) rfl ?_
  refine Wx.sub [2, 3, 4, 1, 0] rfl ?_
  refine aX7_ofOrder_l5 ok hres (F := F) F _ _ _ _ _ _ h
set_option maxRecDepth 100000 in
set_option maxHeartbeats 4000000 in
theorem aX7_order (l : Launch) (G : gG) {F : Nat} {v0 : Nat} {v1 : Int32} {w : gW} {res : Int32 × gW} (h : mX7_order F v0 v1 w = some res) : gM l yX7_order cX7_order 2 (some .int) rmX7_order G w (gTs [.inr (.inr (some v0)), .inl v1]) (some (.int res.1)) res.2 := by
  refine gM_of (y := yX7_order) (by decide +kernel) (Nat.le_of_ble_eq_true rfl) ?_
  intro X ok hl hG hres hnm
  subst hl; subst hG
  unfold mX7_order at h
  show Wx X w 0 0 0 [(0, .inr (.inr (some v0))), (1, .inl v1)] []
  refine Wx.run ok kX7_order 0 2 (lv' := [(0, .inr (.inr (some v0))), (1, .inl v1)]) (st' := [.inl v1, .inr (.inr (some v0))]) (pc' := 2) rfl ?_
  obtain ⟨a2, ha2, h⟩ := gob h
  obtain ⟨q2, hq2, h⟩ := gob h
  refine Wx.callV ok kX7_order 2 rfl lm_RX7_114 cd_X7_isGroup ha2 [.inl v1] (some (.inl q2.1)) (aX7_isGroup _ _ hq2) (by decide) rfl (Nat.le_of_ble_eq_true rfl) rfl rfl ?_
  refine Wx.if_eq ok kX7_order 3 (tgt := 17) rfl (by decide) h (fun hc5 h => ?_) (fun hc5 h => ?_)
  · refine Wx.run ok kX7_order 9 1 (lv' := [(0, .inr (.inr (some v0))), (1, .inl v1)]) (st' := [.inl (-1 : Int32)]) (pc' := 18) rfl ?_
    exact Wx.ireturn ok kX7_order 10 rfl hres h (by decide)
  · refine Wx.run ok kX7_order 4 1 (lv' := [(0, .inr (.inr (some v0))), (1, .inl v1)]) (st' := [.inr (.inr (some v0))]) (pc' := 9) rfl ?_
    refine Wx.getR ok kX7_order 5 rfl lk_RX7_7_0 h (fun t9 h => ?_)
    refine Wx.run ok kX7_order 6 1 (lv' := [(0, .inr (.inr (some v0))), (1, .inl v1)]) (st' := [.inl v1, .inr (.inr t9)]) (pc' := 13) rfl ?_
    refine Wx.iald ok kX7_order 7 rfl h (fun t13 h => ?_)
    refine Wx.jump ok kX7_order 8 (tgt := 18) rfl (by decide) ?_
    exact Wx.ireturn ok kX7_order 10 rfl hres h (by decide)
set_option maxRecDepth 100000 in
set_option maxHeartbeats 4000000 in
theorem aX7_pair_h69 {X : gX} (ok : gOk X cX7_pair RX7 7 (some .int) rmX7_pair) {res : Int32 × gW} (hres : gRs X (some (.int res.1)) res.2) {F : Nat} (r : Nat → Int32 → Int32 → Int32 → Int32 → Int32 → Int32 → gW → Option (Int32 × gW)) (k126 : Nat → Int32 → Int32 → Int32 → Int32 → Int32 → gW → Option (Int32 × gW)) (hr : ∀ (v0 : Nat) (v1 : Int32) (v2 : Int32) (v3 : Int32) (v4 : Int32) (v5 : Int32) (v6 : Int32) (w : gW), r v0 v1 v2 v3 v4 v5 v6 w = some res → Wx X w 0 0 69 [(0, .inr (.inr (some v0))), (1, .inl v1), (2, .inl v2), (3, .inl v3), (4, .inl v4), (5, .inl v5), (6, .inl v6)] []) (hk126 : ∀ (v0 : Nat) (v1 : Int32) (v2 : Int32) (v3 : Int32) (v4 : Int32) (v5 : Int32) (w : gW), k126 v0 v1 v2 v3 v4 v5 w = some res → Wx X w 0 0 126 [(0, .inr (.inr (some v0))), (1, .inl v1), (2, .inl v2), (3, .inl v3), (4, .inl v4), (5, .inl v5)] []) : ∀ (v0 : Nat) (v1 : Int32) (v2 : Int32) (v3 : Int32) (v4 : Int32) (v5 : Int32) (v6 : Int32) (w : gW), mX7_pair_h69 F r k126 v0 v1 v2 v3 v4 v5 v6 w = some res → Wx X w 0 0 69 [(0, .inr (.inr (some v0))), (1, .inl v1), (2, .inl v2), (3, .inl v3), (4, .inl v4), (5, .inl v5), (6, .inl v6)] [] := by
  intro v0 v1 v2 v3 v4 v5 v6 w h
  unfold mX7_pair_h69 at h
  refine Wx.run ok kX7_pair 40 4 (lv' := [(0, .inr (.inr (some v0))), (1, .inl v1), (2, .inl v2), (3, .inl v3), (4, .inl v4), (5, .inl v5), (6, .inl v6)]) (st' := [.inl (v3 * v4), .inl v6]) (pc' := 75) rfl ?_
  refine Wx.icmp_ge ok kX7_pair 44 (tgt := 126) rfl (by decide) h (fun hc75 h => ?_) (fun hc75 h => ?_)
  · refine Wx.sub [0, 1, 2, 3, 4, 5] rfl ?_
    exact hk126 _ _ _ _ _ _ _ h
  · refine Wx.run ok kX7_pair 45 8 (lv' := [(0, .inr (.inr (some v0))), (1, .inl v1), (2, .inl v2), (3, .inl v3), (4, .inl v4), (5, .inl v5), (6, .inl v6)]) (st' := [.inl v4, .inl v5, .inl v1, .inr (.inr (some v0)), .inl v4, .inl v6, .inl v5, .inr (.inr (some v0))]) (pc' := 91) rfl ?_
    refine Wx.idiv ok kX7_pair 53 rfl h (fun t91 h => ?_)
    refine Wx.run ok kX7_pair 54 2 (lv' := [(0, .inr (.inr (some v0))), (1, .inl v1), (2, .inl v2), (3, .inl v3), (4, .inl v4), (5, .inl v5), (6, .inl v6)]) (st' := [.inl v4, .inl v6, .inl t91, .inl v1, .inr (.inr (some v0)), .inl v4, .inl v6, .inl v5, .inr (.inr (some v0))]) (pc' := 96) rfl ?_
    refine Wx.idiv ok kX7_pair 56 rfl h (fun t96 h => ?_)
    obtain ⟨a97, ha97, h⟩ := gob h
    obtain ⟨q97, hq97, h⟩ := gob h
    refine Wx.callV ok kX7_pair 57 rfl lm_RX7_118 cd_X7_prod ha97 [.inl v1, .inl t91, .inl t96] (some (.inl q97.1)) (aX7_prod _ _ hq97) (by decide) rfl (Nat.le_of_ble_eq_true rfl) rfl rfl ?_
    refine Wx.run ok kX7_pair 58 5 (lv' := [(0, .inr (.inr (some v0))), (1, .inl v1), (2, .inl v2), (3, .inl v3), (4, .inl v4), (5, .inl v5), (6, .inl v6)]) (st' := [.inl v4, .inl v5, .inl v2, .inr (.inr (some v0)), .inl (v4 * q97.1), .inl v6, .inl v5, .inr (.inr (some v0))]) (pc' := 107) rfl ?_
    refine Wx.irem ok kX7_pair 63 rfl h (fun t107 h => ?_)
    refine Wx.run ok kX7_pair 64 2 (lv' := [(0, .inr (.inr (some v0))), (1, .inl v1), (2, .inl v2), (3, .inl v3), (4, .inl v4), (5, .inl v5), (6, .inl v6)]) (st' := [.inl v4, .inl v6, .inl t107, .inl v2, .inr (.inr (some v0)), .inl (v4 * q97.1), .inl v6, .inl v5, .inr (.inr (some v0))]) (pc' := 112) rfl ?_
    refine Wx.irem ok kX7_pair 66 rfl h (fun t112 h => ?_)
    obtain ⟨a113, ha113, h⟩ := gob h
    obtain ⟨q113, hq113, h⟩ := gob h
    refine Wx.callV ok kX7_pair 67 rfl lm_RX7_118 cd_X7_prod ha113 [.inl v2, .inl t107, .inl t112] (some (.inl q113.1)) (aX7_prod _ _ hq113) (by decide) rfl (Nat.le_of_ble_eq_true rfl) rfl rfl ?_
    refine Wx.run ok kX7_pair 68 1 (lv' := [(0, .inr (.inr (some v0))), (1, .inl v1), (2, .inl v2), (3, .inl v3), (4, .inl v4), (5, .inl v5), (6, .inl v6)]) (st' := [.inl ((v4 * q97.1) + q113.1), .inl v6, .inl v5, .inr (.inr (some v0))]) (pc' := 117) rfl ?_
    obtain ⟨a117, ha117, h⟩ := gob h
    obtain ⟨q117, hq117, h⟩ := gob h
    refine Wx.callV ok kX7_pair 69 rfl lm_RX7_104 cd_X7_set ha117 [.inl v5, .inl v6, .inl ((v4 * q97.1) + q113.1)] none (aX7_set _ _ hq117) (by decide) rfl (Nat.le_of_ble_eq_true rfl) rfl rfl ?_
    refine Wx.run ok kX7_pair 70 1 (lv' := [(6, .inl (v6 + (1 : Int32))), (0, .inr (.inr (some v0))), (1, .inl v1), (2, .inl v2), (3, .inl v3), (4, .inl v4), (5, .inl v5)]) (st' := []) (pc' := 123) rfl ?_
    refine Wx.jump ok kX7_pair 71 (tgt := 69) rfl (by decide) ?_
    refine Wx.sub [1, 2, 3, 4, 5, 6, 0] rfl ?_
    exact hr _ _ _ _ _ _ _ _ h
set_option maxRecDepth 100000 in
set_option maxHeartbeats 4000000 in
theorem aX7_pair_l69 {X : gX} (ok : gOk X cX7_pair RX7 7 (some .int) rmX7_pair) {res : Int32 × gW} (hres : gRs X (some (.int res.1)) res.2) {F : Nat} (k126 : Nat → Int32 → Int32 → Int32 → Int32 → Int32 → gW → Option (Int32 × gW)) (hk126 : ∀ (v0 : Nat) (v1 : Int32) (v2 : Int32) (v3 : Int32) (v4 : Int32) (v5 : Int32) (w : gW), k126 v0 v1 v2 v3 v4 v5 w = some res → Wx X w 0 0 126 [(0, .inr (.inr (some v0))), (1, .inl v1), (2, .inl v2), (3, .inl v3), (4, .inl v4), (5, .inl v5)] []) : ∀ (n : Nat) (v0 : Nat) (v1 : Int32) (v2 : Int32) (v3 : Int32) (v4 : Int32) (v5 : Int32) (v6 : Int32) (w : gW), mX7_pair_l69 F k126 n v0 v1 v2 v3 v4 v5 v6 w = some res → Wx X w 0 0 69 [(0, .inr (.inr (some v0))), (1, .inl v1), (2, .inl v2), (3, .inl v3), (4, .inl v4), (5, .inl v5), (6, .inl v6)] [] := by
  intro n
  induction n with
  | zero => intro v0 v1 v2 v3 v4 v5 v6 w h; cases (show (none : Option (Int32 × gW)) = some res from h)
  | succ n ih =>
    intro v0 v1 v2 v3 v4 v5 v6 w h
    exact aX7_pair_h69 ok hres (F := F) (mX7_pair_l69 F k126 n) k126 ih hk126 v0 v1 v2 v3 v4 v5 v6 w h
set_option maxRecDepth 100000 in
set_option maxHeartbeats 4000000 in
theorem aX7_pair_h57 {X : gX} (ok : gOk X cX7_pair RX7 7 (some .int) rmX7_pair) {res : Int32 × gW} (hres : gRs X (some (.int res.1)) res.2) {F : Nat} (r : Nat → Int32 → Int32 → Int32 → Int32 → Int32 → gW → Option (Int32 × gW)) (k132 : Nat → Int32 → Int32 → gW → Option (Int32 × gW)) (hr : ∀ (v0 : Nat) (v1 : Int32) (v2 : Int32) (v3 : Int32) (v4 : Int32) (v5 : Int32) (w : gW), r v0 v1 v2 v3 v4 v5 w = some res → Wx X w 0 0 57 [(0, .inr (.inr (some v0))), (1, .inl v1), (2, .inl v2), (3, .inl v3), (4, .inl v4), (5, .inl v5)] []) (hk132 : ∀ (v0 : Nat) (v3 : Int32) (v4 : Int32) (w : gW), k132 v0 v3 v4 w = some res → Wx X w 0 0 132 [(0, .inr (.inr (some v0))), (3, .inl v3), (4, .inl v4)] []) : ∀ (v0 : Nat) (v1 : Int32) (v2 : Int32) (v3 : Int32) (v4 : Int32) (v5 : Int32) (w : gW), mX7_pair_h57 F r k132 v0 v1 v2 v3 v4 v5 w = some res → Wx X w 0 0 57 [(0, .inr (.inr (some v0))), (1, .inl v1), (2, .inl v2), (3, .inl v3), (4, .inl v4), (5, .inl v5)] [] := by
  intro v0 v1 v2 v3 v4 v5 w h
  unfold mX7_pair_h57 at h
  refine Wx.run ok kX7_pair 33 4 (lv' := [(0, .inr (.inr (some v0))), (1, .inl v1), (2, .inl v2), (3, .inl v3), (4, .inl v4), (5, .inl v5)]) (st' := [.inl (v3 * v4), .inl v5]) (pc' := 63) rfl ?_
  refine Wx.icmp_ge ok kX7_pair 37 (tgt := 132) rfl (by decide) h (fun hc63 h => ?_) (fun hc63 h => ?_)
  · refine Wx.sub [0, 3, 4] rfl ?_
    exact hk132 _ _ _ _ h
  · refine Wx.run ok kX7_pair 38 2 (lv' := [(6, .inl (0 : Int32)), (0, .inr (.inr (some v0))), (1, .inl v1), (2, .inl v2), (3, .inl v3), (4, .inl v4), (5, .inl v5)]) (st' := []) (pc' := 69) rfl ?_
    refine Wx.sub [1, 2, 3, 4, 5, 6, 0] rfl ?_
    refine aX7_pair_l69 ok hres (F := F) _ ?_ F _ _ _ _ _ _ _ _ h
    · intro v0 v1 v2 v3 v4 v5 w h
      refine Wx.run ok kX7_pair 72 1 (lv' := [(5, .inl (v5 + (1 : Int32))), (0, .inr (.inr (some v0))), (1, .inl v1), (2, .inl v2), (3, .inl v3), (4, .inl v4)]) (st' := []) (pc' := 129) rfl ?_
      refine Wx.jump ok kX7_pair 73 (tgt := 57) rfl (by decide) ?_
      refine Wx.sub [1, 2, 3, 4, 5, 0] rfl ?_
      exact hr _ _ _ _ _ _ _ h
set_option maxRecDepth 100000 in
set_option maxHeartbeats 4000000 in
theorem aX7_pair_l57 {X : gX} (ok : gOk X cX7_pair RX7 7 (some .int) rmX7_pair) {res : Int32 × gW} (hres : gRs X (some (.int res.1)) res.2) {F : Nat} (k132 : Nat → Int32 → Int32 → gW → Option (Int32 × gW)) (hk132 : ∀ (v0 : Nat) (v3 : Int32) (v4 : Int32) (w : gW), k132 v0 v3 v4 w = some res → Wx X w 0 0 132 [(0, .inr (.inr (some v0))), (3, .inl v3), (4, .inl v4)] []) : ∀ (n : Nat) (v0 : Nat) (v1 : Int32) (v2 : Int32) (v3 : Int32) (v4 : Int32) (v5 : Int32) (w : gW), mX7_pair_l57 F k132 n v0 v1 v2 v3 v4 v5 w = some res → Wx X w 0 0 57 [(0, .inr (.inr (some v0))), (1, .inl v1), (2, .inl v2), (3, .inl v3), (4, .inl v4), (5, .inl v5)] [] := by
  intro n
  induction n with
  | zero => intro v0 v1 v2 v3 v4 v5 w h; cases (show (none : Option (Int32 × gW)) = some res from h)
  | succ n ih =>
    intro v0 v1 v2 v3 v4 v5 w h
    exact aX7_pair_h57 ok hres (F := F) (mX7_pair_l57 F k132 n) k132 ih hk132 v0 v1 v2 v3 v4 v5 w h
set_option maxRecDepth 100000 in
set_option maxHeartbeats 4000000 in
theorem aX7_pair (l : Launch) (G : gG) {F : Nat} {v0 : Nat} {v1 : Int32} {v2 : Int32} {w : gW} {res : Int32 × gW} (h : mX7_pair F v0 v1 v2 w = some res) : gM l yX7_pair cX7_pair 7 (some .int) rmX7_pair G w (gTs [.inr (.inr (some v0)), .inl v1, .inl v2]) (some (.int res.1)) res.2 := by
  refine gM_of (y := yX7_pair) (by decide +kernel) (Nat.le_of_ble_eq_true rfl) ?_
  intro X ok hl hG hres hnm
  subst hl; subst hG
  unfold mX7_pair at h
  show Wx X w 0 0 0 [(0, .inr (.inr (some v0))), (1, .inl v1), (2, .inl v2)] []
  refine Wx.run ok kX7_pair 0 2 (lv' := [(0, .inr (.inr (some v0))), (1, .inl v1), (2, .inl v2)]) (st' := [.inl v1, .inr (.inr (some v0))]) (pc' := 2) rfl ?_
  obtain ⟨a2, ha2, h⟩ := gob h
  obtain ⟨q2, hq2, h⟩ := gob h
  refine Wx.callV ok kX7_pair 2 rfl lm_RX7_114 cd_X7_isGroup ha2 [.inl v1] (some (.inl q2.1)) (aX7_isGroup _ _ hq2) (by decide) rfl (Nat.le_of_ble_eq_true rfl) rfl rfl ?_
  refine Wx.if_eq ok kX7_pair 3 (tgt := 16) rfl (by decide) h (fun hc5 h => ?_) (fun hc5 h => ?_)
  · refine Wx.run ok kX7_pair 8 1 (lv' := [(0, .inr (.inr (some v0))), (1, .inl v1), (2, .inl v2)]) (st' := [.inl (-1 : Int32)]) (pc' := 17) rfl ?_
    exact Wx.ireturn ok kX7_pair 9 rfl hres h (by decide)
  · refine Wx.run ok kX7_pair 4 2 (lv' := [(0, .inr (.inr (some v0))), (1, .inl v1), (2, .inl v2)]) (st' := [.inl v2, .inr (.inr (some v0))]) (pc' := 10) rfl ?_
    obtain ⟨a10, ha10, h⟩ := gob h
    obtain ⟨q10, hq10, h⟩ := gob h
    refine Wx.callV ok kX7_pair 6 rfl lm_RX7_114 cd_X7_isGroup ha10 [.inl v2] (some (.inl q10.1)) (aX7_isGroup _ _ hq10) (by decide) rfl (Nat.le_of_ble_eq_true rfl) rfl rfl ?_
    refine Wx.if_ne ok kX7_pair 7 (tgt := 18) rfl (by decide) h (fun hc13 h => ?_) (fun hc13 h => ?_)
    · refine Wx.run ok kX7_pair 8 1 (lv' := [(0, .inr (.inr (some v0))), (1, .inl v1), (2, .inl v2)]) (st' := [.inl (-1 : Int32)]) (pc' := 17) rfl ?_
      exact Wx.ireturn ok kX7_pair 9 rfl hres h (by decide)
    · refine Wx.run ok kX7_pair 10 1 (lv' := [(0, .inr (.inr (some v0))), (1, .inl v1), (2, .inl v2)]) (st' := [.inr (.inr (some v0))]) (pc' := 19) rfl ?_
      refine Wx.getR ok kX7_pair 11 rfl lk_RX7_7_0 h (fun t19 h => ?_)
      refine Wx.run ok kX7_pair 12 1 (lv' := [(0, .inr (.inr (some v0))), (1, .inl v1), (2, .inl v2)]) (st' := [.inl v1, .inr (.inr t19)]) (pc' := 23) rfl ?_
      refine Wx.iald ok kX7_pair 13 rfl h (fun t23 h => ?_)
      refine Wx.run ok kX7_pair 14 2 (lv' := [(3, .inl t23), (0, .inr (.inr (some v0))), (1, .inl v1), (2, .inl v2)]) (st' := [.inr (.inr (some v0))]) (pc' := 26) rfl ?_
      refine Wx.getR ok kX7_pair 16 rfl lk_RX7_7_0 h (fun t26 h => ?_)
      refine Wx.run ok kX7_pair 17 1 (lv' := [(3, .inl t23), (0, .inr (.inr (some v0))), (1, .inl v1), (2, .inl v2)]) (st' := [.inl v2, .inr (.inr t26)]) (pc' := 30) rfl ?_
      refine Wx.iald ok kX7_pair 18 rfl h (fun t30 h => ?_)
      refine Wx.run ok kX7_pair 19 2 (lv' := [(4, .inl t30), (3, .inl t23), (0, .inr (.inr (some v0))), (1, .inl v1), (2, .inl v2)]) (st' := [.inr (.inr (some v0))]) (pc' := 34) rfl ?_
      refine Wx.getI ok kX7_pair 21 rfl lk_RX7_95_0 h (fun t34 h => ?_)
      refine Wx.run ok kX7_pair 22 1 (lv' := [(4, .inl t30), (3, .inl t23), (0, .inr (.inr (some v0))), (1, .inl v1), (2, .inl v2)]) (st' := [.inl (8 : Int32), .inl t34]) (pc' := 39) rfl ?_
      refine Wx.icmp_eq ok kX7_pair 23 (tgt := 51) rfl (by decide) h (fun hc39 h => ?_) (fun hc39 h => ?_)
      · refine Wx.run ok kX7_pair 29 1 (lv' := [(4, .inl t30), (3, .inl t23), (0, .inr (.inr (some v0))), (1, .inl v1), (2, .inl v2)]) (st' := [.inl (-3 : Int32)]) (pc' := 53) rfl ?_
        exact Wx.ireturn ok kX7_pair 30 rfl hres h (by decide)
      · refine Wx.run ok kX7_pair 24 4 (lv' := [(4, .inl t30), (3, .inl t23), (0, .inr (.inr (some v0))), (1, .inl v1), (2, .inl v2)]) (st' := [.inl (48 : Int32), .inl (t23 * t30)]) (pc' := 48) rfl ?_
        refine Wx.icmp_le ok kX7_pair 28 (tgt := 54) rfl (by decide) h (fun hc48 h => ?_) (fun hc48 h => ?_)
        · refine Wx.run ok kX7_pair 31 2 (lv' := [(5, .inl (0 : Int32)), (4, .inl t30), (3, .inl t23), (0, .inr (.inr (some v0))), (1, .inl v1), (2, .inl v2)]) (st' := []) (pc' := 57) rfl ?_
          refine Wx.sub [3, 4, 5, 2, 1, 0] rfl ?_
          refine aX7_pair_l57 ok hres (F := F) _ ?_ F _ _ _ _ _ _ _ h
          · intro v0 v3 v4 w h
            refine Wx.run ok kX7_pair 74 4 (lv' := [(0, .inr (.inr (some v0))), (3, .inl v3), (4, .inl v4)]) (st' := [.inl (v3 * v4), .inr (.inr (some v0))]) (pc' := 137) rfl ?_
            obtain ⟨a137, ha137, h⟩ := gob h
            obtain ⟨q137, hq137, h⟩ := gob h
            refine Wx.callV ok kX7_pair 78 rfl lm_RX7_108 cd_X7_added ha137 [.inl (v3 * v4)] (some (.inl q137.1)) (aX7_added _ _ hq137) (by decide) rfl (Nat.le_of_ble_eq_true rfl) rfl rfl ?_
            exact Wx.ireturn ok kX7_pair 79 rfl hres h (by decide)
        · refine Wx.run ok kX7_pair 29 1 (lv' := [(4, .inl t30), (3, .inl t23), (0, .inr (.inr (some v0))), (1, .inl v1), (2, .inl v2)]) (st' := [.inl (-3 : Int32)]) (pc' := 53) rfl ?_
          exact Wx.ireturn ok kX7_pair 30 rfl hres h (by decide)
set_option maxRecDepth 100000 in
set_option maxHeartbeats 4000000 in
theorem aX7_pairs_h60 {X : gX} (ok : gOk X cX7_pairs RX7 5 none rmX7_pairs) {res : gW} (hres : gRs X none res) {F : Nat} (r : Nat → Int32 → Int32 → Int32 → Int32 → gW → Option (gW)) (k88 : Nat → Int32 → Int32 → Int32 → gW → Option (gW)) (hr : ∀ (v0 : Nat) (v1 : Int32) (v2 : Int32) (v3 : Int32) (v4 : Int32) (w : gW), r v0 v1 v2 v3 v4 w = some res → Wx X w 0 0 60 [(0, .inr (.inr (some v0))), (1, .inl v1), (2, .inl v2), (3, .inl v3), (4, .inl v4)] []) (hk88 : ∀ (v0 : Nat) (v1 : Int32) (v2 : Int32) (v3 : Int32) (w : gW), k88 v0 v1 v2 v3 w = some res → Wx X w 0 0 88 [(0, .inr (.inr (some v0))), (1, .inl v1), (2, .inl v2), (3, .inl v3)] []) : ∀ (v0 : Nat) (v1 : Int32) (v2 : Int32) (v3 : Int32) (v4 : Int32) (w : gW), mX7_pairs_h60 F r k88 v0 v1 v2 v3 v4 w = some res → Wx X w 0 0 60 [(0, .inr (.inr (some v0))), (1, .inl v1), (2, .inl v2), (3, .inl v3), (4, .inl v4)] [] := by
  intro v0 v1 v2 v3 v4 w h
  unfold mX7_pairs_h60 at h
  refine Wx.run ok kX7_pairs 37 2 (lv' := [(0, .inr (.inr (some v0))), (1, .inl v1), (2, .inl v2), (3, .inl v3), (4, .inl v4)]) (st' := [.inr (.inr (some v0)), .inl v4]) (pc' := 63) rfl ?_
  refine Wx.getI ok kX7_pairs 39 rfl lk_RX7_211_0 h (fun t63 h => ?_)
  refine Wx.icmp_ge ok kX7_pairs 40 (tgt := 88) rfl (by decide) h (fun hc66 h => ?_) (fun hc66 h => ?_)
  · refine Wx.sub [0, 1, 2, 3] rfl ?_
    exact hk88 _ _ _ _ _ h
  · refine Wx.run ok kX7_pairs 41 5 (lv' := [(0, .inr (.inr (some v0))), (1, .inl v1), (2, .inl v2), (3, .inl v3), (4, .inl v4)]) (st' := [.inl v4, .inl v3, .inl v2, .inl v1, .inr (.inr (some v0))]) (pc' := 75) rfl ?_
    obtain ⟨a75, ha75, h⟩ := gob h
    obtain ⟨q75, hq75, h⟩ := gob h
    refine Wx.callV ok kX7_pairs 46 rfl lm_RX7_229 cd_X7_equation ha75 [.inl v1, .inl v2, .inl v3, .inl v4] none (aX7_equation _ _ hq75) (by decide) rfl (Nat.le_of_ble_eq_true rfl) rfl rfl ?_
    refine Wx.run ok kX7_pairs 47 1 (lv' := [(0, .inr (.inr (some v0))), (1, .inl v1), (2, .inl v2), (3, .inl v3), (4, .inl v4)]) (st' := [.inr (.inr (some v0))]) (pc' := 79) rfl ?_
    obtain ⟨a79, ha79, h⟩ := gob h
    obtain ⟨q79, hq79, h⟩ := gob h
    refine Wx.callV ok kX7_pairs 48 rfl lm_RX7_226 cd_X7_settles ha79 [] none (aX7_settles _ _ hq79) (by decide) rfl (Nat.le_of_ble_eq_true rfl) rfl rfl ?_
    refine Wx.run ok kX7_pairs 49 1 (lv' := [(4, .inl (v4 + (1 : Int32))), (0, .inr (.inr (some v0))), (1, .inl v1), (2, .inl v2), (3, .inl v3)]) (st' := []) (pc' := 85) rfl ?_
    refine Wx.jump ok kX7_pairs 50 (tgt := 60) rfl (by decide) ?_
    refine Wx.sub [1, 2, 3, 4, 0] rfl ?_
    exact hr _ _ _ _ _ _ h
set_option maxRecDepth 100000 in
set_option maxHeartbeats 4000000 in
theorem aX7_pairs_l60 {X : gX} (ok : gOk X cX7_pairs RX7 5 none rmX7_pairs) {res : gW} (hres : gRs X none res) {F : Nat} (k88 : Nat → Int32 → Int32 → Int32 → gW → Option (gW)) (hk88 : ∀ (v0 : Nat) (v1 : Int32) (v2 : Int32) (v3 : Int32) (w : gW), k88 v0 v1 v2 v3 w = some res → Wx X w 0 0 88 [(0, .inr (.inr (some v0))), (1, .inl v1), (2, .inl v2), (3, .inl v3)] []) : ∀ (n : Nat) (v0 : Nat) (v1 : Int32) (v2 : Int32) (v3 : Int32) (v4 : Int32) (w : gW), mX7_pairs_l60 F k88 n v0 v1 v2 v3 v4 w = some res → Wx X w 0 0 60 [(0, .inr (.inr (some v0))), (1, .inl v1), (2, .inl v2), (3, .inl v3), (4, .inl v4)] [] := by
  intro n
  induction n with
  | zero => intro v0 v1 v2 v3 v4 w h; cases (show (none : Option (gW)) = some res from h)
  | succ n ih =>
    intro v0 v1 v2 v3 v4 w h
    exact aX7_pairs_h60 ok hres (F := F) (mX7_pairs_l60 F k88 n) k88 ih hk88 v0 v1 v2 v3 v4 w h
set_option maxRecDepth 100000 in
set_option maxHeartbeats 4000000 in
theorem aX7_pairs_h49 {X : gX} (ok : gOk X cX7_pairs RX7 5 none rmX7_pairs) {res : gW} (hres : gRs X none res) {F : Nat} (r : Nat → Int32 → Int32 → Int32 → gW → Option (gW)) (k94 : Nat → Int32 → Int32 → gW → Option (gW)) (hr : ∀ (v0 : Nat) (v1 : Int32) (v2 : Int32) (v3 : Int32) (w : gW), r v0 v1 v2 v3 w = some res → Wx X w 0 0 49 [(0, .inr (.inr (some v0))), (1, .inl v1), (2, .inl v2), (3, .inl v3)] []) (hk94 : ∀ (v0 : Nat) (v1 : Int32) (v2 : Int32) (w : gW), k94 v0 v1 v2 w = some res → Wx X w 0 0 94 [(0, .inr (.inr (some v0))), (1, .inl v1), (2, .inl v2)] []) : ∀ (v0 : Nat) (v1 : Int32) (v2 : Int32) (v3 : Int32) (w : gW), mX7_pairs_h49 F r k94 v0 v1 v2 v3 w = some res → Wx X w 0 0 49 [(0, .inr (.inr (some v0))), (1, .inl v1), (2, .inl v2), (3, .inl v3)] [] := by
  intro v0 v1 v2 v3 w h
  unfold mX7_pairs_h49 at h
  refine Wx.run ok kX7_pairs 31 2 (lv' := [(0, .inr (.inr (some v0))), (1, .inl v1), (2, .inl v2), (3, .inl v3)]) (st' := [.inr (.inr (some v0)), .inl v3]) (pc' := 51) rfl ?_
  refine Wx.getI ok kX7_pairs 33 rfl lk_RX7_208_0 h (fun t51 h => ?_)
  refine Wx.icmp_ge ok kX7_pairs 34 (tgt := 94) rfl (by decide) h (fun hc54 h => ?_) (fun hc54 h => ?_)
  · refine Wx.sub [0, 1, 2] rfl ?_
    exact hk94 _ _ _ _ h
  · refine Wx.run ok kX7_pairs 35 2 (lv' := [(4, .inl (0 : Int32)), (0, .inr (.inr (some v0))), (1, .inl v1), (2, .inl v2), (3, .inl v3)]) (st' := []) (pc' := 60) rfl ?_
    refine Wx.sub [1, 2, 3, 4, 0] rfl ?_
    refine aX7_pairs_l60 ok hres (F := F) _ ?_ F _ _ _ _ _ _ h
    · intro v0 v1 v2 v3 w h
      refine Wx.run ok kX7_pairs 51 1 (lv' := [(3, .inl (v3 + (1 : Int32))), (0, .inr (.inr (some v0))), (1, .inl v1), (2, .inl v2)]) (st' := []) (pc' := 91) rfl ?_
      refine Wx.jump ok kX7_pairs 52 (tgt := 49) rfl (by decide) ?_
      refine Wx.sub [1, 2, 3, 0] rfl ?_
      exact hr _ _ _ _ _ h
set_option maxRecDepth 100000 in
set_option maxHeartbeats 4000000 in
theorem aX7_pairs_l49 {X : gX} (ok : gOk X cX7_pairs RX7 5 none rmX7_pairs) {res : gW} (hres : gRs X none res) {F : Nat} (k94 : Nat → Int32 → Int32 → gW → Option (gW)) (hk94 : ∀ (v0 : Nat) (v1 : Int32) (v2 : Int32) (w : gW), k94 v0 v1 v2 w = some res → Wx X w 0 0 94 [(0, .inr (.inr (some v0))), (1, .inl v1), (2, .inl v2)] []) : ∀ (n : Nat) (v0 : Nat) (v1 : Int32) (v2 : Int32) (v3 : Int32) (w : gW), mX7_pairs_l49 F k94 n v0 v1 v2 v3 w = some res → Wx X w 0 0 49 [(0, .inr (.inr (some v0))), (1, .inl v1), (2, .inl v2), (3, .inl v3)] [] := by
  intro n
  induction n with
  | zero => intro v0 v1 v2 v3 w h; cases (show (none : Option (gW)) = some res from h)
  | succ n ih =>
    intro v0 v1 v2 v3 w h
    exact aX7_pairs_h49 ok hres (F := F) (mX7_pairs_l49 F k94 n) k94 ih hk94 v0 v1 v2 v3 w h
set_option maxRecDepth 100000 in
set_option maxHeartbeats 4000000 in
theorem aX7_pairs_h39 {X : gX} (ok : gOk X cX7_pairs RX7 5 none rmX7_pairs) {res : gW} (hres : gRs X none res) {F : Nat} (r : Nat → Int32 → Int32 → gW → Option (gW)) (k100 : Nat → Int32 → gW → Option (gW)) (hr : ∀ (v0 : Nat) (v1 : Int32) (v2 : Int32) (w : gW), r v0 v1 v2 w = some res → Wx X w 0 0 39 [(0, .inr (.inr (some v0))), (1, .inl v1), (2, .inl v2)] []) (hk100 : ∀ (v0 : Nat) (v1 : Int32) (w : gW), k100 v0 v1 w = some res → Wx X w 0 0 100 [(0, .inr (.inr (some v0))), (1, .inl v1)] []) : ∀ (v0 : Nat) (v1 : Int32) (v2 : Int32) (w : gW), mX7_pairs_h39 F r k100 v0 v1 v2 w = some res → Wx X w 0 0 39 [(0, .inr (.inr (some v0))), (1, .inl v1), (2, .inl v2)] [] := by
  intro v0 v1 v2 w h
  unfold mX7_pairs_h39 at h
  refine Wx.run ok kX7_pairs 25 2 (lv' := [(0, .inr (.inr (some v0))), (1, .inl v1), (2, .inl v2)]) (st' := [.inr (.inr (some v0)), .inl v2]) (pc' := 41) rfl ?_
  refine Wx.getI ok kX7_pairs 27 rfl lk_RX7_208_0 h (fun t41 h => ?_)
  refine Wx.icmp_ge ok kX7_pairs 28 (tgt := 100) rfl (by decide) h (fun hc44 h => ?_) (fun hc44 h => ?_)
  · refine Wx.sub [0, 1] rfl ?_
    exact hk100 _ _ _ h
  · refine Wx.run ok kX7_pairs 29 2 (lv' := [(3, .inl (1 : Int32)), (0, .inr (.inr (some v0))), (1, .inl v1), (2, .inl v2)]) (st' := []) (pc' := 49) rfl ?_
    refine Wx.sub [1, 2, 3, 0] rfl ?_
    refine aX7_pairs_l49 ok hres (F := F) _ ?_ F _ _ _ _ _ h
    · intro v0 v1 v2 w h
      refine Wx.run ok kX7_pairs 53 1 (lv' := [(2, .inl (v2 + (1 : Int32))), (0, .inr (.inr (some v0))), (1, .inl v1)]) (st' := []) (pc' := 97) rfl ?_
      refine Wx.jump ok kX7_pairs 54 (tgt := 39) rfl (by decide) ?_
      refine Wx.sub [1, 2, 0] rfl ?_
      exact hr _ _ _ _ h
set_option maxRecDepth 100000 in
set_option maxHeartbeats 4000000 in
theorem aX7_pairs_l39 {X : gX} (ok : gOk X cX7_pairs RX7 5 none rmX7_pairs) {res : gW} (hres : gRs X none res) {F : Nat} (k100 : Nat → Int32 → gW → Option (gW)) (hk100 : ∀ (v0 : Nat) (v1 : Int32) (w : gW), k100 v0 v1 w = some res → Wx X w 0 0 100 [(0, .inr (.inr (some v0))), (1, .inl v1)] []) : ∀ (n : Nat) (v0 : Nat) (v1 : Int32) (v2 : Int32) (w : gW), mX7_pairs_l39 F k100 n v0 v1 v2 w = some res → Wx X w 0 0 39 [(0, .inr (.inr (some v0))), (1, .inl v1), (2, .inl v2)] [] := by
  intro n
  induction n with
  | zero => intro v0 v1 v2 w h; cases (show (none : Option (gW)) = some res from h)
  | succ n ih =>
    intro v0 v1 v2 w h
    exact aX7_pairs_h39 ok hres (F := F) (mX7_pairs_l39 F k100 n) k100 ih hk100 v0 v1 v2 w h
set_option maxRecDepth 100000 in
set_option maxHeartbeats 4000000 in
theorem aX7_pairs_h29 {X : gX} (ok : gOk X cX7_pairs RX7 5 none rmX7_pairs) {res : gW} (hres : gRs X none res) {F : Nat} (r : Nat → Int32 → gW → Option (gW)) (k106 : Nat → gW → Option (gW)) (hr : ∀ (v0 : Nat) (v1 : Int32) (w : gW), r v0 v1 w = some res → Wx X w 0 0 29 [(0, .inr (.inr (some v0))), (1, .inl v1)] []) (hk106 : ∀ (v0 : Nat) (w : gW), k106 v0 w = some res → Wx X w 0 0 106 [(0, .inr (.inr (some v0)))] []) : ∀ (v0 : Nat) (v1 : Int32) (w : gW), mX7_pairs_h29 F r k106 v0 v1 w = some res → Wx X w 0 0 29 [(0, .inr (.inr (some v0))), (1, .inl v1)] [] := by
  intro v0 v1 w h
  unfold mX7_pairs_h29 at h
  refine Wx.run ok kX7_pairs 19 2 (lv' := [(0, .inr (.inr (some v0))), (1, .inl v1)]) (st' := [.inr (.inr (some v0)), .inl v1]) (pc' := 31) rfl ?_
  refine Wx.getI ok kX7_pairs 21 rfl lk_RX7_208_0 h (fun t31 h => ?_)
  refine Wx.icmp_ge ok kX7_pairs 22 (tgt := 106) rfl (by decide) h (fun hc34 h => ?_) (fun hc34 h => ?_)
  · refine Wx.sub [0] rfl ?_
    exact hk106 _ _ h
  · refine Wx.run ok kX7_pairs 23 2 (lv' := [(2, .inl (1 : Int32)), (0, .inr (.inr (some v0))), (1, .inl v1)]) (st' := []) (pc' := 39) rfl ?_
    refine Wx.sub [1, 2, 0] rfl ?_
    refine aX7_pairs_l39 ok hres (F := F) _ ?_ F _ _ _ _ h
    · intro v0 v1 w h
      refine Wx.run ok kX7_pairs 55 1 (lv' := [(1, .inl (v1 + (1 : Int32))), (0, .inr (.inr (some v0)))]) (st' := []) (pc' := 103) rfl ?_
      refine Wx.jump ok kX7_pairs 56 (tgt := 29) rfl (by decide) ?_
      refine Wx.sub [1, 0] rfl ?_
      exact hr _ _ _ h
set_option maxRecDepth 100000 in
set_option maxHeartbeats 4000000 in
theorem aX7_pairs_l29 {X : gX} (ok : gOk X cX7_pairs RX7 5 none rmX7_pairs) {res : gW} (hres : gRs X none res) {F : Nat} (k106 : Nat → gW → Option (gW)) (hk106 : ∀ (v0 : Nat) (w : gW), k106 v0 w = some res → Wx X w 0 0 106 [(0, .inr (.inr (some v0)))] []) : ∀ (n : Nat) (v0 : Nat) (v1 : Int32) (w : gW), mX7_pairs_l29 F k106 n v0 v1 w = some res → Wx X w 0 0 29 [(0, .inr (.inr (some v0))), (1, .inl v1)] [] := by
  intro n
  induction n with
  | zero => intro v0 v1 w h; cases (show (none : Option (gW)) = some res from h)
  | succ n ih =>
    intro v0 v1 w h
    exact aX7_pairs_h29 ok hres (F := F) (mX7_pairs_l29 F k106 n) k106 ih hk106 v0 v1 w h
set_option maxRecDepth 100000 in
set_option maxHeartbeats 4000000 in
theorem aX7_pairs_b178 {X : gX} (ok : gOk X cX7_pairs RX7 5 none rmX7_pairs) {res : gW} (hres : gRs X none res) {F : Nat} (r : Nat → Int32 → Int32 → Int32 → Int32 → gW → Option (gW)) (k185 : Nat → Int32 → Int32 → Int32 → gW → Option (gW)) (hr : ∀ (v0 : Nat) (v1 : Int32) (v2 : Int32) (v3 : Int32) (v4 : Int32) (w : gW), r v0 v1 v2 v3 v4 w = some res → Wx X w 0 0 147 [(0, .inr (.inr (some v0))), (1, .inl v1), (2, .inl v2), (3, .inl v3), (4, .inl v4)] []) (hk185 : ∀ (v0 : Nat) (v1 : Int32) (v2 : Int32) (v3 : Int32) (w : gW), k185 v0 v1 v2 v3 w = some res → Wx X w 0 0 185 [(0, .inr (.inr (some v0))), (1, .inl v1), (2, .inl v2), (3, .inl v3)] []) : ∀ (v0 : Nat) (v1 : Int32) (v2 : Int32) (v3 : Int32) (v4 : Int32) (s0 : Option Nat) (s1 : Int32) (s2 : Int32) (w : gW), mX7_pairs_b178 F r k185 v0 v1 v2 v3 v4 s0 s1 s2 w = some res → Wx X w 0 0 178 [(0, .inr (.inr (some v0))), (1, .inl v1), (2, .inl v2), (3, .inl v3), (4, .inl v4)] [.inl s2, .inl s1, .inr (.inr s0)] := by
  intro v0 v1 v2 v3 v4 s0 s1 s2 w h
  unfold mX7_pairs_b178 at h
  refine Wx.iast ok kX7_pairs 98 rfl h (fun w178 h => ?_)
  refine Wx.run ok kX7_pairs 99 1 (lv' := [(4, .inl (v4 + (1 : Int32))), (0, .inr (.inr (some v0))), (1, .inl v1), (2, .inl v2), (3, .inl v3)]) (st' := []) (pc' := 182) rfl ?_
  refine Wx.jump ok kX7_pairs 100 (tgt := 147) rfl (by decide) ?_
  refine Wx.sub [1, 2, 3, 4, 0] rfl ?_
  exact hr _ _ _ _ _ _ h
set_option maxRecDepth 100000 in
set_option maxHeartbeats 4000000 in
theorem aX7_pairs_h147 {X : gX} (ok : gOk X cX7_pairs RX7 5 none rmX7_pairs) {res : gW} (hres : gRs X none res) {F : Nat} (r : Nat → Int32 → Int32 → Int32 → Int32 → gW → Option (gW)) (k185 : Nat → Int32 → Int32 → Int32 → gW → Option (gW)) (hr : ∀ (v0 : Nat) (v1 : Int32) (v2 : Int32) (v3 : Int32) (v4 : Int32) (w : gW), r v0 v1 v2 v3 v4 w = some res → Wx X w 0 0 147 [(0, .inr (.inr (some v0))), (1, .inl v1), (2, .inl v2), (3, .inl v3), (4, .inl v4)] []) (hk185 : ∀ (v0 : Nat) (v1 : Int32) (v2 : Int32) (v3 : Int32) (w : gW), k185 v0 v1 v2 v3 w = some res → Wx X w 0 0 185 [(0, .inr (.inr (some v0))), (1, .inl v1), (2, .inl v2), (3, .inl v3)] []) : ∀ (v0 : Nat) (v1 : Int32) (v2 : Int32) (v3 : Int32) (v4 : Int32) (w : gW), mX7_pairs_h147 F r k185 v0 v1 v2 v3 v4 w = some res → Wx X w 0 0 147 [(0, .inr (.inr (some v0))), (1, .inl v1), (2, .inl v2), (3, .inl v3), (4, .inl v4)] [] := by
  intro v0 v1 v2 v3 v4 w h
  unfold mX7_pairs_h147 at h
  refine Wx.run ok kX7_pairs 81 2 (lv' := [(0, .inr (.inr (some v0))), (1, .inl v1), (2, .inl v2), (3, .inl v3), (4, .inl v4)]) (st' := [.inr (.inr (some v0)), .inl v4]) (pc' := 150) rfl ?_
  refine Wx.getI ok kX7_pairs 83 rfl lk_RX7_202_0 h (fun t150 h => ?_)
  refine Wx.icmp_ge ok kX7_pairs 84 (tgt := 185) rfl (by decide) h (fun hc153 h => ?_) (fun hc153 h => ?_)
  · refine Wx.sub [0, 1, 2, 3] rfl ?_
    exact hk185 _ _ _ _ _ h
  · refine Wx.run ok kX7_pairs 85 1 (lv' := [(0, .inr (.inr (some v0))), (1, .inl v1), (2, .inl v2), (3, .inl v3), (4, .inl v4)]) (st' := [.inr (.inr (some v0))]) (pc' := 157) rfl ?_
    refine Wx.getR ok kX7_pairs 86 rfl lk_RX7_92_0 h (fun t157 h => ?_)
    refine Wx.run ok kX7_pairs 87 7 (lv' := [(0, .inr (.inr (some v0))), (1, .inl v1), (2, .inl v2), (3, .inl v3), (4, .inl v4)]) (st' := [.inl v3, .inl v4, .inl (((98 : Int32) * v1) + v4), .inr (.inr t157)]) (pc' := 170) rfl ?_
    refine Wx.icmp_ne ok kX7_pairs 94 (tgt := 177) rfl (by decide) h (fun hc170 h => ?_) (fun hc170 h => ?_)
    · refine Wx.run ok kX7_pairs 95 1 (lv' := [(0, .inr (.inr (some v0))), (1, .inl v1), (2, .inl v2), (3, .inl v3), (4, .inl v4)]) (st' := [.inl (1 : Int32), .inl (((98 : Int32) * v1) + v4), .inr (.inr t157)]) (pc' := 174) rfl ?_
      refine Wx.jump ok kX7_pairs 96 (tgt := 178) rfl (by decide) ?_
      exact aX7_pairs_b178 ok hres (F := F) r k185 hr hk185 _ _ _ _ _ _ _ _ _ h
    · refine Wx.run ok kX7_pairs 97 1 (lv' := [(0, .inr (.inr (some v0))), (1, .inl v1), (2, .inl v2), (3, .inl v3), (4, .inl v4)]) (st' := [.inl (0 : Int32), .inl (((98 : Int32) * v1) + v4), .inr (.inr t157)]) (pc' := 178) rfl ?_
      exact aX7_pairs_b178 ok hres (F := F) r k185 hr hk185 _ _ _ _ _ _ _ _ _ h
set_option maxRecDepth 100000 in
set_option maxHeartbeats 4000000 in
theorem aX7_pairs_l147 {X : gX} (ok : gOk X cX7_pairs RX7 5 none rmX7_pairs) {res : gW} (hres : gRs X none res) {F : Nat} (k185 : Nat → Int32 → Int32 → Int32 → gW → Option (gW)) (hk185 : ∀ (v0 : Nat) (v1 : Int32) (v2 : Int32) (v3 : Int32) (w : gW), k185 v0 v1 v2 v3 w = some res → Wx X w 0 0 185 [(0, .inr (.inr (some v0))), (1, .inl v1), (2, .inl v2), (3, .inl v3)] []) : ∀ (n : Nat) (v0 : Nat) (v1 : Int32) (v2 : Int32) (v3 : Int32) (v4 : Int32) (w : gW), mX7_pairs_l147 F k185 n v0 v1 v2 v3 v4 w = some res → Wx X w 0 0 147 [(0, .inr (.inr (some v0))), (1, .inl v1), (2, .inl v2), (3, .inl v3), (4, .inl v4)] [] := by
  intro n
  induction n with
  | zero => intro v0 v1 v2 v3 v4 w h; cases (show (none : Option (gW)) = some res from h)
  | succ n ih =>
    intro v0 v1 v2 v3 v4 w h
    exact aX7_pairs_h147 ok hres (F := F) (mX7_pairs_l147 F k185 n) k185 ih hk185 v0 v1 v2 v3 v4 w h
set_option maxRecDepth 100000 in
set_option maxHeartbeats 4000000 in
theorem aX7_pairs_h188 {X : gX} (ok : gOk X cX7_pairs RX7 5 none rmX7_pairs) {res : gW} (hres : gRs X none res) {F : Nat} (r : Nat → Int32 → Int32 → Int32 → Int32 → gW → Option (gW)) (k242 : Nat → Int32 → Int32 → Int32 → gW → Option (gW)) (hr : ∀ (v0 : Nat) (v1 : Int32) (v2 : Int32) (v3 : Int32) (v4 : Int32) (w : gW), r v0 v1 v2 v3 v4 w = some res → Wx X w 0 0 188 [(0, .inr (.inr (some v0))), (1, .inl v1), (2, .inl v2), (3, .inl v3), (4, .inl v4)] []) (hk242 : ∀ (v0 : Nat) (v1 : Int32) (v2 : Int32) (v3 : Int32) (w : gW), k242 v0 v1 v2 v3 w = some res → Wx X w 0 0 242 [(0, .inr (.inr (some v0))), (1, .inl v1), (2, .inl v2), (3, .inl v3)] []) : ∀ (v0 : Nat) (v1 : Int32) (v2 : Int32) (v3 : Int32) (v4 : Int32) (w : gW), mX7_pairs_h188 F r k242 v0 v1 v2 v3 v4 w = some res → Wx X w 0 0 188 [(0, .inr (.inr (some v0))), (1, .inl v1), (2, .inl v2), (3, .inl v3), (4, .inl v4)] [] := by
  intro v0 v1 v2 v3 v4 w h
  unfold mX7_pairs_h188 at h
  refine Wx.run ok kX7_pairs 103 2 (lv' := [(0, .inr (.inr (some v0))), (1, .inl v1), (2, .inl v2), (3, .inl v3), (4, .inl v4)]) (st' := [.inr (.inr (some v0)), .inl v4]) (pc' := 191) rfl ?_
  refine Wx.getI ok kX7_pairs 105 rfl lk_RX7_199_0 h (fun t191 h => ?_)
  refine Wx.icmp_ge ok kX7_pairs 106 (tgt := 242) rfl (by decide) h (fun hc194 h => ?_) (fun hc194 h => ?_)
  · refine Wx.sub [0, 1, 2, 3] rfl ?_
    exact hk242 _ _ _ _ _ h
  · refine Wx.run ok kX7_pairs 107 1 (lv' := [(0, .inr (.inr (some v0))), (1, .inl v1), (2, .inl v2), (3, .inl v3), (4, .inl v4)]) (st' := [.inr (.inr (some v0))]) (pc' := 198) rfl ?_
    refine Wx.getR ok kX7_pairs 108 rfl lk_RX7_92_0 h (fun t198 h => ?_)
    refine Wx.run ok kX7_pairs 109 4 (lv' := [(0, .inr (.inr (some v0))), (1, .inl v1), (2, .inl v2), (3, .inl v3), (4, .inl v4)]) (st' := [.inr (.inr (some v0)), .inl ((98 : Int32) * v1), .inr (.inr t198)]) (pc' := 206) rfl ?_
    refine Wx.getR ok kX7_pairs 113 rfl lk_RX7_73_0 h (fun t206 h => ?_)
    refine Wx.run ok kX7_pairs 114 1 (lv' := [(0, .inr (.inr (some v0))), (1, .inl v1), (2, .inl v2), (3, .inl v3), (4, .inl v4)]) (st' := [.inl v4, .inr (.inr t206), .inl ((98 : Int32) * v1), .inr (.inr t198)]) (pc' := 211) rfl ?_
    refine Wx.iald ok kX7_pairs 115 rfl h (fun t211 h => ?_)
    refine Wx.run ok kX7_pairs 116 2 (lv' := [(0, .inr (.inr (some v0))), (1, .inl v1), (2, .inl v2), (3, .inl v3), (4, .inl v4)]) (st' := [.inr (.inr (some v0)), .inl (((98 : Int32) * v1) + t211), .inr (.inr t198)]) (pc' := 214) rfl ?_
    refine Wx.getI ok kX7_pairs 118 rfl lk_RX7_196_0 h (fun t214 h => ?_)
    refine Wx.run ok kX7_pairs 119 1 (lv' := [(0, .inr (.inr (some v0))), (1, .inl v1), (2, .inl v2), (3, .inl v3), (4, .inl v4)]) (st' := [.inr (.inr (some v0)), .inl t214, .inl (((98 : Int32) * v1) + t211), .inr (.inr t198)]) (pc' := 218) rfl ?_
    refine Wx.getR ok kX7_pairs 120 rfl lk_RX7_70_0 h (fun t218 h => ?_)
    refine Wx.run ok kX7_pairs 121 5 (lv' := [(0, .inr (.inr (some v0))), (1, .inl v1), (2, .inl v2), (3, .inl v3), (4, .inl v4)]) (st' := [.inl (((98 : Int32) * v4) + v3), .inr (.inr t218), .inl t214, .inl (((98 : Int32) * v1) + t211), .inr (.inr t198)]) (pc' := 228) rfl ?_
    refine Wx.iald ok kX7_pairs 126 rfl h (fun t228 h => ?_)
    refine Wx.run ok kX7_pairs 127 2 (lv' := [(0, .inr (.inr (some v0))), (1, .inl v1), (2, .inl v2), (3, .inl v3), (4, .inl v4)]) (st' := [.inr (.inr (some v0)), .inl (t214 - t228), .inl (((98 : Int32) * v1) + t211), .inr (.inr t198)]) (pc' := 231) rfl ?_
    refine Wx.getI ok kX7_pairs 129 rfl lk_RX7_196_0 h (fun t231 h => ?_)
    refine Wx.irem ok kX7_pairs 130 rfl h (fun t234 h => ?_)
    refine Wx.iast ok kX7_pairs 131 rfl h (fun w235 h => ?_)
    refine Wx.run ok kX7_pairs 132 1 (lv' := [(4, .inl (v4 + (1 : Int32))), (0, .inr (.inr (some v0))), (1, .inl v1), (2, .inl v2), (3, .inl v3)]) (st' := []) (pc' := 239) rfl ?_
    refine Wx.jump ok kX7_pairs 133 (tgt := 188) rfl (by decide) ?_
    refine Wx.sub [1, 2, 3, 4, 0] rfl ?_
    exact hr _ _ _ _ _ _ h
set_option maxRecDepth 100000 in
set_option maxHeartbeats 4000000 in
theorem aX7_pairs_l188 {X : gX} (ok : gOk X cX7_pairs RX7 5 none rmX7_pairs) {res : gW} (hres : gRs X none res) {F : Nat} (k242 : Nat → Int32 → Int32 → Int32 → gW → Option (gW)) (hk242 : ∀ (v0 : Nat) (v1 : Int32) (v2 : Int32) (v3 : Int32) (w : gW), k242 v0 v1 v2 v3 w = some res → Wx X w 0 0 242 [(0, .inr (.inr (some v0))), (1, .inl v1), (2, .inl v2), (3, .inl v3)] []) : ∀ (n : Nat) (v0 : Nat) (v1 : Int32) (v2 : Int32) (v3 : Int32) (v4 : Int32) (w : gW), mX7_pairs_l188 F k242 n v0 v1 v2 v3 v4 w = some res → Wx X w 0 0 188 [(0, .inr (.inr (some v0))), (1, .inl v1), (2, .inl v2), (3, .inl v3), (4, .inl v4)] [] := by
  intro n
  induction n with
  | zero => intro v0 v1 v2 v3 v4 w h; cases (show (none : Option (gW)) = some res from h)
  | succ n ih =>
    intro v0 v1 v2 v3 v4 w h
    exact aX7_pairs_h188 ok hres (F := F) (mX7_pairs_l188 F k242 n) k242 ih hk242 v0 v1 v2 v3 v4 w h
set_option maxRecDepth 100000 in
set_option maxHeartbeats 4000000 in
theorem aX7_pairs_b245 {X : gX} (ok : gOk X cX7_pairs RX7 5 none rmX7_pairs) {res : gW} (hres : gRs X none res) {F : Nat} (r : Nat → Int32 → Int32 → Int32 → gW → Option (gW)) (k251 : Nat → Int32 → gW → Option (gW)) (hr : ∀ (v0 : Nat) (v1 : Int32) (v2 : Int32) (v3 : Int32) (w : gW), r v0 v1 v2 v3 w = some res → Wx X w 0 0 112 [(0, .inr (.inr (some v0))), (1, .inl v1), (2, .inl v2), (3, .inl v3)] []) (hk251 : ∀ (v0 : Nat) (v1 : Int32) (w : gW), k251 v0 v1 w = some res → Wx X w 0 0 251 [(0, .inr (.inr (some v0))), (1, .inl v1)] []) : ∀ (v0 : Nat) (v1 : Int32) (v2 : Int32) (v3 : Int32) (w : gW), mX7_pairs_b245 F r k251 v0 v1 v2 v3 w = some res → Wx X w 0 0 245 [(0, .inr (.inr (some v0))), (1, .inl v1), (2, .inl v2), (3, .inl v3)] [] := by
  intro v0 v1 v2 v3 w h
  unfold mX7_pairs_b245 at h
  refine Wx.run ok kX7_pairs 135 1 (lv' := [(3, .inl (v3 + (1 : Int32))), (0, .inr (.inr (some v0))), (1, .inl v1), (2, .inl v2)]) (st' := []) (pc' := 248) rfl ?_
  refine Wx.jump ok kX7_pairs 136 (tgt := 112) rfl (by decide) ?_
  refine Wx.sub [1, 2, 3, 0] rfl ?_
  exact hr _ _ _ _ _ h
set_option maxRecDepth 100000 in
set_option maxHeartbeats 4000000 in
theorem aX7_pairs_b144 {X : gX} (ok : gOk X cX7_pairs RX7 5 none rmX7_pairs) {res : gW} (hres : gRs X none res) {F : Nat} (r : Nat → Int32 → Int32 → Int32 → gW → Option (gW)) (k251 : Nat → Int32 → gW → Option (gW)) (hr : ∀ (v0 : Nat) (v1 : Int32) (v2 : Int32) (v3 : Int32) (w : gW), r v0 v1 v2 v3 w = some res → Wx X w 0 0 112 [(0, .inr (.inr (some v0))), (1, .inl v1), (2, .inl v2), (3, .inl v3)] []) (hk251 : ∀ (v0 : Nat) (v1 : Int32) (w : gW), k251 v0 v1 w = some res → Wx X w 0 0 251 [(0, .inr (.inr (some v0))), (1, .inl v1)] []) : ∀ (v0 : Nat) (v1 : Int32) (v2 : Int32) (v3 : Int32) (w : gW), mX7_pairs_b144 F r k251 v0 v1 v2 v3 w = some res → Wx X w 0 0 144 [(0, .inr (.inr (some v0))), (1, .inl v1), (2, .inl v2), (3, .inl v3)] [] := by
  intro v0 v1 v2 v3 w h
  unfold mX7_pairs_b144 at h
  refine Wx.run ok kX7_pairs 79 2 (lv' := [(4, .inl (0 : Int32)), (0, .inr (.inr (some v0))), (1, .inl v1), (2, .inl v2), (3, .inl v3)]) (st' := []) (pc' := 147) rfl ?_
  refine Wx.sub [1, 2, 3, 4, 0] rfl ?_
  refine aX7_pairs_l147 ok hres (F := F) _ ?_ F _ _ _ _ _ _ h
  · intro v0 v1 v2 v3 w h
    refine Wx.run ok kX7_pairs 101 2 (lv' := [(4, .inl (0 : Int32)), (0, .inr (.inr (some v0))), (1, .inl v1), (2, .inl v2), (3, .inl v3)]) (st' := []) (pc' := 188) rfl ?_
    refine Wx.sub [1, 2, 3, 4, 0] rfl ?_
    refine aX7_pairs_l188 ok hres (F := F) _ ?_ F _ _ _ _ _ _ h
    · intro v0 v1 v2 v3 w h
      refine Wx.run ok kX7_pairs 134 1 (lv' := [(1, .inl (v1 + (1 : Int32))), (0, .inr (.inr (some v0))), (2, .inl v2), (3, .inl v3)]) (st' := []) (pc' := 245) rfl ?_
      refine Wx.sub [1, 0, 2, 3] rfl ?_
      exact aX7_pairs_b245 ok hres (F := F) r k251 hr hk251 _ _ _ _ _ h
set_option maxRecDepth 100000 in
set_option maxHeartbeats 4000000 in
theorem aX7_pairs_h112 {X : gX} (ok : gOk X cX7_pairs RX7 5 none rmX7_pairs) {res : gW} (hres : gRs X none res) {F : Nat} (r : Nat → Int32 → Int32 → Int32 → gW → Option (gW)) (k251 : Nat → Int32 → gW → Option (gW)) (hr : ∀ (v0 : Nat) (v1 : Int32) (v2 : Int32) (v3 : Int32) (w : gW), r v0 v1 v2 v3 w = some res → Wx X w 0 0 112 [(0, .inr (.inr (some v0))), (1, .inl v1), (2, .inl v2), (3, .inl v3)] []) (hk251 : ∀ (v0 : Nat) (v1 : Int32) (w : gW), k251 v0 v1 w = some res → Wx X w 0 0 251 [(0, .inr (.inr (some v0))), (1, .inl v1)] []) : ∀ (v0 : Nat) (v1 : Int32) (v2 : Int32) (v3 : Int32) (w : gW), mX7_pairs_h112 F r k251 v0 v1 v2 v3 w = some res → Wx X w 0 0 112 [(0, .inr (.inr (some v0))), (1, .inl v1), (2, .inl v2), (3, .inl v3)] [] := by
  intro v0 v1 v2 v3 w h
  unfold mX7_pairs_h112 at h
  refine Wx.run ok kX7_pairs 63 2 (lv' := [(0, .inr (.inr (some v0))), (1, .inl v1), (2, .inl v2), (3, .inl v3)]) (st' := [.inr (.inr (some v0)), .inl v3]) (pc' := 114) rfl ?_
  refine Wx.getI ok kX7_pairs 65 rfl lk_RX7_202_0 h (fun t114 h => ?_)
  refine Wx.icmp_ge ok kX7_pairs 66 (tgt := 251) rfl (by decide) h (fun hc117 h => ?_) (fun hc117 h => ?_)
  · refine Wx.sub [0, 1] rfl ?_
    exact hk251 _ _ _ h
  · refine Wx.run ok kX7_pairs 67 2 (lv' := [(0, .inr (.inr (some v0))), (1, .inl v1), (2, .inl v2), (3, .inl v3)]) (st' := [.inr (.inr (some v0)), .inl v2]) (pc' := 122) rfl ?_
    refine Wx.getI ok kX7_pairs 69 rfl lk_RX7_199_0 h (fun t122 h => ?_)
    refine Wx.icmp_ge ok kX7_pairs 70 (tgt := 144) rfl (by decide) h (fun hc125 h => ?_) (fun hc125 h => ?_)
    · exact aX7_pairs_b144 ok hres (F := F) r k251 hr hk251 _ _ _ _ _ h
    · refine Wx.run ok kX7_pairs 71 1 (lv' := [(0, .inr (.inr (some v0))), (1, .inl v1), (2, .inl v2), (3, .inl v3)]) (st' := [.inr (.inr (some v0))]) (pc' := 129) rfl ?_
      refine Wx.getR ok kX7_pairs 72 rfl lk_RX7_73_0 h (fun t129 h => ?_)
      refine Wx.run ok kX7_pairs 73 1 (lv' := [(0, .inr (.inr (some v0))), (1, .inl v1), (2, .inl v2), (3, .inl v3)]) (st' := [.inl v2, .inr (.inr t129)]) (pc' := 133) rfl ?_
      refine Wx.iald ok kX7_pairs 74 rfl h (fun t133 h => ?_)
      refine Wx.run ok kX7_pairs 75 1 (lv' := [(0, .inr (.inr (some v0))), (1, .inl v1), (2, .inl v2), (3, .inl v3)]) (st' := [.inl v3, .inl t133]) (pc' := 135) rfl ?_
      refine Wx.icmp_ne ok kX7_pairs 76 (tgt := 144) rfl (by decide) h (fun hc135 h => ?_) (fun hc135 h => ?_)
      · refine Wx.run ok kX7_pairs 77 1 (lv' := [(2, .inl (v2 + (1 : Int32))), (0, .inr (.inr (some v0))), (1, .inl v1), (3, .inl v3)]) (st' := []) (pc' := 141) rfl ?_
        refine Wx.jump ok kX7_pairs 78 (tgt := 245) rfl (by decide) ?_
        refine Wx.sub [1, 2, 0, 3] rfl ?_
        exact aX7_pairs_b245 ok hres (F := F) r k251 hr hk251 _ _ _ _ _ h
      · exact aX7_pairs_b144 ok hres (F := F) r k251 hr hk251 _ _ _ _ _ h
set_option maxRecDepth 100000 in
set_option maxHeartbeats 4000000 in
theorem aX7_pairs_l112 {X : gX} (ok : gOk X cX7_pairs RX7 5 none rmX7_pairs) {res : gW} (hres : gRs X none res) {F : Nat} (k251 : Nat → Int32 → gW → Option (gW)) (hk251 : ∀ (v0 : Nat) (v1 : Int32) (w : gW), k251 v0 v1 w = some res → Wx X w 0 0 251 [(0, .inr (.inr (some v0))), (1, .inl v1)] []) : ∀ (n : Nat) (v0 : Nat) (v1 : Int32) (v2 : Int32) (v3 : Int32) (w : gW), mX7_pairs_l112 F k251 n v0 v1 v2 v3 w = some res → Wx X w 0 0 112 [(0, .inr (.inr (some v0))), (1, .inl v1), (2, .inl v2), (3, .inl v3)] [] := by
  intro n
  induction n with
  | zero => intro v0 v1 v2 v3 w h; cases (show (none : Option (gW)) = some res from h)
  | succ n ih =>
    intro v0 v1 v2 v3 w h
    exact aX7_pairs_h112 ok hres (F := F) (mX7_pairs_l112 F k251 n) k251 ih hk251 v0 v1 v2 v3 w h
set_option maxRecDepth 100000 in
set_option maxHeartbeats 4000000 in
theorem aX7_pairs (l : Launch) (G : gG) {F : Nat} {v0 : Nat} {w : gW} {res : gW} (h : mX7_pairs F v0 w = some res) : gM l yX7_pairs cX7_pairs 5 none rmX7_pairs G w (gTs [.inr (.inr (some v0))]) none res := by
  refine gM_of (y := yX7_pairs) (by decide +kernel) (Nat.le_of_ble_eq_true rfl) ?_
  intro X ok hl hG hres hnm
  subst hl; subst hG
  unfold mX7_pairs at h
  show Wx X w 0 0 0 [(0, .inr (.inr (some v0)))] []
  refine Wx.run ok kX7_pairs 0 2 (lv' := [(0, .inr (.inr (some v0)))]) (st' := [.inl (0 : Int32), .inr (.inr (some v0))]) (pc' := 2) rfl ?_
  refine Wx.put ok kX7_pairs 2 rfl lk_RX7_199_1 (gFit_i _) h (fun w2 h => ?_)
  refine Wx.run ok kX7_pairs 3 2 (lv' := [(0, .inr (.inr (some v0)))]) (st' := [.inr (.inr (some v0)), .inr (.inr (some v0))]) (pc' := 7) rfl ?_
  refine Wx.getI ok kX7_pairs 5 rfl lk_RX7_208_0 h (fun t7 h => ?_)
  refine Wx.run ok kX7_pairs 6 3 (lv' := [(0, .inr (.inr (some v0)))]) (st' := [.inr (.inr (some v0)), .inl (t7 - (1 : Int32)), .inr (.inr (some v0))]) (pc' := 13) rfl ?_
  refine Wx.getI ok kX7_pairs 9 rfl lk_RX7_208_0 h (fun t13 h => ?_)
  refine Wx.run ok kX7_pairs 10 4 (lv' := [(0, .inr (.inr (some v0)))]) (st' := [.inr (.inr (some v0)), .inl ((t7 - (1 : Int32)) * (t13 - (1 : Int32))), .inr (.inr (some v0))]) (pc' := 20) rfl ?_
  refine Wx.getI ok kX7_pairs 14 rfl lk_RX7_211_0 h (fun t20 h => ?_)
  refine Wx.run ok kX7_pairs 15 1 (lv' := [(0, .inr (.inr (some v0)))]) (st' := [.inl (((t7 - (1 : Int32)) * (t13 - (1 : Int32))) * t20), .inr (.inr (some v0))]) (pc' := 24) rfl ?_
  refine Wx.put ok kX7_pairs 16 rfl lk_RX7_202_1 (gFit_i _) h (fun w24 h => ?_)
  refine Wx.run ok kX7_pairs 17 2 (lv' := [(1, .inl (1 : Int32)), (0, .inr (.inr (some v0)))]) (st' := []) (pc' := 29) rfl ?_
  refine Wx.sub [1, 0] rfl ?_
  refine aX7_pairs_l29 ok hres (F := F) _ ?_ F _ _ _ h
  · intro v0 w h
    refine Wx.run ok kX7_pairs 57 6 (lv' := [(3, .inl (0 : Int32)), (2, .inl (0 : Int32)), (1, .inl (0 : Int32)), (0, .inr (.inr (some v0)))]) (st' := []) (pc' := 112) rfl ?_
    refine Wx.sub [3, 2, 1, 0] rfl ?_
    refine aX7_pairs_l112 ok hres (F := F) _ ?_ F _ _ _ _ _ h
    · intro v0 v1 w h
      refine Wx.run ok kX7_pairs 137 1 (lv' := [(0, .inr (.inr (some v0))), (1, .inl v1)]) (st' := [.inr (.inr (some v0))]) (pc' := 252) rfl ?_
      refine Wx.getR ok kX7_pairs 138 rfl lk_RX7_80_0 h (fun t252 h => ?_)
      refine Wx.run ok kX7_pairs 139 2 (lv' := [(0, .inr (.inr (some v0))), (1, .inl v1)]) (st' := [.inl v1, .inl (3 : Int32), .inr (.inr t252)]) (pc' := 257) rfl ?_
      refine Wx.iast ok kX7_pairs 141 rfl h (fun w257 h => ?_)
      exact Wx.vreturn ok kX7_pairs 142 rfl hres h (by decide)
set_option maxRecDepth 100000 in
set_option maxHeartbeats 4000000 in
theorem aX7_sound_b64 {X : gX} (ok : gOk X cX7_sound RX7 9 (some .int) rmX7_sound) {res : Int32 × gW} (hres : gRs X (some (.int res.1)) res.2) {F : Nat} (r : Nat → Int32 → Int32 → Int32 → Int32 → Int32 → gW → Option (Int32 × gW)) (k77 : Nat → Int32 → Int32 → Int32 → Int32 → gW → Option (Int32 × gW)) (hr : ∀ (v0 : Nat) (v1 : Int32) (v2 : Int32) (v3 : Int32) (v4 : Int32) (v5 : Int32) (w : gW), r v0 v1 v2 v3 v4 v5 w = some res → Wx X w 0 0 36 [(0, .inr (.inr (some v0))), (1, .inl v1), (2, .inl v2), (3, .inl v3), (4, .inl v4), (5, .inl v5)] []) (hk77 : ∀ (v0 : Nat) (v1 : Int32) (v2 : Int32) (v3 : Int32) (v4 : Int32) (w : gW), k77 v0 v1 v2 v3 v4 w = some res → Wx X w 0 0 77 [(0, .inr (.inr (some v0))), (1, .inl v1), (2, .inl v2), (3, .inl v3), (4, .inl v4)] []) : ∀ (v0 : Nat) (v1 : Int32) (v2 : Int32) (v3 : Int32) (v4 : Int32) (v5 : Int32) (s0 : Int32) (s1 : Int32) (w : gW), mX7_sound_b64 F r k77 v0 v1 v2 v3 v4 v5 s0 s1 w = some res → Wx X w 0 0 64 [(0, .inr (.inr (some v0))), (1, .inl v1), (2, .inl v2), (3, .inl v3), (4, .inl v4), (5, .inl v5)] [.inl s1, .inl s0] := by
  intro v0 v1 v2 v3 v4 v5 s0 s1 w h
  unfold mX7_sound_b64 at h
  refine Wx.icmp_eq ok kX7_sound 38 (tgt := 71) rfl (by decide) h (fun hc64 h => ?_) (fun hc64 h => ?_)
  · refine Wx.run ok kX7_sound 41 1 (lv' := [(5, .inl (v5 + (1 : Int32))), (0, .inr (.inr (some v0))), (1, .inl v1), (2, .inl v2), (3, .inl v3), (4, .inl v4)]) (st' := []) (pc' := 74) rfl ?_
    refine Wx.jump ok kX7_sound 42 (tgt := 36) rfl (by decide) ?_
    refine Wx.sub [1, 2, 3, 4, 5, 0] rfl ?_
    exact hr _ _ _ _ _ _ _ h
  · refine Wx.run ok kX7_sound 39 1 (lv' := [(0, .inr (.inr (some v0))), (1, .inl v1), (2, .inl v2), (3, .inl v3), (4, .inl v4), (5, .inl v5)]) (st' := [.inl (1000 : Int32)]) (pc' := 70) rfl ?_
    exact Wx.ireturn ok kX7_sound 40 rfl hres h (by decide)
set_option maxRecDepth 100000 in
set_option maxHeartbeats 4000000 in
theorem aX7_sound_h36 {X : gX} (ok : gOk X cX7_sound RX7 9 (some .int) rmX7_sound) {res : Int32 × gW} (hres : gRs X (some (.int res.1)) res.2) {F : Nat} (r : Nat → Int32 → Int32 → Int32 → Int32 → Int32 → gW → Option (Int32 × gW)) (k77 : Nat → Int32 → Int32 → Int32 → Int32 → gW → Option (Int32 × gW)) (hr : ∀ (v0 : Nat) (v1 : Int32) (v2 : Int32) (v3 : Int32) (v4 : Int32) (v5 : Int32) (w : gW), r v0 v1 v2 v3 v4 v5 w = some res → Wx X w 0 0 36 [(0, .inr (.inr (some v0))), (1, .inl v1), (2, .inl v2), (3, .inl v3), (4, .inl v4), (5, .inl v5)] []) (hk77 : ∀ (v0 : Nat) (v1 : Int32) (v2 : Int32) (v3 : Int32) (v4 : Int32) (w : gW), k77 v0 v1 v2 v3 v4 w = some res → Wx X w 0 0 77 [(0, .inr (.inr (some v0))), (1, .inl v1), (2, .inl v2), (3, .inl v3), (4, .inl v4)] []) : ∀ (v0 : Nat) (v1 : Int32) (v2 : Int32) (v3 : Int32) (v4 : Int32) (v5 : Int32) (w : gW), mX7_sound_h36 F r k77 v0 v1 v2 v3 v4 v5 w = some res → Wx X w 0 0 36 [(0, .inr (.inr (some v0))), (1, .inl v1), (2, .inl v2), (3, .inl v3), (4, .inl v4), (5, .inl v5)] [] := by
  intro v0 v1 v2 v3 v4 v5 w h
  unfold mX7_sound_h36 at h
  refine Wx.run ok kX7_sound 23 2 (lv' := [(0, .inr (.inr (some v0))), (1, .inl v1), (2, .inl v2), (3, .inl v3), (4, .inl v4), (5, .inl v5)]) (st' := [.inl v3, .inl v5]) (pc' := 39) rfl ?_
  refine Wx.icmp_ge ok kX7_sound 25 (tgt := 77) rfl (by decide) h (fun hc39 h => ?_) (fun hc39 h => ?_)
  · refine Wx.sub [0, 1, 2, 3, 4] rfl ?_
    exact hk77 _ _ _ _ _ _ h
  · refine Wx.run ok kX7_sound 26 5 (lv' := [(0, .inr (.inr (some v0))), (1, .inl v1), (2, .inl v2), (3, .inl v3), (4, .inl v4), (5, .inl v5)]) (st' := [.inl v5, .inl v4, .inl (0 : Int32), .inl v1, .inr (.inr (some v0))]) (pc' := 49) rfl ?_
    obtain ⟨a49, ha49, h⟩ := gob h
    obtain ⟨q49, hq49, h⟩ := gob h
    refine Wx.callV ok kX7_sound 31 rfl lm_RX7_193 cd_X7_matrix ha49 [.inl v1, .inl (0 : Int32), .inl v4, .inl v5] (some (.inl q49.1)) (aX7_matrix _ _ hq49) (by decide) rfl (Nat.le_of_ble_eq_true rfl) rfl rfl ?_
    refine Wx.run ok kX7_sound 32 2 (lv' := [(0, .inr (.inr (some v0))), (1, .inl v1), (2, .inl v2), (3, .inl v3), (4, .inl v4), (5, .inl v5)]) (st' := [.inl v5, .inl v4, .inl q49.1]) (pc' := 56) rfl ?_
    refine Wx.icmp_ne ok kX7_sound 34 (tgt := 63) rfl (by decide) h (fun hc56 h => ?_) (fun hc56 h => ?_)
    · refine Wx.run ok kX7_sound 35 1 (lv' := [(0, .inr (.inr (some v0))), (1, .inl v1), (2, .inl v2), (3, .inl v3), (4, .inl v4), (5, .inl v5)]) (st' := [.inl (1 : Int32), .inl q49.1]) (pc' := 60) rfl ?_
      refine Wx.jump ok kX7_sound 36 (tgt := 64) rfl (by decide) ?_
      exact aX7_sound_b64 ok hres (F := F) r k77 hr hk77 _ _ _ _ _ _ _ _ _ h
    · refine Wx.run ok kX7_sound 37 1 (lv' := [(0, .inr (.inr (some v0))), (1, .inl v1), (2, .inl v2), (3, .inl v3), (4, .inl v4), (5, .inl v5)]) (st' := [.inl (0 : Int32), .inl q49.1]) (pc' := 64) rfl ?_
      exact aX7_sound_b64 ok hres (F := F) r k77 hr hk77 _ _ _ _ _ _ _ _ _ h
set_option maxRecDepth 100000 in
set_option maxHeartbeats 4000000 in
theorem aX7_sound_l36 {X : gX} (ok : gOk X cX7_sound RX7 9 (some .int) rmX7_sound) {res : Int32 × gW} (hres : gRs X (some (.int res.1)) res.2) {F : Nat} (k77 : Nat → Int32 → Int32 → Int32 → Int32 → gW → Option (Int32 × gW)) (hk77 : ∀ (v0 : Nat) (v1 : Int32) (v2 : Int32) (v3 : Int32) (v4 : Int32) (w : gW), k77 v0 v1 v2 v3 v4 w = some res → Wx X w 0 0 77 [(0, .inr (.inr (some v0))), (1, .inl v1), (2, .inl v2), (3, .inl v3), (4, .inl v4)] []) : ∀ (n : Nat) (v0 : Nat) (v1 : Int32) (v2 : Int32) (v3 : Int32) (v4 : Int32) (v5 : Int32) (w : gW), mX7_sound_l36 F k77 n v0 v1 v2 v3 v4 v5 w = some res → Wx X w 0 0 36 [(0, .inr (.inr (some v0))), (1, .inl v1), (2, .inl v2), (3, .inl v3), (4, .inl v4), (5, .inl v5)] [] := by
  intro n
  induction n with
  | zero => intro v0 v1 v2 v3 v4 v5 w h; cases (show (none : Option (Int32 × gW)) = some res from h)
  | succ n ih =>
    intro v0 v1 v2 v3 v4 v5 w h
    exact aX7_sound_h36 ok hres (F := F) (mX7_sound_l36 F k77 n) k77 ih hk77 v0 v1 v2 v3 v4 v5 w h
set_option maxRecDepth 100000 in
set_option maxHeartbeats 4000000 in
theorem aX7_sound_h27 {X : gX} (ok : gOk X cX7_sound RX7 9 (some .int) rmX7_sound) {res : Int32 × gW} (hres : gRs X (some (.int res.1)) res.2) {F : Nat} (r : Nat → Int32 → Int32 → Int32 → Int32 → gW → Option (Int32 × gW)) (k83 : Nat → Int32 → Int32 → Int32 → gW → Option (Int32 × gW)) (hr : ∀ (v0 : Nat) (v1 : Int32) (v2 : Int32) (v3 : Int32) (v4 : Int32) (w : gW), r v0 v1 v2 v3 v4 w = some res → Wx X w 0 0 27 [(0, .inr (.inr (some v0))), (1, .inl v1), (2, .inl v2), (3, .inl v3), (4, .inl v4)] []) (hk83 : ∀ (v0 : Nat) (v1 : Int32) (v2 : Int32) (v3 : Int32) (w : gW), k83 v0 v1 v2 v3 w = some res → Wx X w 0 0 83 [(0, .inr (.inr (some v0))), (1, .inl v1), (2, .inl v2), (3, .inl v3)] []) : ∀ (v0 : Nat) (v1 : Int32) (v2 : Int32) (v3 : Int32) (v4 : Int32) (w : gW), mX7_sound_h27 F r k83 v0 v1 v2 v3 v4 w = some res → Wx X w 0 0 27 [(0, .inr (.inr (some v0))), (1, .inl v1), (2, .inl v2), (3, .inl v3), (4, .inl v4)] [] := by
  intro v0 v1 v2 v3 v4 w h
  unfold mX7_sound_h27 at h
  refine Wx.run ok kX7_sound 18 2 (lv' := [(0, .inr (.inr (some v0))), (1, .inl v1), (2, .inl v2), (3, .inl v3), (4, .inl v4)]) (st' := [.inl v3, .inl v4]) (pc' := 30) rfl ?_
  refine Wx.icmp_ge ok kX7_sound 20 (tgt := 83) rfl (by decide) h (fun hc30 h => ?_) (fun hc30 h => ?_)
  · refine Wx.sub [0, 1, 2, 3] rfl ?_
    exact hk83 _ _ _ _ _ h
  · refine Wx.run ok kX7_sound 21 2 (lv' := [(5, .inl (0 : Int32)), (0, .inr (.inr (some v0))), (1, .inl v1), (2, .inl v2), (3, .inl v3), (4, .inl v4)]) (st' := []) (pc' := 36) rfl ?_
    refine Wx.sub [1, 2, 3, 4, 5, 0] rfl ?_
    refine aX7_sound_l36 ok hres (F := F) _ ?_ F _ _ _ _ _ _ _ h
    · intro v0 v1 v2 v3 v4 w h
      refine Wx.run ok kX7_sound 43 1 (lv' := [(4, .inl (v4 + (1 : Int32))), (0, .inr (.inr (some v0))), (1, .inl v1), (2, .inl v2), (3, .inl v3)]) (st' := []) (pc' := 80) rfl ?_
      refine Wx.jump ok kX7_sound 44 (tgt := 27) rfl (by decide) ?_
      refine Wx.sub [1, 2, 3, 4, 0] rfl ?_
      exact hr _ _ _ _ _ _ h
set_option maxRecDepth 100000 in
set_option maxHeartbeats 4000000 in
theorem aX7_sound_l27 {X : gX} (ok : gOk X cX7_sound RX7 9 (some .int) rmX7_sound) {res : Int32 × gW} (hres : gRs X (some (.int res.1)) res.2) {F : Nat} (k83 : Nat → Int32 → Int32 → Int32 → gW → Option (Int32 × gW)) (hk83 : ∀ (v0 : Nat) (v1 : Int32) (v2 : Int32) (v3 : Int32) (w : gW), k83 v0 v1 v2 v3 w = some res → Wx X w 0 0 83 [(0, .inr (.inr (some v0))), (1, .inl v1), (2, .inl v2), (3, .inl v3)] []) : ∀ (n : Nat) (v0 : Nat) (v1 : Int32) (v2 : Int32) (v3 : Int32) (v4 : Int32) (w : gW), mX7_sound_l27 F k83 n v0 v1 v2 v3 v4 w = some res → Wx X w 0 0 27 [(0, .inr (.inr (some v0))), (1, .inl v1), (2, .inl v2), (3, .inl v3), (4, .inl v4)] [] := by
  intro n
  induction n with
  | zero => intro v0 v1 v2 v3 v4 w h; cases (show (none : Option (Int32 × gW)) = some res from h)
  | succ n ih =>
    intro v0 v1 v2 v3 v4 w h
    exact aX7_sound_h27 ok hres (F := F) (mX7_sound_l27 F k83 n) k83 ih hk83 v0 v1 v2 v3 v4 w h
set_option maxRecDepth 100000 in
set_option maxHeartbeats 4000000 in
theorem aX7_sound_b180 {X : gX} (ok : gOk X cX7_sound RX7 9 (some .int) rmX7_sound) {res : Int32 × gW} (hres : gRs X (some (.int res.1)) res.2) {F : Nat} (r : Nat → Int32 → Int32 → Int32 → Int32 → Int32 → Int32 → Int32 → gW → Option (Int32 × gW)) (k234 : Nat → Int32 → Int32 → Int32 → Int32 → Int32 → Int32 → gW → Option (Int32 × gW)) (k213 : Nat → Int32 → Int32 → Int32 → gW → Option (Int32 × gW)) (hr : ∀ (v0 : Nat) (v1 : Int32) (v2 : Int32) (v3 : Int32) (v4 : Int32) (v5 : Int32) (v6 : Int32) (v7 : Int32) (w : gW), r v0 v1 v2 v3 v4 v5 v6 v7 w = some res → Wx X w 0 0 123 [(0, .inr (.inr (some v0))), (1, .inl v1), (2, .inl v2), (3, .inl v3), (4, .inl v4), (5, .inl v5), (6, .inl v6), (7, .inl v7)] []) (hk234 : ∀ (v0 : Nat) (v1 : Int32) (v2 : Int32) (v3 : Int32) (v4 : Int32) (v5 : Int32) (v6 : Int32) (w : gW), k234 v0 v1 v2 v3 v4 v5 v6 w = some res → Wx X w 0 0 234 [(0, .inr (.inr (some v0))), (1, .inl v1), (2, .inl v2), (3, .inl v3), (4, .inl v4), (5, .inl v5), (6, .inl v6)] []) (hk213 : ∀ (v0 : Nat) (v2 : Int32) (v4 : Int32) (v5 : Int32) (w : gW), k213 v0 v2 v4 v5 w = some res → Wx X w 0 0 213 [(0, .inr (.inr (some v0))), (2, .inl v2), (4, .inl v4), (5, .inl v5)] []) : ∀ (v0 : Nat) (v1 : Int32) (v2 : Int32) (v3 : Int32) (v4 : Int32) (v5 : Int32) (v6 : Int32) (v7 : Int32) (s0 : Int32) (s1 : Int32) (w : gW), mX7_sound_b180 F r k234 k213 v0 v1 v2 v3 v4 v5 v6 v7 s0 s1 w = some res → Wx X w 0 0 180 [(0, .inr (.inr (some v0))), (1, .inl v1), (2, .inl v2), (3, .inl v3), (4, .inl v4), (5, .inl v5), (6, .inl v6), (7, .inl v7)] [.inl s1, .inl s0] := by
  intro v0 v1 v2 v3 v4 v5 v6 v7 s0 s1 w h
  unfold mX7_sound_b180 at h
  refine Wx.run ok kX7_sound 102 4 (lv' := [(8, .inl (s0 + s1)), (0, .inr (.inr (some v0))), (1, .inl v1), (2, .inl v2), (3, .inl v3), (4, .inl v4), (5, .inl v5), (6, .inl v6), (7, .inl v7)]) (st' := [.inr (.inr (some v0)), .inl (s0 + s1)]) (pc' := 186) rfl ?_
  refine Wx.getR ok kX7_sound 106 rfl lk_RX7_32_0 h (fun t186 h => ?_)
  refine Wx.run ok kX7_sound 107 1 (lv' := [(8, .inl (s0 + s1)), (0, .inr (.inr (some v0))), (1, .inl v1), (2, .inl v2), (3, .inl v3), (4, .inl v4), (5, .inl v5), (6, .inl v6), (7, .inl v7)]) (st' := [.inl v1, .inr (.inr t186), .inl (s0 + s1)]) (pc' := 190) rfl ?_
  refine Wx.iald ok kX7_sound 108 rfl h (fun t190 h => ?_)
  refine Wx.irem ok kX7_sound 109 rfl h (fun t191 h => ?_)
  refine Wx.run ok kX7_sound 110 6 (lv' := [(8, .inl (s0 + s1)), (0, .inr (.inr (some v0))), (1, .inl v1), (2, .inl v2), (3, .inl v3), (4, .inl v4), (5, .inl v5), (6, .inl v6), (7, .inl v7)]) (st' := [.inl v5, .inl v4, .inl v2, .inr (.inr (some v0)), .inl v1, .inr (.inr (some v0)), .inl t191]) (pc' := 200) rfl ?_
  obtain ⟨a200, ha200, h⟩ := gob h
  obtain ⟨q200, hq200, h⟩ := gob h
  refine Wx.callV ok kX7_sound 116 rfl lm_RX7_118 cd_X7_prod ha200 [.inl v2, .inl v4, .inl v5] (some (.inl q200.1)) (aX7_prod _ _ hq200) (by decide) rfl (Nat.le_of_ble_eq_true rfl) rfl rfl ?_
  refine Wx.run ok kX7_sound 117 2 (lv' := [(8, .inl (s0 + s1)), (0, .inr (.inr (some v0))), (1, .inl v1), (2, .inl v2), (3, .inl v3), (4, .inl v4), (5, .inl v5), (6, .inl v6), (7, .inl v7)]) (st' := [.inl v7, .inl v6, .inl q200.1, .inl v1, .inr (.inr (some v0)), .inl t191]) (pc' := 207) rfl ?_
  obtain ⟨a207, ha207, h⟩ := gob h
  obtain ⟨q207, hq207, h⟩ := gob h
  refine Wx.callV ok kX7_sound 119 rfl lm_RX7_193 cd_X7_matrix ha207 [.inl v1, .inl q200.1, .inl v6, .inl v7] (some (.inl q207.1)) (aX7_matrix _ _ hq207) (by decide) rfl (Nat.le_of_ble_eq_true rfl) rfl rfl ?_
  refine Wx.icmp_eq ok kX7_sound 120 (tgt := 228) rfl (by decide) h (fun hc210 h => ?_) (fun hc210 h => ?_)
  · refine Wx.run ok kX7_sound 132 1 (lv' := [(7, .inl (v7 + (1 : Int32))), (8, .inl (s0 + s1)), (0, .inr (.inr (some v0))), (1, .inl v1), (2, .inl v2), (3, .inl v3), (4, .inl v4), (5, .inl v5), (6, .inl v6)]) (st' := []) (pc' := 231) rfl ?_
    refine Wx.jump ok kX7_sound 133 (tgt := 123) rfl (by decide) ?_
    refine Wx.sub [2, 3, 4, 5, 6, 7, 8, 0] rfl ?_
    exact hr _ _ _ _ _ _ _ _ _ h
  · refine Wx.sub [1, 3, 5, 6] rfl ?_
    exact hk213 _ _ _ _ _ h
set_option maxRecDepth 100000 in
set_option maxHeartbeats 4000000 in
theorem aX7_sound_h123 {X : gX} (ok : gOk X cX7_sound RX7 9 (some .int) rmX7_sound) {res : Int32 × gW} (hres : gRs X (some (.int res.1)) res.2) {F : Nat} (r : Nat → Int32 → Int32 → Int32 → Int32 → Int32 → Int32 → Int32 → gW → Option (Int32 × gW)) (k234 : Nat → Int32 → Int32 → Int32 → Int32 → Int32 → Int32 → gW → Option (Int32 × gW)) (k213 : Nat → Int32 → Int32 → Int32 → gW → Option (Int32 × gW)) (hr : ∀ (v0 : Nat) (v1 : Int32) (v2 : Int32) (v3 : Int32) (v4 : Int32) (v5 : Int32) (v6 : Int32) (v7 : Int32) (w : gW), r v0 v1 v2 v3 v4 v5 v6 v7 w = some res → Wx X w 0 0 123 [(0, .inr (.inr (some v0))), (1, .inl v1), (2, .inl v2), (3, .inl v3), (4, .inl v4), (5, .inl v5), (6, .inl v6), (7, .inl v7)] []) (hk234 : ∀ (v0 : Nat) (v1 : Int32) (v2 : Int32) (v3 : Int32) (v4 : Int32) (v5 : Int32) (v6 : Int32) (w : gW), k234 v0 v1 v2 v3 v4 v5 v6 w = some res → Wx X w 0 0 234 [(0, .inr (.inr (some v0))), (1, .inl v1), (2, .inl v2), (3, .inl v3), (4, .inl v4), (5, .inl v5), (6, .inl v6)] []) (hk213 : ∀ (v0 : Nat) (v2 : Int32) (v4 : Int32) (v5 : Int32) (w : gW), k213 v0 v2 v4 v5 w = some res → Wx X w 0 0 213 [(0, .inr (.inr (some v0))), (2, .inl v2), (4, .inl v4), (5, .inl v5)] []) : ∀ (v0 : Nat) (v1 : Int32) (v2 : Int32) (v3 : Int32) (v4 : Int32) (v5 : Int32) (v6 : Int32) (v7 : Int32) (w : gW), mX7_sound_h123 F r k234 k213 v0 v1 v2 v3 v4 v5 v6 v7 w = some res → Wx X w 0 0 123 [(0, .inr (.inr (some v0))), (1, .inl v1), (2, .inl v2), (3, .inl v3), (4, .inl v4), (5, .inl v5), (6, .inl v6), (7, .inl v7)] [] := by
  intro v0 v1 v2 v3 v4 v5 v6 v7 w h
  unfold mX7_sound_h123 at h
  refine Wx.run ok kX7_sound 68 2 (lv' := [(0, .inr (.inr (some v0))), (1, .inl v1), (2, .inl v2), (3, .inl v3), (4, .inl v4), (5, .inl v5), (6, .inl v6), (7, .inl v7)]) (st' := [.inl v3, .inl v7]) (pc' := 126) rfl ?_
  refine Wx.icmp_ge ok kX7_sound 70 (tgt := 234) rfl (by decide) h (fun hc126 h => ?_) (fun hc126 h => ?_)
  · refine Wx.sub [0, 1, 2, 3, 4, 5, 6] rfl ?_
    exact hk234 _ _ _ _ _ _ _ _ h
  · refine Wx.run ok kX7_sound 71 5 (lv' := [(0, .inr (.inr (some v0))), (1, .inl v1), (2, .inl v2), (3, .inl v3), (4, .inl v4), (5, .inl v5), (6, .inl v6), (7, .inl v7)]) (st' := [.inl (0 : Int32), .inl v6, .inl v4, .inl v1, .inr (.inr (some v0))]) (pc' := 136) rfl ?_
    obtain ⟨a136, ha136, h⟩ := gob h
    obtain ⟨q136, hq136, h⟩ := gob h
    refine Wx.callV ok kX7_sound 76 rfl lm_RX7_193 cd_X7_matrix ha136 [.inl v1, .inl v4, .inl v6, .inl (0 : Int32)] (some (.inl q136.1)) (aX7_matrix _ _ hq136) (by decide) rfl (Nat.le_of_ble_eq_true rfl) rfl rfl ?_
    refine Wx.run ok kX7_sound 77 5 (lv' := [(0, .inr (.inr (some v0))), (1, .inl v1), (2, .inl v2), (3, .inl v3), (4, .inl v4), (5, .inl v5), (6, .inl v6), (7, .inl v7)]) (st' := [.inl v7, .inl (0 : Int32), .inl v5, .inl v1, .inr (.inr (some v0)), .inl q136.1]) (pc' := 146) rfl ?_
    obtain ⟨a146, ha146, h⟩ := gob h
    obtain ⟨q146, hq146, h⟩ := gob h
    refine Wx.callV ok kX7_sound 82 rfl lm_RX7_193 cd_X7_matrix ha146 [.inl v1, .inl v5, .inl (0 : Int32), .inl v7] (some (.inl q146.1)) (aX7_matrix _ _ hq146) (by decide) rfl (Nat.le_of_ble_eq_true rfl) rfl rfl ?_
    refine Wx.run ok kX7_sound 83 3 (lv' := [(0, .inr (.inr (some v0))), (1, .inl v1), (2, .inl v2), (3, .inl v3), (4, .inl v4), (5, .inl v5), (6, .inl v6), (7, .inl v7)]) (st' := [.inl (2 : Int32), .inl v3, .inl (q136.1 * q146.1)]) (pc' := 152) rfl ?_
    refine Wx.icmp_ne ok kX7_sound 86 (tgt := 179) rfl (by decide) h (fun hc152 h => ?_) (fun hc152 h => ?_)
    · refine Wx.run ok kX7_sound 87 5 (lv' := [(0, .inr (.inr (some v0))), (1, .inl v1), (2, .inl v2), (3, .inl v3), (4, .inl v4), (5, .inl v5), (6, .inl v6), (7, .inl v7)]) (st' := [.inl (1 : Int32), .inl v6, .inl v4, .inl v1, .inr (.inr (some v0)), .inl (q136.1 * q146.1)]) (pc' := 162) rfl ?_
      obtain ⟨a162, ha162, h⟩ := gob h
      obtain ⟨q162, hq162, h⟩ := gob h
      refine Wx.callV ok kX7_sound 92 rfl lm_RX7_193 cd_X7_matrix ha162 [.inl v1, .inl v4, .inl v6, .inl (1 : Int32)] (some (.inl q162.1)) (aX7_matrix _ _ hq162) (by decide) rfl (Nat.le_of_ble_eq_true rfl) rfl rfl ?_
      refine Wx.run ok kX7_sound 93 5 (lv' := [(0, .inr (.inr (some v0))), (1, .inl v1), (2, .inl v2), (3, .inl v3), (4, .inl v4), (5, .inl v5), (6, .inl v6), (7, .inl v7)]) (st' := [.inl v7, .inl (1 : Int32), .inl v5, .inl v1, .inr (.inr (some v0)), .inl q162.1, .inl (q136.1 * q146.1)]) (pc' := 172) rfl ?_
      obtain ⟨a172, ha172, h⟩ := gob h
      obtain ⟨q172, hq172, h⟩ := gob h
      refine Wx.callV ok kX7_sound 98 rfl lm_RX7_193 cd_X7_matrix ha172 [.inl v1, .inl v5, .inl (1 : Int32), .inl v7] (some (.inl q172.1)) (aX7_matrix _ _ hq172) (by decide) rfl (Nat.le_of_ble_eq_true rfl) rfl rfl ?_
      refine Wx.run ok kX7_sound 99 1 (lv' := [(0, .inr (.inr (some v0))), (1, .inl v1), (2, .inl v2), (3, .inl v3), (4, .inl v4), (5, .inl v5), (6, .inl v6), (7, .inl v7)]) (st' := [.inl (q162.1 * q172.1), .inl (q136.1 * q146.1)]) (pc' := 176) rfl ?_
      refine Wx.jump ok kX7_sound 100 (tgt := 180) rfl (by decide) ?_
      exact aX7_sound_b180 ok hres (F := F) r k234 k213 hr hk234 hk213 _ _ _ _ _ _ _ _ _ _ _ h
    · refine Wx.run ok kX7_sound 101 1 (lv' := [(0, .inr (.inr (some v0))), (1, .inl v1), (2, .inl v2), (3, .inl v3), (4, .inl v4), (5, .inl v5), (6, .inl v6), (7, .inl v7)]) (st' := [.inl (0 : Int32), .inl (q136.1 * q146.1)]) (pc' := 180) rfl ?_
      exact aX7_sound_b180 ok hres (F := F) r k234 k213 hr hk234 hk213 _ _ _ _ _ _ _ _ _ _ _ h
set_option maxRecDepth 100000 in
set_option maxHeartbeats 4000000 in
theorem aX7_sound_l123 {X : gX} (ok : gOk X cX7_sound RX7 9 (some .int) rmX7_sound) {res : Int32 × gW} (hres : gRs X (some (.int res.1)) res.2) {F : Nat} (k234 : Nat → Int32 → Int32 → Int32 → Int32 → Int32 → Int32 → gW → Option (Int32 × gW)) (k213 : Nat → Int32 → Int32 → Int32 → gW → Option (Int32 × gW)) (hk234 : ∀ (v0 : Nat) (v1 : Int32) (v2 : Int32) (v3 : Int32) (v4 : Int32) (v5 : Int32) (v6 : Int32) (w : gW), k234 v0 v1 v2 v3 v4 v5 v6 w = some res → Wx X w 0 0 234 [(0, .inr (.inr (some v0))), (1, .inl v1), (2, .inl v2), (3, .inl v3), (4, .inl v4), (5, .inl v5), (6, .inl v6)] []) (hk213 : ∀ (v0 : Nat) (v2 : Int32) (v4 : Int32) (v5 : Int32) (w : gW), k213 v0 v2 v4 v5 w = some res → Wx X w 0 0 213 [(0, .inr (.inr (some v0))), (2, .inl v2), (4, .inl v4), (5, .inl v5)] []) : ∀ (n : Nat) (v0 : Nat) (v1 : Int32) (v2 : Int32) (v3 : Int32) (v4 : Int32) (v5 : Int32) (v6 : Int32) (v7 : Int32) (w : gW), mX7_sound_l123 F k234 k213 n v0 v1 v2 v3 v4 v5 v6 v7 w = some res → Wx X w 0 0 123 [(0, .inr (.inr (some v0))), (1, .inl v1), (2, .inl v2), (3, .inl v3), (4, .inl v4), (5, .inl v5), (6, .inl v6), (7, .inl v7)] [] := by
  intro n
  induction n with
  | zero => intro v0 v1 v2 v3 v4 v5 v6 v7 w h; cases (show (none : Option (Int32 × gW)) = some res from h)
  | succ n ih =>
    intro v0 v1 v2 v3 v4 v5 v6 v7 w h
    exact aX7_sound_h123 ok hres (F := F) (mX7_sound_l123 F k234 k213 n) k234 k213 ih hk234 hk213 v0 v1 v2 v3 v4 v5 v6 v7 w h
set_option maxRecDepth 100000 in
set_option maxHeartbeats 4000000 in
theorem aX7_sound_h114 {X : gX} (ok : gOk X cX7_sound RX7 9 (some .int) rmX7_sound) {res : Int32 × gW} (hres : gRs X (some (.int res.1)) res.2) {F : Nat} (r : Nat → Int32 → Int32 → Int32 → Int32 → Int32 → Int32 → gW → Option (Int32 × gW)) (k240 : Nat → Int32 → Int32 → Int32 → Int32 → Int32 → gW → Option (Int32 × gW)) (k213 : Nat → Int32 → Int32 → Int32 → gW → Option (Int32 × gW)) (hr : ∀ (v0 : Nat) (v1 : Int32) (v2 : Int32) (v3 : Int32) (v4 : Int32) (v5 : Int32) (v6 : Int32) (w : gW), r v0 v1 v2 v3 v4 v5 v6 w = some res → Wx X w 0 0 114 [(0, .inr (.inr (some v0))), (1, .inl v1), (2, .inl v2), (3, .inl v3), (4, .inl v4), (5, .inl v5), (6, .inl v6)] []) (hk240 : ∀ (v0 : Nat) (v1 : Int32) (v2 : Int32) (v3 : Int32) (v4 : Int32) (v5 : Int32) (w : gW), k240 v0 v1 v2 v3 v4 v5 w = some res → Wx X w 0 0 240 [(0, .inr (.inr (some v0))), (1, .inl v1), (2, .inl v2), (3, .inl v3), (4, .inl v4), (5, .inl v5)] []) (hk213 : ∀ (v0 : Nat) (v2 : Int32) (v4 : Int32) (v5 : Int32) (w : gW), k213 v0 v2 v4 v5 w = some res → Wx X w 0 0 213 [(0, .inr (.inr (some v0))), (2, .inl v2), (4, .inl v4), (5, .inl v5)] []) : ∀ (v0 : Nat) (v1 : Int32) (v2 : Int32) (v3 : Int32) (v4 : Int32) (v5 : Int32) (v6 : Int32) (w : gW), mX7_sound_h114 F r k240 k213 v0 v1 v2 v3 v4 v5 v6 w = some res → Wx X w 0 0 114 [(0, .inr (.inr (some v0))), (1, .inl v1), (2, .inl v2), (3, .inl v3), (4, .inl v4), (5, .inl v5), (6, .inl v6)] [] := by
  intro v0 v1 v2 v3 v4 v5 v6 w h
  unfold mX7_sound_h114 at h
  refine Wx.run ok kX7_sound 63 2 (lv' := [(0, .inr (.inr (some v0))), (1, .inl v1), (2, .inl v2), (3, .inl v3), (4, .inl v4), (5, .inl v5), (6, .inl v6)]) (st' := [.inl v3, .inl v6]) (pc' := 117) rfl ?_
  refine Wx.icmp_ge ok kX7_sound 65 (tgt := 240) rfl (by decide) h (fun hc117 h => ?_) (fun hc117 h => ?_)
  · refine Wx.sub [0, 1, 2, 3, 4, 5] rfl ?_
    exact hk240 _ _ _ _ _ _ _ h
  · refine Wx.run ok kX7_sound 66 2 (lv' := [(7, .inl (0 : Int32)), (0, .inr (.inr (some v0))), (1, .inl v1), (2, .inl v2), (3, .inl v3), (4, .inl v4), (5, .inl v5), (6, .inl v6)]) (st' := []) (pc' := 123) rfl ?_
    refine Wx.sub [1, 2, 3, 4, 5, 6, 7, 0] rfl ?_
    refine aX7_sound_l123 ok hres (F := F) _ _ ?_ ?_ F _ _ _ _ _ _ _ _ _ h
    · intro v0 v1 v2 v3 v4 v5 v6 w h
      refine Wx.run ok kX7_sound 134 1 (lv' := [(6, .inl (v6 + (1 : Int32))), (0, .inr (.inr (some v0))), (1, .inl v1), (2, .inl v2), (3, .inl v3), (4, .inl v4), (5, .inl v5)]) (st' := []) (pc' := 237) rfl ?_
      refine Wx.jump ok kX7_sound 135 (tgt := 114) rfl (by decide) ?_
      refine Wx.sub [1, 2, 3, 4, 5, 6, 0] rfl ?_
      exact hr _ _ _ _ _ _ _ _ h
    · intro v0 v2 v4 v5 w h
      exact hk213 _ _ _ _ _ h
set_option maxRecDepth 100000 in
set_option maxHeartbeats 4000000 in
theorem aX7_sound_l114 {X : gX} (ok : gOk X cX7_sound RX7 9 (some .int) rmX7_sound) {res : Int32 × gW} (hres : gRs X (some (.int res.1)) res.2) {F : Nat} (k240 : Nat → Int32 → Int32 → Int32 → Int32 → Int32 → gW → Option (Int32 × gW)) (k213 : Nat → Int32 → Int32 → Int32 → gW → Option (Int32 × gW)) (hk240 : ∀ (v0 : Nat) (v1 : Int32) (v2 : Int32) (v3 : Int32) (v4 : Int32) (v5 : Int32) (w : gW), k240 v0 v1 v2 v3 v4 v5 w = some res → Wx X w 0 0 240 [(0, .inr (.inr (some v0))), (1, .inl v1), (2, .inl v2), (3, .inl v3), (4, .inl v4), (5, .inl v5)] []) (hk213 : ∀ (v0 : Nat) (v2 : Int32) (v4 : Int32) (v5 : Int32) (w : gW), k213 v0 v2 v4 v5 w = some res → Wx X w 0 0 213 [(0, .inr (.inr (some v0))), (2, .inl v2), (4, .inl v4), (5, .inl v5)] []) : ∀ (n : Nat) (v0 : Nat) (v1 : Int32) (v2 : Int32) (v3 : Int32) (v4 : Int32) (v5 : Int32) (v6 : Int32) (w : gW), mX7_sound_l114 F k240 k213 n v0 v1 v2 v3 v4 v5 v6 w = some res → Wx X w 0 0 114 [(0, .inr (.inr (some v0))), (1, .inl v1), (2, .inl v2), (3, .inl v3), (4, .inl v4), (5, .inl v5), (6, .inl v6)] [] := by
  intro n
  induction n with
  | zero => intro v0 v1 v2 v3 v4 v5 v6 w h; cases (show (none : Option (Int32 × gW)) = some res from h)
  | succ n ih =>
    intro v0 v1 v2 v3 v4 v5 v6 w h
    exact aX7_sound_h114 ok hres (F := F) (mX7_sound_l114 F k240 k213 n) k240 k213 ih hk240 hk213 v0 v1 v2 v3 v4 v5 v6 w h
set_option maxRecDepth 100000 in
set_option maxHeartbeats 4000000 in
theorem aX7_sound_h100 {X : gX} (ok : gOk X cX7_sound RX7 9 (some .int) rmX7_sound) {res : Int32 × gW} (hres : gRs X (some (.int res.1)) res.2) {F : Nat} (r : Nat → Int32 → Int32 → Int32 → Int32 → Int32 → gW → Option (Int32 × gW)) (k246 : Nat → Int32 → Int32 → Int32 → Int32 → gW → Option (Int32 × gW)) (k213 : Nat → Int32 → Int32 → Int32 → gW → Option (Int32 × gW)) (hr : ∀ (v0 : Nat) (v1 : Int32) (v2 : Int32) (v3 : Int32) (v4 : Int32) (v5 : Int32) (w : gW), r v0 v1 v2 v3 v4 v5 w = some res → Wx X w 0 0 100 [(0, .inr (.inr (some v0))), (1, .inl v1), (2, .inl v2), (3, .inl v3), (4, .inl v4), (5, .inl v5)] []) (hk246 : ∀ (v0 : Nat) (v1 : Int32) (v2 : Int32) (v3 : Int32) (v4 : Int32) (w : gW), k246 v0 v1 v2 v3 v4 w = some res → Wx X w 0 0 246 [(0, .inr (.inr (some v0))), (1, .inl v1), (2, .inl v2), (3, .inl v3), (4, .inl v4)] []) (hk213 : ∀ (v0 : Nat) (v2 : Int32) (v4 : Int32) (v5 : Int32) (w : gW), k213 v0 v2 v4 v5 w = some res → Wx X w 0 0 213 [(0, .inr (.inr (some v0))), (2, .inl v2), (4, .inl v4), (5, .inl v5)] []) : ∀ (v0 : Nat) (v1 : Int32) (v2 : Int32) (v3 : Int32) (v4 : Int32) (v5 : Int32) (w : gW), mX7_sound_h100 F r k246 k213 v0 v1 v2 v3 v4 v5 w = some res → Wx X w 0 0 100 [(0, .inr (.inr (some v0))), (1, .inl v1), (2, .inl v2), (3, .inl v3), (4, .inl v4), (5, .inl v5)] [] := by
  intro v0 v1 v2 v3 v4 v5 w h
  unfold mX7_sound_h100 at h
  refine Wx.run ok kX7_sound 55 2 (lv' := [(0, .inr (.inr (some v0))), (1, .inl v1), (2, .inl v2), (3, .inl v3), (4, .inl v4), (5, .inl v5)]) (st' := [.inr (.inr (some v0)), .inl v5]) (pc' := 103) rfl ?_
  refine Wx.getR ok kX7_sound 57 rfl lk_RX7_7_0 h (fun t103 h => ?_)
  refine Wx.run ok kX7_sound 58 1 (lv' := [(0, .inr (.inr (some v0))), (1, .inl v1), (2, .inl v2), (3, .inl v3), (4, .inl v4), (5, .inl v5)]) (st' := [.inl v2, .inr (.inr t103), .inl v5]) (pc' := 107) rfl ?_
  refine Wx.iald ok kX7_sound 59 rfl h (fun t107 h => ?_)
  refine Wx.icmp_ge ok kX7_sound 60 (tgt := 246) rfl (by decide) h (fun hc108 h => ?_) (fun hc108 h => ?_)
  · refine Wx.sub [0, 1, 2, 3, 4] rfl ?_
    exact hk246 _ _ _ _ _ _ h
  · refine Wx.run ok kX7_sound 61 2 (lv' := [(6, .inl (0 : Int32)), (0, .inr (.inr (some v0))), (1, .inl v1), (2, .inl v2), (3, .inl v3), (4, .inl v4), (5, .inl v5)]) (st' := []) (pc' := 114) rfl ?_
    refine Wx.sub [1, 2, 3, 4, 5, 6, 0] rfl ?_
    refine aX7_sound_l114 ok hres (F := F) _ _ ?_ ?_ F _ _ _ _ _ _ _ _ h
    · intro v0 v1 v2 v3 v4 v5 w h
      refine Wx.run ok kX7_sound 136 1 (lv' := [(5, .inl (v5 + (1 : Int32))), (0, .inr (.inr (some v0))), (1, .inl v1), (2, .inl v2), (3, .inl v3), (4, .inl v4)]) (st' := []) (pc' := 243) rfl ?_
      refine Wx.jump ok kX7_sound 137 (tgt := 100) rfl (by decide) ?_
      refine Wx.sub [1, 2, 3, 4, 5, 0] rfl ?_
      exact hr _ _ _ _ _ _ _ h
    · intro v0 v2 v4 v5 w h
      exact hk213 _ _ _ _ _ h
set_option maxRecDepth 100000 in
set_option maxHeartbeats 4000000 in
theorem aX7_sound_l100 {X : gX} (ok : gOk X cX7_sound RX7 9 (some .int) rmX7_sound) {res : Int32 × gW} (hres : gRs X (some (.int res.1)) res.2) {F : Nat} (k246 : Nat → Int32 → Int32 → Int32 → Int32 → gW → Option (Int32 × gW)) (k213 : Nat → Int32 → Int32 → Int32 → gW → Option (Int32 × gW)) (hk246 : ∀ (v0 : Nat) (v1 : Int32) (v2 : Int32) (v3 : Int32) (v4 : Int32) (w : gW), k246 v0 v1 v2 v3 v4 w = some res → Wx X w 0 0 246 [(0, .inr (.inr (some v0))), (1, .inl v1), (2, .inl v2), (3, .inl v3), (4, .inl v4)] []) (hk213 : ∀ (v0 : Nat) (v2 : Int32) (v4 : Int32) (v5 : Int32) (w : gW), k213 v0 v2 v4 v5 w = some res → Wx X w 0 0 213 [(0, .inr (.inr (some v0))), (2, .inl v2), (4, .inl v4), (5, .inl v5)] []) : ∀ (n : Nat) (v0 : Nat) (v1 : Int32) (v2 : Int32) (v3 : Int32) (v4 : Int32) (v5 : Int32) (w : gW), mX7_sound_l100 F k246 k213 n v0 v1 v2 v3 v4 v5 w = some res → Wx X w 0 0 100 [(0, .inr (.inr (some v0))), (1, .inl v1), (2, .inl v2), (3, .inl v3), (4, .inl v4), (5, .inl v5)] [] := by
  intro n
  induction n with
  | zero => intro v0 v1 v2 v3 v4 v5 w h; cases (show (none : Option (Int32 × gW)) = some res from h)
  | succ n ih =>
    intro v0 v1 v2 v3 v4 v5 w h
    exact aX7_sound_h100 ok hres (F := F) (mX7_sound_l100 F k246 k213 n) k246 k213 ih hk246 hk213 v0 v1 v2 v3 v4 v5 w h
set_option maxRecDepth 100000 in
set_option maxHeartbeats 4000000 in
theorem aX7_sound_h86 {X : gX} (ok : gOk X cX7_sound RX7 9 (some .int) rmX7_sound) {res : Int32 × gW} (hres : gRs X (some (.int res.1)) res.2) {F : Nat} (r : Nat → Int32 → Int32 → Int32 → Int32 → gW → Option (Int32 × gW)) (k213 : Nat → Int32 → Int32 → Int32 → gW → Option (Int32 × gW)) (hr : ∀ (v0 : Nat) (v1 : Int32) (v2 : Int32) (v3 : Int32) (v4 : Int32) (w : gW), r v0 v1 v2 v3 v4 w = some res → Wx X w 0 0 86 [(0, .inr (.inr (some v0))), (1, .inl v1), (2, .inl v2), (3, .inl v3), (4, .inl v4)] []) (hk213 : ∀ (v0 : Nat) (v2 : Int32) (v4 : Int32) (v5 : Int32) (w : gW), k213 v0 v2 v4 v5 w = some res → Wx X w 0 0 213 [(0, .inr (.inr (some v0))), (2, .inl v2), (4, .inl v4), (5, .inl v5)] []) : ∀ (v0 : Nat) (v1 : Int32) (v2 : Int32) (v3 : Int32) (v4 : Int32) (w : gW), mX7_sound_h86 F r k213 v0 v1 v2 v3 v4 w = some res → Wx X w 0 0 86 [(0, .inr (.inr (some v0))), (1, .inl v1), (2, .inl v2), (3, .inl v3), (4, .inl v4)] [] := by
  intro v0 v1 v2 v3 v4 w h
  unfold mX7_sound_h86 at h
  refine Wx.run ok kX7_sound 47 2 (lv' := [(0, .inr (.inr (some v0))), (1, .inl v1), (2, .inl v2), (3, .inl v3), (4, .inl v4)]) (st' := [.inr (.inr (some v0)), .inl v4]) (pc' := 89) rfl ?_
  refine Wx.getR ok kX7_sound 49 rfl lk_RX7_7_0 h (fun t89 h => ?_)
  refine Wx.run ok kX7_sound 50 1 (lv' := [(0, .inr (.inr (some v0))), (1, .inl v1), (2, .inl v2), (3, .inl v3), (4, .inl v4)]) (st' := [.inl v2, .inr (.inr t89), .inl v4]) (pc' := 93) rfl ?_
  refine Wx.iald ok kX7_sound 51 rfl h (fun t93 h => ?_)
  refine Wx.icmp_ge ok kX7_sound 52 (tgt := 252) rfl (by decide) h (fun hc94 h => ?_) (fun hc94 h => ?_)
  · refine Wx.run ok kX7_sound 140 1 (lv' := [(0, .inr (.inr (some v0))), (1, .inl v1), (2, .inl v2), (3, .inl v3), (4, .inl v4)]) (st' := [.inl (0 : Int32)]) (pc' := 253) rfl ?_
    exact Wx.ireturn ok kX7_sound 141 rfl hres h (by decide)
  · refine Wx.run ok kX7_sound 53 2 (lv' := [(5, .inl (0 : Int32)), (0, .inr (.inr (some v0))), (1, .inl v1), (2, .inl v2), (3, .inl v3), (4, .inl v4)]) (st' := []) (pc' := 100) rfl ?_
    refine Wx.sub [1, 2, 3, 4, 5, 0] rfl ?_
    refine aX7_sound_l100 ok hres (F := F) _ _ ?_ ?_ F _ _ _ _ _ _ _ h
    · intro v0 v1 v2 v3 v4 w h
      refine Wx.run ok kX7_sound 138 1 (lv' := [(4, .inl (v4 + (1 : Int32))), (0, .inr (.inr (some v0))), (1, .inl v1), (2, .inl v2), (3, .inl v3)]) (st' := []) (pc' := 249) rfl ?_
      refine Wx.jump ok kX7_sound 139 (tgt := 86) rfl (by decide) ?_
      refine Wx.sub [1, 2, 3, 4, 0] rfl ?_
      exact hr _ _ _ _ _ _ h
    · intro v0 v2 v4 v5 w h
      exact hk213 _ _ _ _ _ h
set_option maxRecDepth 100000 in
set_option maxHeartbeats 4000000 in
theorem aX7_sound_l86 {X : gX} (ok : gOk X cX7_sound RX7 9 (some .int) rmX7_sound) {res : Int32 × gW} (hres : gRs X (some (.int res.1)) res.2) {F : Nat} (k213 : Nat → Int32 → Int32 → Int32 → gW → Option (Int32 × gW)) (hk213 : ∀ (v0 : Nat) (v2 : Int32) (v4 : Int32) (v5 : Int32) (w : gW), k213 v0 v2 v4 v5 w = some res → Wx X w 0 0 213 [(0, .inr (.inr (some v0))), (2, .inl v2), (4, .inl v4), (5, .inl v5)] []) : ∀ (n : Nat) (v0 : Nat) (v1 : Int32) (v2 : Int32) (v3 : Int32) (v4 : Int32) (w : gW), mX7_sound_l86 F k213 n v0 v1 v2 v3 v4 w = some res → Wx X w 0 0 86 [(0, .inr (.inr (some v0))), (1, .inl v1), (2, .inl v2), (3, .inl v3), (4, .inl v4)] [] := by
  intro n
  induction n with
  | zero => intro v0 v1 v2 v3 v4 w h; cases (show (none : Option (Int32 × gW)) = some res from h)
  | succ n ih =>
    intro v0 v1 v2 v3 v4 w h
    exact aX7_sound_h86 ok hres (F := F) (mX7_sound_l86 F k213 n) k213 ih hk213 v0 v1 v2 v3 v4 w h
set_option maxRecDepth 100000 in
set_option maxHeartbeats 4000000 in
theorem aX7_sound (l : Launch) (G : gG) {F : Nat} {v0 : Nat} {v1 : Int32} {w : gW} {res : Int32 × gW} (h : mX7_sound F v0 v1 w = some res) : gM l yX7_sound cX7_sound 9 (some .int) rmX7_sound G w (gTs [.inr (.inr (some v0)), .inl v1]) (some (.int res.1)) res.2 := by
  refine gM_of (y := yX7_sound) (by decide +kernel) (Nat.le_of_ble_eq_true rfl) ?_
  intro X ok hl hG hres hnm
  subst hl; subst hG
  unfold mX7_sound at h
  show Wx X w 0 0 0 [(0, .inr (.inr (some v0))), (1, .inl v1)] []
  refine Wx.run ok kX7_sound 0 2 (lv' := [(0, .inr (.inr (some v0))), (1, .inl v1)]) (st' := [.inl v1, .inr (.inr (some v0))]) (pc' := 2) rfl ?_
  obtain ⟨a2, ha2, h⟩ := gob h
  obtain ⟨q2, hq2, h⟩ := gob h
  refine Wx.callV ok kX7_sound 2 rfl lm_RX7_190 cd_X7_isModule ha2 [.inl v1] (some (.inl q2.1)) (aX7_isModule _ _ hq2) (by decide) rfl (Nat.le_of_ble_eq_true rfl) rfl rfl ?_
  refine Wx.if_ne ok kX7_sound 3 (tgt := 10) rfl (by decide) h (fun hc5 h => ?_) (fun hc5 h => ?_)
  · refine Wx.run ok kX7_sound 4 1 (lv' := [(0, .inr (.inr (some v0))), (1, .inl v1)]) (st' := [.inl (-1 : Int32)]) (pc' := 9) rfl ?_
    exact Wx.ireturn ok kX7_sound 5 rfl hres h (by decide)
  · refine Wx.run ok kX7_sound 6 1 (lv' := [(0, .inr (.inr (some v0))), (1, .inl v1)]) (st' := [.inr (.inr (some v0))]) (pc' := 11) rfl ?_
    refine Wx.getR ok kX7_sound 7 rfl lk_RX7_29_0 h (fun t11 h => ?_)
    refine Wx.run ok kX7_sound 8 1 (lv' := [(0, .inr (.inr (some v0))), (1, .inl v1)]) (st' := [.inl v1, .inr (.inr t11)]) (pc' := 15) rfl ?_
    refine Wx.iald ok kX7_sound 9 rfl h (fun t15 h => ?_)
    refine Wx.run ok kX7_sound 10 2 (lv' := [(2, .inl t15), (0, .inr (.inr (some v0))), (1, .inl v1)]) (st' := [.inr (.inr (some v0))]) (pc' := 18) rfl ?_
    refine Wx.getR ok kX7_sound 12 rfl lk_RX7_35_0 h (fun t18 h => ?_)
    refine Wx.run ok kX7_sound 13 1 (lv' := [(2, .inl t15), (0, .inr (.inr (some v0))), (1, .inl v1)]) (st' := [.inl v1, .inr (.inr t18)]) (pc' := 22) rfl ?_
    refine Wx.iald ok kX7_sound 14 rfl h (fun t22 h => ?_)
    refine Wx.run ok kX7_sound 15 3 (lv' := [(4, .inl (0 : Int32)), (3, .inl t22), (2, .inl t15), (0, .inr (.inr (some v0))), (1, .inl v1)]) (st' := []) (pc' := 27) rfl ?_
    refine Wx.sub [3, 4, 2, 1, 0] rfl ?_
    refine aX7_sound_l27 ok hres (F := F) _ ?_ F _ _ _ _ _ _ h
    · intro v0 v1 v2 v3 w h
      refine Wx.run ok kX7_sound 45 2 (lv' := [(4, .inl (0 : Int32)), (0, .inr (.inr (some v0))), (1, .inl v1), (2, .inl v2), (3, .inl v3)]) (st' := []) (pc' := 86) rfl ?_
      refine Wx.sub [1, 2, 3, 4, 0] rfl ?_
      refine aX7_sound_l86 ok hres (F := F) _ ?_ F _ _ _ _ _ _ h
      · intro v0 v2 v4 v5 w h
        refine Wx.run ok kX7_sound 121 2 (lv' := [(0, .inr (.inr (some v0))), (2, .inl v2), (4, .inl v4), (5, .inl v5)]) (st' := [.inr (.inr (some v0)), .inl (1 : Int32)]) (pc' := 215) rfl ?_
        refine Wx.getR ok kX7_sound 123 rfl lk_RX7_7_0 h (fun t215 h => ?_)
        refine Wx.run ok kX7_sound 124 1 (lv' := [(0, .inr (.inr (some v0))), (2, .inl v2), (4, .inl v4), (5, .inl v5)]) (st' := [.inl v2, .inr (.inr t215), .inl (1 : Int32)]) (pc' := 219) rfl ?_
        refine Wx.iald ok kX7_sound 125 rfl h (fun t219 h => ?_)
        refine Wx.run ok kX7_sound 126 5 (lv' := [(0, .inr (.inr (some v0))), (2, .inl v2), (4, .inl v4), (5, .inl v5)]) (st' := [.inl (((1 : Int32) + (t219 * v4)) + v5)]) (pc' := 227) rfl ?_
        exact Wx.ireturn ok kX7_sound 131 rfl hres h (by decide)
set_option maxRecDepth 100000 in
set_option maxHeartbeats 4000000 in
theorem aX7_turnsMade_b102 {X : gX} (ok : gOk X cX7_turnsMade RX7 6 (some .int) rmX7_turnsMade) {res : Int32 × gW} (hres : gRs X (some (.int res.1)) res.2) {F : Nat} (r : Nat → Int32 → Int32 → Int32 → Int32 → gW → Option (Int32 × gW)) (k108 : Nat → Int32 → Int32 → Int32 → gW → Option (Int32 × gW)) (hr : ∀ (v0 : Nat) (v1 : Int32) (v2 : Int32) (v3 : Int32) (v4 : Int32) (w : gW), r v0 v1 v2 v3 v4 w = some res → Wx X w 0 0 32 [(0, .inr (.inr (some v0))), (1, .inl v1), (2, .inl v2), (3, .inl v3), (4, .inl v4)] []) (hk108 : ∀ (v0 : Nat) (v1 : Int32) (v2 : Int32) (v3 : Int32) (w : gW), k108 v0 v1 v2 v3 w = some res → Wx X w 0 0 108 [(0, .inr (.inr (some v0))), (1, .inl v1), (2, .inl v2), (3, .inl v3)] []) : ∀ (v0 : Nat) (v1 : Int32) (v2 : Int32) (v3 : Int32) (v4 : Int32) (w : gW), mX7_turnsMade_b102 F r k108 v0 v1 v2 v3 v4 w = some res → Wx X w 0 0 102 [(0, .inr (.inr (some v0))), (1, .inl v1), (2, .inl v2), (3, .inl v3), (4, .inl v4)] [] := by
  intro v0 v1 v2 v3 v4 w h
  unfold mX7_turnsMade_b102 at h
  refine Wx.run ok kX7_turnsMade 61 1 (lv' := [(4, .inl (v4 + (1 : Int32))), (0, .inr (.inr (some v0))), (1, .inl v1), (2, .inl v2), (3, .inl v3)]) (st' := []) (pc' := 105) rfl ?_
  refine Wx.jump ok kX7_turnsMade 62 (tgt := 32) rfl (by decide) ?_
  refine Wx.sub [1, 2, 3, 4, 0] rfl ?_
  exact hr _ _ _ _ _ _ h
set_option maxRecDepth 100000 in
set_option maxHeartbeats 4000000 in
theorem aX7_turnsMade_h32 {X : gX} (ok : gOk X cX7_turnsMade RX7 6 (some .int) rmX7_turnsMade) {res : Int32 × gW} (hres : gRs X (some (.int res.1)) res.2) {F : Nat} (r : Nat → Int32 → Int32 → Int32 → Int32 → gW → Option (Int32 × gW)) (k108 : Nat → Int32 → Int32 → Int32 → gW → Option (Int32 × gW)) (hr : ∀ (v0 : Nat) (v1 : Int32) (v2 : Int32) (v3 : Int32) (v4 : Int32) (w : gW), r v0 v1 v2 v3 v4 w = some res → Wx X w 0 0 32 [(0, .inr (.inr (some v0))), (1, .inl v1), (2, .inl v2), (3, .inl v3), (4, .inl v4)] []) (hk108 : ∀ (v0 : Nat) (v1 : Int32) (v2 : Int32) (v3 : Int32) (w : gW), k108 v0 v1 v2 v3 w = some res → Wx X w 0 0 108 [(0, .inr (.inr (some v0))), (1, .inl v1), (2, .inl v2), (3, .inl v3)] []) : ∀ (v0 : Nat) (v1 : Int32) (v2 : Int32) (v3 : Int32) (v4 : Int32) (w : gW), mX7_turnsMade_h32 F r k108 v0 v1 v2 v3 v4 w = some res → Wx X w 0 0 32 [(0, .inr (.inr (some v0))), (1, .inl v1), (2, .inl v2), (3, .inl v3), (4, .inl v4)] [] := by
  intro v0 v1 v2 v3 v4 w h
  unfold mX7_turnsMade_h32 at h
  refine Wx.run ok kX7_turnsMade 21 2 (lv' := [(0, .inr (.inr (some v0))), (1, .inl v1), (2, .inl v2), (3, .inl v3), (4, .inl v4)]) (st' := [.inr (.inr (some v0)), .inl v4]) (pc' := 35) rfl ?_
  refine Wx.getR ok kX7_turnsMade 23 rfl lk_RX7_7_0 h (fun t35 h => ?_)
  refine Wx.run ok kX7_turnsMade 24 1 (lv' := [(0, .inr (.inr (some v0))), (1, .inl v1), (2, .inl v2), (3, .inl v3), (4, .inl v4)]) (st' := [.inl v1, .inr (.inr t35), .inl v4]) (pc' := 39) rfl ?_
  refine Wx.iald ok kX7_turnsMade 25 rfl h (fun t39 h => ?_)
  refine Wx.icmp_ge ok kX7_turnsMade 26 (tgt := 108) rfl (by decide) h (fun hc40 h => ?_) (fun hc40 h => ?_)
  · refine Wx.sub [0, 1, 2, 3] rfl ?_
    exact hk108 _ _ _ _ _ h
  · refine Wx.run ok kX7_turnsMade 27 8 (lv' := [(0, .inr (.inr (some v0))), (1, .inl v1), (2, .inl v2), (3, .inl v3), (4, .inl v4)]) (st' := [.inl v4, .inl v3, .inl v1, .inr (.inr (some v0)), .inl v1, .inr (.inr (some v0)), .inl v1, .inr (.inr (some v0))]) (pc' := 52) rfl ?_
    obtain ⟨a52, ha52, h⟩ := gob h
    obtain ⟨q52, hq52, h⟩ := gob h
    refine Wx.callV ok kX7_turnsMade 35 rfl lm_RX7_118 cd_X7_prod ha52 [.inl v1, .inl v3, .inl v4] (some (.inl q52.1)) (aX7_prod _ _ hq52) (by decide) rfl (Nat.le_of_ble_eq_true rfl) rfl rfl ?_
    refine Wx.run ok kX7_turnsMade 36 3 (lv' := [(0, .inr (.inr (some v0))), (1, .inl v1), (2, .inl v2), (3, .inl v3), (4, .inl v4)]) (st' := [.inl v3, .inl v1, .inr (.inr (some v0)), .inl q52.1, .inl v1, .inr (.inr (some v0)), .inl v1, .inr (.inr (some v0))]) (pc' := 58) rfl ?_
    obtain ⟨a58, ha58, h⟩ := gob h
    obtain ⟨q58, hq58, h⟩ := gob h
    refine Wx.callV ok kX7_turnsMade 39 rfl lm_RX7_136 cd_X7_inverse ha58 [.inl v1, .inl v3] (some (.inl q58.1)) (aX7_inverse _ _ hq58) (by decide) rfl (Nat.le_of_ble_eq_true rfl) rfl rfl ?_
    obtain ⟨a61, ha61, h⟩ := gob h
    obtain ⟨q61, hq61, h⟩ := gob h
    refine Wx.callV ok kX7_turnsMade 40 rfl lm_RX7_118 cd_X7_prod ha61 [.inl v1, .inl q52.1, .inl q58.1] (some (.inl q61.1)) (aX7_prod _ _ hq61) (by decide) rfl (Nat.le_of_ble_eq_true rfl) rfl rfl ?_
    refine Wx.run ok kX7_turnsMade 41 3 (lv' := [(0, .inr (.inr (some v0))), (1, .inl v1), (2, .inl v2), (3, .inl v3), (4, .inl v4)]) (st' := [.inl v4, .inl v1, .inr (.inr (some v0)), .inl q61.1, .inl v1, .inr (.inr (some v0))]) (pc' := 68) rfl ?_
    obtain ⟨a68, ha68, h⟩ := gob h
    obtain ⟨q68, hq68, h⟩ := gob h
    refine Wx.callV ok kX7_turnsMade 44 rfl lm_RX7_136 cd_X7_inverse ha68 [.inl v1, .inl v4] (some (.inl q68.1)) (aX7_inverse _ _ hq68) (by decide) rfl (Nat.le_of_ble_eq_true rfl) rfl rfl ?_
    obtain ⟨a71, ha71, h⟩ := gob h
    obtain ⟨q71, hq71, h⟩ := gob h
    refine Wx.callV ok kX7_turnsMade 45 rfl lm_RX7_118 cd_X7_prod ha71 [.inl v1, .inl q61.1, .inl q68.1] (some (.inl q71.1)) (aX7_prod _ _ hq71) (by decide) rfl (Nat.le_of_ble_eq_true rfl) rfl rfl ?_
    refine Wx.run ok kX7_turnsMade 46 3 (lv' := [(5, .inl q71.1), (0, .inr (.inr (some v0))), (1, .inl v1), (2, .inl v2), (3, .inl v3), (4, .inl v4)]) (st' := [.inl q71.1, .inr (.inr (some v0))]) (pc' := 79) rfl ?_
    obtain ⟨a79, ha79, h⟩ := gob h
    obtain ⟨q79, hq79, h⟩ := gob h
    refine Wx.callV ok kX7_turnsMade 49 rfl lm_RX7_159 cd_X7_isMade ha79 [.inl q71.1] (some (.inl q79.1)) (aX7_isMade _ _ hq79) (by decide) rfl (Nat.le_of_ble_eq_true rfl) rfl rfl ?_
    refine Wx.if_ne ok kX7_turnsMade 50 (tgt := 102) rfl (by decide) h (fun hc82 h => ?_) (fun hc82 h => ?_)
    · refine Wx.run ok kX7_turnsMade 51 1 (lv' := [(5, .inl q71.1), (0, .inr (.inr (some v0))), (1, .inl v1), (2, .inl v2), (3, .inl v3), (4, .inl v4)]) (st' := [.inr (.inr (some v0))]) (pc' := 86) rfl ?_
      refine Wx.getR ok kX7_turnsMade 52 rfl lk_RX7_41_0 h (fun t86 h => ?_)
      refine Wx.run ok kX7_turnsMade 53 2 (lv' := [(5, .inl q71.1), (0, .inr (.inr (some v0))), (1, .inl v1), (2, .inl v2), (3, .inl v3), (4, .inl v4)]) (st' := [.inl q71.1, .inl v2, .inr (.inr t86)]) (pc' := 92) rfl ?_
      refine Wx.iast ok kX7_turnsMade 55 rfl h (fun w92 h => ?_)
      refine Wx.run ok kX7_turnsMade 56 4 (lv' := [(2, .inl (v2 + (1 : Int32))), (5, .inl q71.1), (0, .inr (.inr (some v0))), (1, .inl v1), (3, .inl v3), (4, .inl v4)]) (st' := [.inl (v2 + (1 : Int32)), .inl v1, .inr (.inr (some v0))]) (pc' := 99) rfl ?_
      obtain ⟨a99, ha99, h⟩ := gob h
      obtain ⟨q99, hq99, h⟩ := gob h
      refine Wx.callV ok kX7_turnsMade 60 rfl lm_RX7_162 cd_X7_makes ha99 [.inl v1, .inl (v2 + (1 : Int32))] none (aX7_makes _ _ hq99) (by decide) rfl (Nat.le_of_ble_eq_true rfl) rfl rfl ?_
      refine Wx.sub [2, 3, 0, 4, 5] rfl ?_
      exact aX7_turnsMade_b102 ok hres (F := F) r k108 hr hk108 _ _ _ _ _ _ h
    · refine Wx.sub [1, 2, 3, 4, 5] rfl ?_
      exact aX7_turnsMade_b102 ok hres (F := F) r k108 hr hk108 _ _ _ _ _ _ h
set_option maxRecDepth 100000 in
set_option maxHeartbeats 4000000 in
theorem aX7_turnsMade_l32 {X : gX} (ok : gOk X cX7_turnsMade RX7 6 (some .int) rmX7_turnsMade) {res : Int32 × gW} (hres : gRs X (some (.int res.1)) res.2) {F : Nat} (k108 : Nat → Int32 → Int32 → Int32 → gW → Option (Int32 × gW)) (hk108 : ∀ (v0 : Nat) (v1 : Int32) (v2 : Int32) (v3 : Int32) (w : gW), k108 v0 v1 v2 v3 w = some res → Wx X w 0 0 108 [(0, .inr (.inr (some v0))), (1, .inl v1), (2, .inl v2), (3, .inl v3)] []) : ∀ (n : Nat) (v0 : Nat) (v1 : Int32) (v2 : Int32) (v3 : Int32) (v4 : Int32) (w : gW), mX7_turnsMade_l32 F k108 n v0 v1 v2 v3 v4 w = some res → Wx X w 0 0 32 [(0, .inr (.inr (some v0))), (1, .inl v1), (2, .inl v2), (3, .inl v3), (4, .inl v4)] [] := by
  intro n
  induction n with
  | zero => intro v0 v1 v2 v3 v4 w h; cases (show (none : Option (Int32 × gW)) = some res from h)
  | succ n ih =>
    intro v0 v1 v2 v3 v4 w h
    exact aX7_turnsMade_h32 ok hres (F := F) (mX7_turnsMade_l32 F k108 n) k108 ih hk108 v0 v1 v2 v3 v4 w h
set_option maxRecDepth 100000 in
set_option maxHeartbeats 4000000 in
theorem aX7_turnsMade_h19 {X : gX} (ok : gOk X cX7_turnsMade RX7 6 (some .int) rmX7_turnsMade) {res : Int32 × gW} (hres : gRs X (some (.int res.1)) res.2) {F : Nat} (r : Nat → Int32 → Int32 → Int32 → gW → Option (Int32 × gW)) (k114 : Nat → gW → Option (Int32 × gW)) (hr : ∀ (v0 : Nat) (v1 : Int32) (v2 : Int32) (v3 : Int32) (w : gW), r v0 v1 v2 v3 w = some res → Wx X w 0 0 19 [(0, .inr (.inr (some v0))), (1, .inl v1), (2, .inl v2), (3, .inl v3)] []) (hk114 : ∀ (v0 : Nat) (w : gW), k114 v0 w = some res → Wx X w 0 0 114 [(0, .inr (.inr (some v0)))] []) : ∀ (v0 : Nat) (v1 : Int32) (v2 : Int32) (v3 : Int32) (w : gW), mX7_turnsMade_h19 F r k114 v0 v1 v2 v3 w = some res → Wx X w 0 0 19 [(0, .inr (.inr (some v0))), (1, .inl v1), (2, .inl v2), (3, .inl v3)] [] := by
  intro v0 v1 v2 v3 w h
  unfold mX7_turnsMade_h19 at h
  refine Wx.run ok kX7_turnsMade 13 2 (lv' := [(0, .inr (.inr (some v0))), (1, .inl v1), (2, .inl v2), (3, .inl v3)]) (st' := [.inr (.inr (some v0)), .inl v3]) (pc' := 21) rfl ?_
  refine Wx.getR ok kX7_turnsMade 15 rfl lk_RX7_7_0 h (fun t21 h => ?_)
  refine Wx.run ok kX7_turnsMade 16 1 (lv' := [(0, .inr (.inr (some v0))), (1, .inl v1), (2, .inl v2), (3, .inl v3)]) (st' := [.inl v1, .inr (.inr t21), .inl v3]) (pc' := 25) rfl ?_
  refine Wx.iald ok kX7_turnsMade 17 rfl h (fun t25 h => ?_)
  refine Wx.icmp_ge ok kX7_turnsMade 18 (tgt := 114) rfl (by decide) h (fun hc26 h => ?_) (fun hc26 h => ?_)
  · refine Wx.sub [0] rfl ?_
    exact hk114 _ _ h
  · refine Wx.run ok kX7_turnsMade 19 2 (lv' := [(4, .inl (0 : Int32)), (0, .inr (.inr (some v0))), (1, .inl v1), (2, .inl v2), (3, .inl v3)]) (st' := []) (pc' := 32) rfl ?_
    refine Wx.sub [1, 2, 3, 4, 0] rfl ?_
    refine aX7_turnsMade_l32 ok hres (F := F) _ ?_ F _ _ _ _ _ _ h
    · intro v0 v1 v2 v3 w h
      refine Wx.run ok kX7_turnsMade 63 1 (lv' := [(3, .inl (v3 + (1 : Int32))), (0, .inr (.inr (some v0))), (1, .inl v1), (2, .inl v2)]) (st' := []) (pc' := 111) rfl ?_
      refine Wx.jump ok kX7_turnsMade 64 (tgt := 19) rfl (by decide) ?_
      refine Wx.sub [1, 2, 3, 0] rfl ?_
      exact hr _ _ _ _ _ h
set_option maxRecDepth 100000 in
set_option maxHeartbeats 4000000 in
theorem aX7_turnsMade_l19 {X : gX} (ok : gOk X cX7_turnsMade RX7 6 (some .int) rmX7_turnsMade) {res : Int32 × gW} (hres : gRs X (some (.int res.1)) res.2) {F : Nat} (k114 : Nat → gW → Option (Int32 × gW)) (hk114 : ∀ (v0 : Nat) (w : gW), k114 v0 w = some res → Wx X w 0 0 114 [(0, .inr (.inr (some v0)))] []) : ∀ (n : Nat) (v0 : Nat) (v1 : Int32) (v2 : Int32) (v3 : Int32) (w : gW), mX7_turnsMade_l19 F k114 n v0 v1 v2 v3 w = some res → Wx X w 0 0 19 [(0, .inr (.inr (some v0))), (1, .inl v1), (2, .inl v2), (3, .inl v3)] [] := by
  intro n
  induction n with
  | zero => intro v0 v1 v2 v3 w h; cases (show (none : Option (Int32 × gW)) = some res from h)
  | succ n ih =>
    intro v0 v1 v2 v3 w h
    exact aX7_turnsMade_h19 ok hres (F := F) (mX7_turnsMade_l19 F k114 n) k114 ih hk114 v0 v1 v2 v3 w h
set_option maxRecDepth 100000 in
set_option maxHeartbeats 4000000 in
theorem aX7_turnsMade (l : Launch) (G : gG) {F : Nat} {v0 : Nat} {v1 : Int32} {w : gW} {res : Int32 × gW} (h : mX7_turnsMade F v0 v1 w = some res) : gM l yX7_turnsMade cX7_turnsMade 6 (some .int) rmX7_turnsMade G w (gTs [.inr (.inr (some v0)), .inl v1]) (some (.int res.1)) res.2 := by
  refine gM_of (y := yX7_turnsMade) (by decide +kernel) (Nat.le_of_ble_eq_true rfl) ?_
  intro X ok hl hG hres hnm
  subst hl; subst hG
  unfold mX7_turnsMade at h
  show Wx X w 0 0 0 [(0, .inr (.inr (some v0))), (1, .inl v1)] []
  refine Wx.run ok kX7_turnsMade 0 4 (lv' := [(2, .inl (0 : Int32)), (0, .inr (.inr (some v0))), (1, .inl v1)]) (st' := [.inr (.inl (1 : Int64)), .inr (.inr (some v0))]) (pc' := 4) rfl ?_
  refine Wx.put ok kX7_turnsMade 4 rfl lk_RX7_149_1 (gFit_l _) h (fun w4 h => ?_)
  refine Wx.run ok kX7_turnsMade 5 2 (lv' := [(2, .inl (0 : Int32)), (0, .inr (.inr (some v0))), (1, .inl v1)]) (st' := [.inr (.inl (0 : Int64)), .inr (.inr (some v0))]) (pc' := 9) rfl ?_
  refine Wx.put ok kX7_turnsMade 7 rfl lk_RX7_153_1 (gFit_l _) h (fun w9 h => ?_)
  refine Wx.run ok kX7_turnsMade 8 2 (lv' := [(2, .inl (0 : Int32)), (0, .inr (.inr (some v0))), (1, .inl v1)]) (st' := [.inl (1 : Int32), .inr (.inr (some v0))]) (pc' := 14) rfl ?_
  refine Wx.put ok kX7_turnsMade 10 rfl lk_RX7_156_1 (gFit_i _) h (fun w14 h => ?_)
  refine Wx.run ok kX7_turnsMade 11 2 (lv' := [(3, .inl (0 : Int32)), (2, .inl (0 : Int32)), (0, .inr (.inr (some v0))), (1, .inl v1)]) (st' := []) (pc' := 19) rfl ?_
  refine Wx.sub [2, 3, 1, 0] rfl ?_
  refine aX7_turnsMade_l19 ok hres (F := F) _ ?_ F _ _ _ _ _ h
  · intro v0 w h
    refine Wx.run ok kX7_turnsMade 65 1 (lv' := [(0, .inr (.inr (some v0)))]) (st' := [.inr (.inr (some v0))]) (pc' := 115) rfl ?_
    refine Wx.getI ok kX7_turnsMade 66 rfl lk_RX7_156_0 h (fun t115 h => ?_)
    exact Wx.ireturn ok kX7_turnsMade 67 rfl hres h (by decide)
set_option maxRecDepth 100000 in
set_option maxHeartbeats 4000000 in
theorem aX0_firstUnsound_b37 {X : gX} (ok : gOk X cX0_firstUnsound RX0 3 (some .int) rmX0_firstUnsound) {res : Int32 × gW} (hres : gRs X (some (.int res.1)) res.2) {F : Nat} (r : Nat → Int32 → Int32 → gW → Option (Int32 × gW)) (k50 : Nat → Int32 → gW → Option (Int32 × gW)) (hr : ∀ (v0 : Nat) (v1 : Int32) (v2 : Int32) (w : gW), r v0 v1 v2 w = some res → Wx X w 0 0 12 [(0, .inr (.inr (some v0))), (1, .inl v1), (2, .inl v2)] []) (hk50 : ∀ (v0 : Nat) (v1 : Int32) (w : gW), k50 v0 v1 w = some res → Wx X w 0 0 50 [(0, .inr (.inr (some v0))), (1, .inl v1)] []) : ∀ (v0 : Nat) (v1 : Int32) (v2 : Int32) (s0 : Int32) (s1 : Int32) (w : gW), mX0_firstUnsound_b37 F r k50 v0 v1 v2 s0 s1 w = some res → Wx X w 0 0 37 [(0, .inr (.inr (some v0))), (1, .inl v1), (2, .inl v2)] [.inl s1, .inl s0] := by
  intro v0 v1 v2 s0 s1 w h
  unfold mX0_firstUnsound_b37 at h
  refine Wx.icmp_eq ok kX0_firstUnsound 23 (tgt := 44) rfl (by decide) h (fun hc37 h => ?_) (fun hc37 h => ?_)
  · refine Wx.run ok kX0_firstUnsound 26 1 (lv' := [(2, .inl (v2 + (1 : Int32))), (0, .inr (.inr (some v0))), (1, .inl v1)]) (st' := []) (pc' := 47) rfl ?_
    refine Wx.jump ok kX0_firstUnsound 27 (tgt := 12) rfl (by decide) ?_
    refine Wx.sub [1, 2, 0] rfl ?_
    exact hr _ _ _ _ h
  · refine Wx.run ok kX0_firstUnsound 24 1 (lv' := [(0, .inr (.inr (some v0))), (1, .inl v1), (2, .inl v2)]) (st' := [.inl (1000 : Int32)]) (pc' := 43) rfl ?_
    exact Wx.ireturn ok kX0_firstUnsound 25 rfl hres h (by decide)
set_option maxRecDepth 100000 in
set_option maxHeartbeats 4000000 in
theorem aX0_firstUnsound_h12 {X : gX} (ok : gOk X cX0_firstUnsound RX0 3 (some .int) rmX0_firstUnsound) {res : Int32 × gW} (hres : gRs X (some (.int res.1)) res.2) {F : Nat} (r : Nat → Int32 → Int32 → gW → Option (Int32 × gW)) (k50 : Nat → Int32 → gW → Option (Int32 × gW)) (hr : ∀ (v0 : Nat) (v1 : Int32) (v2 : Int32) (w : gW), r v0 v1 v2 w = some res → Wx X w 0 0 12 [(0, .inr (.inr (some v0))), (1, .inl v1), (2, .inl v2)] []) (hk50 : ∀ (v0 : Nat) (v1 : Int32) (w : gW), k50 v0 v1 w = some res → Wx X w 0 0 50 [(0, .inr (.inr (some v0))), (1, .inl v1)] []) : ∀ (v0 : Nat) (v1 : Int32) (v2 : Int32) (w : gW), mX0_firstUnsound_h12 F r k50 v0 v1 v2 w = some res → Wx X w 0 0 12 [(0, .inr (.inr (some v0))), (1, .inl v1), (2, .inl v2)] [] := by
  intro v0 v1 v2 w h
  unfold mX0_firstUnsound_h12 at h
  refine Wx.run ok kX0_firstUnsound 8 2 (lv' := [(0, .inr (.inr (some v0))), (1, .inl v1), (2, .inl v2)]) (st' := [.inr (.inr (some v0)), .inl v2]) (pc' := 14) rfl ?_
  refine Wx.getI ok kX0_firstUnsound 10 rfl lk_RX0_30_0 h (fun t14 h => ?_)
  refine Wx.icmp_ge ok kX0_firstUnsound 11 (tgt := 50) rfl (by decide) h (fun hc17 h => ?_) (fun hc17 h => ?_)
  · refine Wx.sub [0, 1] rfl ?_
    exact hk50 _ _ _ h
  · refine Wx.run ok kX0_firstUnsound 12 4 (lv' := [(0, .inr (.inr (some v0))), (1, .inl v1), (2, .inl v2)]) (st' := [.inl v2, .inl v1, .inl (0 : Int32), .inr (.inr (some v0))]) (pc' := 24) rfl ?_
    obtain ⟨a24, ha24, h⟩ := gob h
    obtain ⟨q24, hq24, h⟩ := gob h
    refine Wx.callV ok kX0_firstUnsound 16 rfl lm_RX0_53 cd_X0_entry ha24 [.inl (0 : Int32), .inl v1, .inl v2] (some (.inl q24.1)) (aX0_entry _ _ hq24) (by decide) rfl (Nat.le_of_ble_eq_true rfl) rfl rfl ?_
    refine Wx.run ok kX0_firstUnsound 17 2 (lv' := [(0, .inr (.inr (some v0))), (1, .inl v1), (2, .inl v2)]) (st' := [.inl v2, .inl v1, .inl q24.1]) (pc' := 29) rfl ?_
    refine Wx.icmp_ne ok kX0_firstUnsound 19 (tgt := 36) rfl (by decide) h (fun hc29 h => ?_) (fun hc29 h => ?_)
    · refine Wx.run ok kX0_firstUnsound 20 1 (lv' := [(0, .inr (.inr (some v0))), (1, .inl v1), (2, .inl v2)]) (st' := [.inl (1 : Int32), .inl q24.1]) (pc' := 33) rfl ?_
      refine Wx.jump ok kX0_firstUnsound 21 (tgt := 37) rfl (by decide) ?_
      exact aX0_firstUnsound_b37 ok hres (F := F) r k50 hr hk50 _ _ _ _ _ _ h
    · refine Wx.run ok kX0_firstUnsound 22 1 (lv' := [(0, .inr (.inr (some v0))), (1, .inl v1), (2, .inl v2)]) (st' := [.inl (0 : Int32), .inl q24.1]) (pc' := 37) rfl ?_
      exact aX0_firstUnsound_b37 ok hres (F := F) r k50 hr hk50 _ _ _ _ _ _ h
set_option maxRecDepth 100000 in
set_option maxHeartbeats 4000000 in
theorem aX0_firstUnsound_l12 {X : gX} (ok : gOk X cX0_firstUnsound RX0 3 (some .int) rmX0_firstUnsound) {res : Int32 × gW} (hres : gRs X (some (.int res.1)) res.2) {F : Nat} (k50 : Nat → Int32 → gW → Option (Int32 × gW)) (hk50 : ∀ (v0 : Nat) (v1 : Int32) (w : gW), k50 v0 v1 w = some res → Wx X w 0 0 50 [(0, .inr (.inr (some v0))), (1, .inl v1)] []) : ∀ (n : Nat) (v0 : Nat) (v1 : Int32) (v2 : Int32) (w : gW), mX0_firstUnsound_l12 F k50 n v0 v1 v2 w = some res → Wx X w 0 0 12 [(0, .inr (.inr (some v0))), (1, .inl v1), (2, .inl v2)] [] := by
  intro n
  induction n with
  | zero => intro v0 v1 v2 w h; cases (show (none : Option (Int32 × gW)) = some res from h)
  | succ n ih =>
    intro v0 v1 v2 w h
    exact aX0_firstUnsound_h12 ok hres (F := F) (mX0_firstUnsound_l12 F k50 n) k50 ih hk50 v0 v1 v2 w h
set_option maxRecDepth 100000 in
set_option maxHeartbeats 4000000 in
theorem aX0_firstUnsound_h2 {X : gX} (ok : gOk X cX0_firstUnsound RX0 3 (some .int) rmX0_firstUnsound) {res : Int32 × gW} (hres : gRs X (some (.int res.1)) res.2) {F : Nat} (r : Nat → Int32 → gW → Option (Int32 × gW)) (k56 : Nat → gW → Option (Int32 × gW)) (hr : ∀ (v0 : Nat) (v1 : Int32) (w : gW), r v0 v1 w = some res → Wx X w 0 0 2 [(0, .inr (.inr (some v0))), (1, .inl v1)] []) (hk56 : ∀ (v0 : Nat) (w : gW), k56 v0 w = some res → Wx X w 0 0 56 [(0, .inr (.inr (some v0)))] []) : ∀ (v0 : Nat) (v1 : Int32) (w : gW), mX0_firstUnsound_h2 F r k56 v0 v1 w = some res → Wx X w 0 0 2 [(0, .inr (.inr (some v0))), (1, .inl v1)] [] := by
  intro v0 v1 w h
  unfold mX0_firstUnsound_h2 at h
  refine Wx.run ok kX0_firstUnsound 2 2 (lv' := [(0, .inr (.inr (some v0))), (1, .inl v1)]) (st' := [.inr (.inr (some v0)), .inl v1]) (pc' := 4) rfl ?_
  refine Wx.getI ok kX0_firstUnsound 4 rfl lk_RX0_30_0 h (fun t4 h => ?_)
  refine Wx.icmp_ge ok kX0_firstUnsound 5 (tgt := 56) rfl (by decide) h (fun hc7 h => ?_) (fun hc7 h => ?_)
  · refine Wx.sub [0] rfl ?_
    exact hk56 _ _ h
  · refine Wx.run ok kX0_firstUnsound 6 2 (lv' := [(2, .inl (0 : Int32)), (0, .inr (.inr (some v0))), (1, .inl v1)]) (st' := []) (pc' := 12) rfl ?_
    refine Wx.sub [1, 2, 0] rfl ?_
    refine aX0_firstUnsound_l12 ok hres (F := F) _ ?_ F _ _ _ _ h
    · intro v0 v1 w h
      refine Wx.run ok kX0_firstUnsound 28 1 (lv' := [(1, .inl (v1 + (1 : Int32))), (0, .inr (.inr (some v0)))]) (st' := []) (pc' := 53) rfl ?_
      refine Wx.jump ok kX0_firstUnsound 29 (tgt := 2) rfl (by decide) ?_
      refine Wx.sub [1, 0] rfl ?_
      exact hr _ _ _ h
set_option maxRecDepth 100000 in
set_option maxHeartbeats 4000000 in
theorem aX0_firstUnsound_l2 {X : gX} (ok : gOk X cX0_firstUnsound RX0 3 (some .int) rmX0_firstUnsound) {res : Int32 × gW} (hres : gRs X (some (.int res.1)) res.2) {F : Nat} (k56 : Nat → gW → Option (Int32 × gW)) (hk56 : ∀ (v0 : Nat) (w : gW), k56 v0 w = some res → Wx X w 0 0 56 [(0, .inr (.inr (some v0)))] []) : ∀ (n : Nat) (v0 : Nat) (v1 : Int32) (w : gW), mX0_firstUnsound_l2 F k56 n v0 v1 w = some res → Wx X w 0 0 2 [(0, .inr (.inr (some v0))), (1, .inl v1)] [] := by
  intro n
  induction n with
  | zero => intro v0 v1 w h; cases (show (none : Option (Int32 × gW)) = some res from h)
  | succ n ih =>
    intro v0 v1 w h
    exact aX0_firstUnsound_h2 ok hres (F := F) (mX0_firstUnsound_l2 F k56 n) k56 ih hk56 v0 v1 w h
set_option maxRecDepth 100000 in
set_option maxHeartbeats 4000000 in
theorem aX0_firstUnsound_h71 {X : gX} (ok : gOk X cX0_firstUnsound RX0 3 (some .int) rmX0_firstUnsound) {res : Int32 × gW} (hres : gRs X (some (.int res.1)) res.2) {F : Nat} (r : Nat → Int32 → Int32 → gW → Option (Int32 × gW)) (k111 : Nat → Int32 → gW → Option (Int32 × gW)) (k91 : Nat → Int32 → Int32 → gW → Option (Int32 × gW)) (hr : ∀ (v0 : Nat) (v1 : Int32) (v2 : Int32) (w : gW), r v0 v1 v2 w = some res → Wx X w 0 0 71 [(0, .inr (.inr (some v0))), (1, .inl v1), (2, .inl v2)] []) (hk111 : ∀ (v0 : Nat) (v1 : Int32) (w : gW), k111 v0 v1 w = some res → Wx X w 0 0 111 [(0, .inr (.inr (some v0))), (1, .inl v1)] []) (hk91 : ∀ (v0 : Nat) (v1 : Int32) (v2 : Int32) (w : gW), k91 v0 v1 v2 w = some res → Wx X w 0 0 91 [(0, .inr (.inr (some v0))), (1, .inl v1), (2, .inl v2)] []) : ∀ (v0 : Nat) (v1 : Int32) (v2 : Int32) (w : gW), mX0_firstUnsound_h71 F r k111 k91 v0 v1 v2 w = some res → Wx X w 0 0 71 [(0, .inr (.inr (some v0))), (1, .inl v1), (2, .inl v2)] [] := by
  intro v0 v1 v2 w h
  unfold mX0_firstUnsound_h71 at h
  refine Wx.run ok kX0_firstUnsound 39 2 (lv' := [(0, .inr (.inr (some v0))), (1, .inl v1), (2, .inl v2)]) (st' := [.inr (.inr (some v0)), .inl v2]) (pc' := 73) rfl ?_
  refine Wx.getR ok kX0_firstUnsound 41 rfl lk_RX0_22_0 h (fun t73 h => ?_)
  refine Wx.getI ok kX0_firstUnsound 42 rfl lk_RX0_40_0 h (fun t76 h => ?_)
  refine Wx.icmp_ge ok kX0_firstUnsound 43 (tgt := 111) rfl (by decide) h (fun hc79 h => ?_) (fun hc79 h => ?_)
  · refine Wx.sub [0, 1] rfl ?_
    exact hk111 _ _ _ h
  · refine Wx.run ok kX0_firstUnsound 44 3 (lv' := [(0, .inr (.inr (some v0))), (1, .inl v1), (2, .inl v2)]) (st' := [.inl v2, .inl v1, .inr (.inr (some v0))]) (pc' := 85) rfl ?_
    obtain ⟨a85, ha85, h⟩ := gob h
    obtain ⟨q85, hq85, h⟩ := gob h
    refine Wx.callV ok kX0_firstUnsound 47 rfl lm_RX0_57 cd_X0_goesWithProduct ha85 [.inl v1, .inl v2] (some (.inl q85.1)) (aX0_goesWithProduct _ _ hq85) (by decide) rfl (Nat.le_of_ble_eq_true rfl) rfl rfl ?_
    refine Wx.if_ne ok kX0_firstUnsound 48 (tgt := 105) rfl (by decide) h (fun hc88 h => ?_) (fun hc88 h => ?_)
    · exact hk91 _ _ _ _ h
    · refine Wx.run ok kX0_firstUnsound 59 1 (lv' := [(2, .inl (v2 + (1 : Int32))), (0, .inr (.inr (some v0))), (1, .inl v1)]) (st' := []) (pc' := 108) rfl ?_
      refine Wx.jump ok kX0_firstUnsound 60 (tgt := 71) rfl (by decide) ?_
      refine Wx.sub [1, 2, 0] rfl ?_
      exact hr _ _ _ _ h
set_option maxRecDepth 100000 in
set_option maxHeartbeats 4000000 in
theorem aX0_firstUnsound_l71 {X : gX} (ok : gOk X cX0_firstUnsound RX0 3 (some .int) rmX0_firstUnsound) {res : Int32 × gW} (hres : gRs X (some (.int res.1)) res.2) {F : Nat} (k111 : Nat → Int32 → gW → Option (Int32 × gW)) (k91 : Nat → Int32 → Int32 → gW → Option (Int32 × gW)) (hk111 : ∀ (v0 : Nat) (v1 : Int32) (w : gW), k111 v0 v1 w = some res → Wx X w 0 0 111 [(0, .inr (.inr (some v0))), (1, .inl v1)] []) (hk91 : ∀ (v0 : Nat) (v1 : Int32) (v2 : Int32) (w : gW), k91 v0 v1 v2 w = some res → Wx X w 0 0 91 [(0, .inr (.inr (some v0))), (1, .inl v1), (2, .inl v2)] []) : ∀ (n : Nat) (v0 : Nat) (v1 : Int32) (v2 : Int32) (w : gW), mX0_firstUnsound_l71 F k111 k91 n v0 v1 v2 w = some res → Wx X w 0 0 71 [(0, .inr (.inr (some v0))), (1, .inl v1), (2, .inl v2)] [] := by
  intro n
  induction n with
  | zero => intro v0 v1 v2 w h; cases (show (none : Option (Int32 × gW)) = some res from h)
  | succ n ih =>
    intro v0 v1 v2 w h
    exact aX0_firstUnsound_h71 ok hres (F := F) (mX0_firstUnsound_l71 F k111 k91 n) k111 k91 ih hk111 hk91 v0 v1 v2 w h
set_option maxRecDepth 100000 in
set_option maxHeartbeats 4000000 in
theorem aX0_firstUnsound_h58 {X : gX} (ok : gOk X cX0_firstUnsound RX0 3 (some .int) rmX0_firstUnsound) {res : Int32 × gW} (hres : gRs X (some (.int res.1)) res.2) {F : Nat} (r : Nat → Int32 → gW → Option (Int32 × gW)) (k91 : Nat → Int32 → Int32 → gW → Option (Int32 × gW)) (hr : ∀ (v0 : Nat) (v1 : Int32) (w : gW), r v0 v1 w = some res → Wx X w 0 0 58 [(0, .inr (.inr (some v0))), (1, .inl v1)] []) (hk91 : ∀ (v0 : Nat) (v1 : Int32) (v2 : Int32) (w : gW), k91 v0 v1 v2 w = some res → Wx X w 0 0 91 [(0, .inr (.inr (some v0))), (1, .inl v1), (2, .inl v2)] []) : ∀ (v0 : Nat) (v1 : Int32) (w : gW), mX0_firstUnsound_h58 F r k91 v0 v1 w = some res → Wx X w 0 0 58 [(0, .inr (.inr (some v0))), (1, .inl v1)] [] := by
  intro v0 v1 w h
  unfold mX0_firstUnsound_h58 at h
  refine Wx.run ok kX0_firstUnsound 32 2 (lv' := [(0, .inr (.inr (some v0))), (1, .inl v1)]) (st' := [.inr (.inr (some v0)), .inl v1]) (pc' := 60) rfl ?_
  refine Wx.getR ok kX0_firstUnsound 34 rfl lk_RX0_22_0 h (fun t60 h => ?_)
  refine Wx.getI ok kX0_firstUnsound 35 rfl lk_RX0_40_0 h (fun t63 h => ?_)
  refine Wx.icmp_ge ok kX0_firstUnsound 36 (tgt := 117) rfl (by decide) h (fun hc66 h => ?_) (fun hc66 h => ?_)
  · refine Wx.run ok kX0_firstUnsound 63 1 (lv' := [(0, .inr (.inr (some v0))), (1, .inl v1)]) (st' := [.inl (0 : Int32)]) (pc' := 118) rfl ?_
    exact Wx.ireturn ok kX0_firstUnsound 64 rfl hres h (by decide)
  · refine Wx.run ok kX0_firstUnsound 37 2 (lv' := [(2, .inl (0 : Int32)), (0, .inr (.inr (some v0))), (1, .inl v1)]) (st' := []) (pc' := 71) rfl ?_
    refine Wx.sub [1, 2, 0] rfl ?_
    refine aX0_firstUnsound_l71 ok hres (F := F) _ _ ?_ ?_ F _ _ _ _ h
    · intro v0 v1 w h
      refine Wx.run ok kX0_firstUnsound 61 1 (lv' := [(1, .inl (v1 + (1 : Int32))), (0, .inr (.inr (some v0)))]) (st' := []) (pc' := 114) rfl ?_
      refine Wx.jump ok kX0_firstUnsound 62 (tgt := 58) rfl (by decide) ?_
      refine Wx.sub [1, 0] rfl ?_
      exact hr _ _ _ h
    · intro v0 v1 v2 w h
      exact hk91 _ _ _ _ h
set_option maxRecDepth 100000 in
set_option maxHeartbeats 4000000 in
theorem aX0_firstUnsound_l58 {X : gX} (ok : gOk X cX0_firstUnsound RX0 3 (some .int) rmX0_firstUnsound) {res : Int32 × gW} (hres : gRs X (some (.int res.1)) res.2) {F : Nat} (k91 : Nat → Int32 → Int32 → gW → Option (Int32 × gW)) (hk91 : ∀ (v0 : Nat) (v1 : Int32) (v2 : Int32) (w : gW), k91 v0 v1 v2 w = some res → Wx X w 0 0 91 [(0, .inr (.inr (some v0))), (1, .inl v1), (2, .inl v2)] []) : ∀ (n : Nat) (v0 : Nat) (v1 : Int32) (w : gW), mX0_firstUnsound_l58 F k91 n v0 v1 w = some res → Wx X w 0 0 58 [(0, .inr (.inr (some v0))), (1, .inl v1)] [] := by
  intro n
  induction n with
  | zero => intro v0 v1 w h; cases (show (none : Option (Int32 × gW)) = some res from h)
  | succ n ih =>
    intro v0 v1 w h
    exact aX0_firstUnsound_h58 ok hres (F := F) (mX0_firstUnsound_l58 F k91 n) k91 ih hk91 v0 v1 w h
set_option maxRecDepth 100000 in
set_option maxHeartbeats 4000000 in
theorem aX0_firstUnsound (l : Launch) (G : gG) {F : Nat} {v0 : Nat} {w : gW} {res : Int32 × gW} (h : mX0_firstUnsound F v0 w = some res) : gM l yX0_firstUnsound cX0_firstUnsound 3 (some .int) rmX0_firstUnsound G w (gTs [.inr (.inr (some v0))]) (some (.int res.1)) res.2 := by
  refine gM_of (y := yX0_firstUnsound) (by decide +kernel) (Nat.le_of_ble_eq_true rfl) ?_
  intro X ok hl hG hres hnm
  subst hl; subst hG
  unfold mX0_firstUnsound at h
  show Wx X w 0 0 0 [(0, .inr (.inr (some v0)))] []
  refine Wx.run ok kX0_firstUnsound 0 2 (lv' := [(1, .inl (0 : Int32)), (0, .inr (.inr (some v0)))]) (st' := []) (pc' := 2) rfl ?_
  refine Wx.sub [1, 0] rfl ?_
  refine aX0_firstUnsound_l2 ok hres (F := F) _ ?_ F _ _ _ h
  · intro v0 w h
    refine Wx.run ok kX0_firstUnsound 30 2 (lv' := [(1, .inl (0 : Int32)), (0, .inr (.inr (some v0)))]) (st' := []) (pc' := 58) rfl ?_
    refine Wx.sub [1, 0] rfl ?_
    refine aX0_firstUnsound_l58 ok hres (F := F) _ ?_ F _ _ _ h
    · intro v0 v1 v2 w h
      refine Wx.run ok kX0_firstUnsound 49 2 (lv' := [(0, .inr (.inr (some v0))), (1, .inl v1), (2, .inl v2)]) (st' := [.inr (.inr (some v0)), .inl (1 : Int32)]) (pc' := 93) rfl ?_
      refine Wx.getR ok kX0_firstUnsound 51 rfl lk_RX0_22_0 h (fun t93 h => ?_)
      refine Wx.getI ok kX0_firstUnsound 52 rfl lk_RX0_40_0 h (fun t96 h => ?_)
      refine Wx.run ok kX0_firstUnsound 53 5 (lv' := [(0, .inr (.inr (some v0))), (1, .inl v1), (2, .inl v2)]) (st' := [.inl (((1 : Int32) + (t96 * v1)) + v2)]) (pc' := 104) rfl ?_
      exact Wx.ireturn ok kX0_firstUnsound 58 rfl hres h (by decide)
set_option maxRecDepth 100000 in
set_option maxHeartbeats 4000000 in
theorem aX0_init (l : Launch) (G : gG) {F : Nat} {v0 : Nat} {w : gW} {res : gW} (h : mX0_init F v0 w = some res) : gM l yX0_init cX0_init 1 none rmX0_init G w (gTs [.inr (.inr (some v0))]) none res := by
  refine gM_of (y := yX0_init) (by decide +kernel) (Nat.le_of_ble_eq_true rfl) ?_
  intro X ok hl hG hres hnm
  subst hl; subst hG
  unfold mX0_init at h
  show Wx X w 0 0 0 [(0, .inr (.inr (some v0)))] []
  refine Wx.run ok kX0_init 0 1 (lv' := [(0, .inr (.inr (some v0)))]) (st' := [.inr (.inr (some v0))]) (pc' := 1) rfl ?_
  refine Wx.objInit ok kX0_init 1 rfl ⟨gw_379, gw_18, gw_19⟩ ⟨Nat.le_of_ble_eq_true rfl, Nat.le_of_ble_eq_true rfl⟩ ?_
  refine Wx.run ok kX0_init 2 2 (lv' := [(0, .inr (.inr (some v0)))]) (st' := [.inl (32 : Int32), .inr (.inr (some v0))]) (pc' := 7) rfl ?_
  refine Wx.newI ok kX0_init 4 rfl gw_45 h (by decide) (by decide) (fun w7 h => ?_)
  refine Wx.putF ok kX0_init 5 rfl lk_RX0_9_2 hnm (gFit_a _ _) h (fun w9 h => ?_)
  refine Wx.run ok kX0_init 6 1 (lv' := [(0, .inr (.inr (some v0)))]) (st' := [.inr (.inr (some v0))]) (pc' := 13) rfl ?_
  refine Wx.new ok kX0_init 7 rfl nw_RX0_15 (by decide) ?_
  refine Wx.run ok kX0_init 8 1 (lv' := [(0, .inr (.inr (some v0)))]) (st' := [.inr (.inr (some w9.2)), .inr (.inr (some w9.2)), .inr (.inr (some v0))]) (pc' := 17) rfl ?_
  obtain ⟨q17, hq17, h⟩ := gob h
  refine Wx.callIN ok kX0_init 9 rfl lm_RX0_17 cd_X5_init [] (aX5_init _ _ hq17) (by decide) rfl (Nat.le_of_ble_eq_true rfl) rfl ?_
  refine Wx.putF ok kX0_init 10 rfl lk_RX0_18_2 hnm (gFit_o _ _) h (fun w20 h => ?_)
  exact Wx.vreturn ok kX0_init 11 rfl hres h (by decide)
set_option maxRecDepth 100000 in
set_option maxHeartbeats 4000000 in
theorem aX0_plus (l : Launch) (G : gG) {F : Nat} {v0 : Nat} {v1 : Int32} {v2 : Int32} {w : gW} {res : Int32 × gW} (h : mX0_plus F v0 v1 v2 w = some res) : gM l yX0_plus cX0_plus 3 (some .int) rmX0_plus G w (gTs [.inr (.inr (some v0)), .inl v1, .inl v2]) (some (.int res.1)) res.2 := by
  refine gM_of (y := yX0_plus) (by decide +kernel) (Nat.le_of_ble_eq_true rfl) ?_
  intro X ok hl hG hres hnm
  subst hl; subst hG
  unfold mX0_plus at h
  show Wx X w 0 0 0 [(0, .inr (.inr (some v0))), (1, .inl v1), (2, .inl v2)] []
  refine Wx.run ok kX0_plus 0 3 (lv' := [(0, .inr (.inr (some v0))), (1, .inl v1), (2, .inl v2)]) (st' := [.inr (.inr (some v0)), .inl v2, .inl v1]) (pc' := 3) rfl ?_
  refine Wx.getI ok kX0_plus 3 rfl lk_RX0_26_0 h (fun t3 h => ?_)
  refine Wx.run ok kX0_plus 4 1 (lv' := [(0, .inr (.inr (some v0))), (1, .inl v1), (2, .inl v2)]) (st' := [.inr (.inr (some v0)), .inl t3, .inl v2, .inl v1]) (pc' := 7) rfl ?_
  refine Wx.getI ok kX0_plus 5 rfl lk_RX0_30_0 h (fun t7 h => ?_)
  obtain ⟨q10, hq10, h⟩ := gob h
  refine Wx.callSN ok kX0_plus 6 rfl lm_RX0_67 cd_X6_addDigits [.inl v1, .inl v2, .inl t3, .inl t7] (some (.inl q10.1)) (aX6_addDigits _ _ hq10) (by decide) rfl (Nat.le_of_ble_eq_true rfl) rfl rfl ?_
  exact Wx.ireturn ok kX0_plus 7 rfl hres h (by decide)
set_option maxRecDepth 100000 in
set_option maxHeartbeats 4000000 in
theorem aX1_add_h2 {X : gX} (ok : gOk X cX1_add RX1 5 none rmX1_add) {res : gW} (hres : gRs X none res) {F : Nat} (r : Nat → (Option Nat) → Int32 → gW → Option (gW)) (k29 : Nat → (Option Nat) → gW → Option (gW)) (hr : ∀ (v0 : Nat) (v1 : Option Nat) (v2 : Int32) (w : gW), r v0 v1 v2 w = some res → Wx X w 0 0 2 [(0, .inr (.inr (some v0))), (1, .inr (.inr v1)), (2, .inl v2)] []) (hk29 : ∀ (v0 : Nat) (v1 : Option Nat) (w : gW), k29 v0 v1 w = some res → Wx X w 0 0 29 [(0, .inr (.inr (some v0))), (1, .inr (.inr v1))] []) : ∀ (v0 : Nat) (v1 : Option Nat) (v2 : Int32) (w : gW), mX1_add_h2 F r k29 v0 v1 v2 w = some res → Wx X w 0 0 2 [(0, .inr (.inr (some v0))), (1, .inr (.inr v1)), (2, .inl v2)] [] := by
  intro v0 v1 v2 w h
  unfold mX1_add_h2 at h
  refine Wx.run ok kX1_add 2 2 (lv' := [(0, .inr (.inr (some v0))), (1, .inr (.inr v1)), (2, .inl v2)]) (st' := [.inr (.inr (some v0)), .inl v2]) (pc' := 4) rfl ?_
  refine Wx.getI ok kX1_add 4 rfl lk_RX1_27_0 h (fun t4 h => ?_)
  refine Wx.icmp_ge ok kX1_add 5 (tgt := 29) rfl (by decide) h (fun hc7 h => ?_) (fun hc7 h => ?_)
  · refine Wx.sub [0, 1] rfl ?_
    exact hk29 _ _ _ h
  · refine Wx.run ok kX1_add 6 4 (lv' := [(0, .inr (.inr (some v0))), (1, .inr (.inr v1)), (2, .inl v2)]) (st' := [.inl v2, .inr (.inr v1), .inl v2, .inr (.inr v1)]) (pc' := 14) rfl ?_
    refine Wx.iald ok kX1_add 10 rfl h (fun t14 h => ?_)
    refine Wx.run ok kX1_add 11 1 (lv' := [(0, .inr (.inr (some v0))), (1, .inr (.inr v1)), (2, .inl v2)]) (st' := [.inr (.inr (some v0)), .inl t14, .inl v2, .inr (.inr v1)]) (pc' := 16) rfl ?_
    refine Wx.getI ok kX1_add 12 rfl lk_RX1_31_0 h (fun t16 h => ?_)
    obtain ⟨q19, hq19, h⟩ := gob h
    refine Wx.callSN ok kX1_add 13 rfl lm_RX1_50 cd_X6_mod [.inl t14, .inl t16] (some (.inl q19.1)) (aX6_mod _ _ hq19) (by decide) rfl (Nat.le_of_ble_eq_true rfl) rfl rfl ?_
    refine Wx.iast ok kX1_add 14 rfl h (fun w22 h => ?_)
    refine Wx.run ok kX1_add 15 1 (lv' := [(2, .inl (v2 + (1 : Int32))), (0, .inr (.inr (some v0))), (1, .inr (.inr v1))]) (st' := []) (pc' := 26) rfl ?_
    refine Wx.jump ok kX1_add 16 (tgt := 2) rfl (by decide) ?_
    refine Wx.sub [1, 2, 0] rfl ?_
    exact hr _ _ _ _ h
set_option maxRecDepth 100000 in
set_option maxHeartbeats 4000000 in
theorem aX1_add_l2 {X : gX} (ok : gOk X cX1_add RX1 5 none rmX1_add) {res : gW} (hres : gRs X none res) {F : Nat} (k29 : Nat → (Option Nat) → gW → Option (gW)) (hk29 : ∀ (v0 : Nat) (v1 : Option Nat) (w : gW), k29 v0 v1 w = some res → Wx X w 0 0 29 [(0, .inr (.inr (some v0))), (1, .inr (.inr v1))] []) : ∀ (n : Nat) (v0 : Nat) (v1 : Option Nat) (v2 : Int32) (w : gW), mX1_add_l2 F k29 n v0 v1 v2 w = some res → Wx X w 0 0 2 [(0, .inr (.inr (some v0))), (1, .inr (.inr v1)), (2, .inl v2)] [] := by
  intro n
  induction n with
  | zero => intro v0 v1 v2 w h; cases (show (none : Option (gW)) = some res from h)
  | succ n ih =>
    intro v0 v1 v2 w h
    exact aX1_add_h2 ok hres (F := F) (mX1_add_l2 F k29 n) k29 ih hk29 v0 v1 v2 w h
set_option maxRecDepth 100000 in
set_option maxHeartbeats 4000000 in
theorem aX1_add_h68 {X : gX} (ok : gOk X cX1_add RX1 5 none rmX1_add) {res : gW} (hres : gRs X none res) {F : Nat} (r : Nat → (Option Nat) → Int32 → Int32 → Int32 → gW → Option (gW)) (k111 : Nat → Int32 → gW → Option (gW)) (hr : ∀ (v0 : Nat) (v1 : Option Nat) (v2 : Int32) (v3 : Int32) (v4 : Int32) (w : gW), r v0 v1 v2 v3 v4 w = some res → Wx X w 0 0 68 [(0, .inr (.inr (some v0))), (1, .inr (.inr v1)), (2, .inl v2), (3, .inl v3), (4, .inl v4)] []) (hk111 : ∀ (v0 : Nat) (v2 : Int32) (w : gW), k111 v0 v2 w = some res → Wx X w 0 0 111 [(0, .inr (.inr (some v0))), (2, .inl v2)] []) : ∀ (v0 : Nat) (v1 : Option Nat) (v2 : Int32) (v3 : Int32) (v4 : Int32) (w : gW), mX1_add_h68 F r k111 v0 v1 v2 v3 v4 w = some res → Wx X w 0 0 68 [(0, .inr (.inr (some v0))), (1, .inr (.inr v1)), (2, .inl v2), (3, .inl v3), (4, .inl v4)] [] := by
  intro v0 v1 v2 v3 v4 w h
  unfold mX1_add_h68 at h
  refine Wx.run ok kX1_add 41 2 (lv' := [(0, .inr (.inr (some v0))), (1, .inr (.inr v1)), (2, .inl v2), (3, .inl v3), (4, .inl v4)]) (st' := [.inr (.inr (some v0)), .inl v4]) (pc' := 71) rfl ?_
  refine Wx.getI ok kX1_add 43 rfl lk_RX1_27_0 h (fun t71 h => ?_)
  refine Wx.icmp_ge ok kX1_add 44 (tgt := 111) rfl (by decide) h (fun hc74 h => ?_) (fun hc74 h => ?_)
  · refine Wx.sub [0, 2] rfl ?_
    exact hk111 _ _ _ h
  · refine Wx.run ok kX1_add 45 1 (lv' := [(0, .inr (.inr (some v0))), (1, .inr (.inr v1)), (2, .inl v2), (3, .inl v3), (4, .inl v4)]) (st' := [.inr (.inr (some v0))]) (pc' := 78) rfl ?_
    refine Wx.getR ok kX1_add 46 rfl lk_RX1_21_0 h (fun t78 h => ?_)
    refine Wx.run ok kX1_add 47 1 (lv' := [(0, .inr (.inr (some v0))), (1, .inr (.inr v1)), (2, .inl v2), (3, .inl v3), (4, .inl v4)]) (st' := [.inr (.inr (some v0)), .inr (.inr t78)]) (pc' := 82) rfl ?_
    refine Wx.getI ok kX1_add 48 rfl lk_RX1_34_0 h (fun t82 h => ?_)
    refine Wx.run ok kX1_add 49 6 (lv' := [(0, .inr (.inr (some v0))), (1, .inr (.inr v1)), (2, .inl v2), (3, .inl v3), (4, .inl v4)]) (st' := [.inl v4, .inr (.inr v1), .inl ((t82 * (98 : Int32)) + v4), .inr (.inr t78)]) (pc' := 94) rfl ?_
    refine Wx.iald ok kX1_add 55 rfl h (fun t94 h => ?_)
    refine Wx.run ok kX1_add 56 3 (lv' := [(0, .inr (.inr (some v0))), (1, .inr (.inr v1)), (2, .inl v2), (3, .inl v3), (4, .inl v4)]) (st' := [.inr (.inr (some v0)), .inl (t94 * v3), .inl ((t82 * (98 : Int32)) + v4), .inr (.inr t78)]) (pc' := 98) rfl ?_
    refine Wx.getI ok kX1_add 59 rfl lk_RX1_31_0 h (fun t98 h => ?_)
    obtain ⟨q101, hq101, h⟩ := gob h
    refine Wx.callSN ok kX1_add 60 rfl lm_RX1_50 cd_X6_mod [.inl (t94 * v3), .inl t98] (some (.inl q101.1)) (aX6_mod _ _ hq101) (by decide) rfl (Nat.le_of_ble_eq_true rfl) rfl rfl ?_
    refine Wx.iast ok kX1_add 61 rfl h (fun w104 h => ?_)
    refine Wx.run ok kX1_add 62 1 (lv' := [(4, .inl (v4 + (1 : Int32))), (0, .inr (.inr (some v0))), (1, .inr (.inr v1)), (2, .inl v2), (3, .inl v3)]) (st' := []) (pc' := 108) rfl ?_
    refine Wx.jump ok kX1_add 63 (tgt := 68) rfl (by decide) ?_
    refine Wx.sub [1, 2, 3, 4, 0] rfl ?_
    exact hr _ _ _ _ _ _ h
set_option maxRecDepth 100000 in
set_option maxHeartbeats 4000000 in
theorem aX1_add_l68 {X : gX} (ok : gOk X cX1_add RX1 5 none rmX1_add) {res : gW} (hres : gRs X none res) {F : Nat} (k111 : Nat → Int32 → gW → Option (gW)) (hk111 : ∀ (v0 : Nat) (v2 : Int32) (w : gW), k111 v0 v2 w = some res → Wx X w 0 0 111 [(0, .inr (.inr (some v0))), (2, .inl v2)] []) : ∀ (n : Nat) (v0 : Nat) (v1 : Option Nat) (v2 : Int32) (v3 : Int32) (v4 : Int32) (w : gW), mX1_add_l68 F k111 n v0 v1 v2 v3 v4 w = some res → Wx X w 0 0 68 [(0, .inr (.inr (some v0))), (1, .inr (.inr v1)), (2, .inl v2), (3, .inl v3), (4, .inl v4)] [] := by
  intro n
  induction n with
  | zero => intro v0 v1 v2 v3 v4 w h; cases (show (none : Option (gW)) = some res from h)
  | succ n ih =>
    intro v0 v1 v2 v3 v4 w h
    exact aX1_add_h68 ok hres (F := F) (mX1_add_l68 F k111 n) k111 ih hk111 v0 v1 v2 v3 v4 w h
set_option maxRecDepth 100000 in
set_option maxHeartbeats 4000000 in
theorem aX1_add (l : Launch) (G : gG) {F : Nat} {v0 : Nat} {v1 : Option Nat} {w : gW} {res : gW} (h : mX1_add F v0 v1 w = some res) : gM l yX1_add cX1_add 5 none rmX1_add G w (gTs [.inr (.inr (some v0)), .inr (.inr v1)]) none res := by
  refine gM_of (y := yX1_add) (by decide +kernel) (Nat.le_of_ble_eq_true rfl) ?_
  intro X ok hl hG hres hnm
  subst hl; subst hG
  unfold mX1_add at h
  show Wx X w 0 0 0 [(0, .inr (.inr (some v0))), (1, .inr (.inr v1))] []
  refine Wx.run ok kX1_add 0 2 (lv' := [(2, .inl (0 : Int32)), (0, .inr (.inr (some v0))), (1, .inr (.inr v1))]) (st' := []) (pc' := 2) rfl ?_
  refine Wx.sub [1, 2, 0] rfl ?_
  refine aX1_add_l2 ok hres (F := F) _ ?_ F _ _ _ _ h
  · intro v0 v1 w h
    refine Wx.run ok kX1_add 17 2 (lv' := [(0, .inr (.inr (some v0))), (1, .inr (.inr v1))]) (st' := [.inr (.inr v1), .inr (.inr (some v0))]) (pc' := 31) rfl ?_
    obtain ⟨a31, ha31, h⟩ := gob h
    obtain ⟨q31, hq31, h⟩ := gob h
    refine Wx.callV ok kX1_add 19 rfl lm_RX1_53 cd_X1_reduce ha31 [.inr (.inr v1)] none (aX1_reduce _ _ hq31) (by decide) rfl (Nat.le_of_ble_eq_true rfl) rfl rfl ?_
    refine Wx.run ok kX1_add 20 2 (lv' := [(0, .inr (.inr (some v0))), (1, .inr (.inr v1))]) (st' := [.inr (.inr v1), .inr (.inr (some v0))]) (pc' := 36) rfl ?_
    obtain ⟨a36, ha36, h⟩ := gob h
    obtain ⟨q36, hq36, h⟩ := gob h
    refine Wx.callV ok kX1_add 22 rfl lm_RX1_57 cd_X1_firstNotZero ha36 [.inr (.inr v1)] (some (.inl q36.1)) (aX1_firstNotZero _ _ hq36) (by decide) rfl (Nat.le_of_ble_eq_true rfl) rfl rfl ?_
    refine Wx.run ok kX1_add 23 2 (lv' := [(2, .inl q36.1), (0, .inr (.inr (some v0))), (1, .inr (.inr v1))]) (st' := [.inl q36.1]) (pc' := 41) rfl ?_
    refine Wx.if_lt ok kX1_add 25 (tgt := 56) rfl (by decide) h (fun hc41 h => ?_) (fun hc41 h => ?_)
    · exact Wx.vreturn ok kX1_add 32 rfl hres h (by decide)
    · refine Wx.run ok kX1_add 26 1 (lv' := [(2, .inl q36.1), (0, .inr (.inr (some v0))), (1, .inr (.inr v1))]) (st' := [.inr (.inr (some v0))]) (pc' := 45) rfl ?_
      refine Wx.getI ok kX1_add 27 rfl lk_RX1_34_0 h (fun t45 h => ?_)
      refine Wx.run ok kX1_add 28 1 (lv' := [(2, .inl q36.1), (0, .inr (.inr (some v0))), (1, .inr (.inr v1))]) (st' := [.inr (.inr (some v0)), .inl t45]) (pc' := 49) rfl ?_
      refine Wx.getR ok kX1_add 29 rfl lk_RX1_24_0 h (fun t49 h => ?_)
      refine Wx.alen ok kX1_add 30 rfl h (fun t52 h => ?_)
      refine Wx.icmp_lt ok kX1_add 31 (tgt := 57) rfl (by decide) h (fun hc53 h => ?_) (fun hc53 h => ?_)
      · refine Wx.run ok kX1_add 33 3 (lv' := [(2, .inl q36.1), (0, .inr (.inr (some v0))), (1, .inr (.inr v1))]) (st' := [.inl q36.1, .inr (.inr v1), .inr (.inr (some v0))]) (pc' := 60) rfl ?_
        refine Wx.iald ok kX1_add 36 rfl h (fun t60 h => ?_)
        obtain ⟨a61, ha61, h⟩ := gob h
        obtain ⟨q61, hq61, h⟩ := gob h
        refine Wx.callV ok kX1_add 37 rfl lm_RX1_61 cd_X1_inverseOf ha61 [.inl t60] (some (.inl q61.1)) (aX1_inverseOf _ _ hq61) (by decide) rfl (Nat.le_of_ble_eq_true rfl) rfl rfl ?_
        refine Wx.run ok kX1_add 38 3 (lv' := [(4, .inl (0 : Int32)), (3, .inl q61.1), (2, .inl q36.1), (0, .inr (.inr (some v0))), (1, .inr (.inr v1))]) (st' := []) (pc' := 68) rfl ?_
        refine Wx.sub [3, 4, 2, 1, 0] rfl ?_
        refine aX1_add_l68 ok hres (F := F) _ ?_ F _ _ _ _ _ _ h
        · intro v0 v2 w h
          refine Wx.run ok kX1_add 64 1 (lv' := [(0, .inr (.inr (some v0))), (2, .inl v2)]) (st' := [.inr (.inr (some v0))]) (pc' := 112) rfl ?_
          refine Wx.getR ok kX1_add 65 rfl lk_RX1_24_0 h (fun t112 h => ?_)
          refine Wx.run ok kX1_add 66 1 (lv' := [(0, .inr (.inr (some v0))), (2, .inl v2)]) (st' := [.inr (.inr (some v0)), .inr (.inr t112)]) (pc' := 116) rfl ?_
          refine Wx.getI ok kX1_add 67 rfl lk_RX1_34_0 h (fun t116 h => ?_)
          refine Wx.run ok kX1_add 68 1 (lv' := [(0, .inr (.inr (some v0))), (2, .inl v2)]) (st' := [.inl v2, .inl t116, .inr (.inr t112)]) (pc' := 120) rfl ?_
          refine Wx.iast ok kX1_add 69 rfl h (fun w120 h => ?_)
          refine Wx.run ok kX1_add 70 1 (lv' := [(0, .inr (.inr (some v0))), (2, .inl v2)]) (st' := [.inr (.inr (some v0))]) (pc' := 122) rfl ?_
          refine Wx.getR ok kX1_add 71 rfl lk_RX1_9_0 h (fun t122 h => ?_)
          refine Wx.run ok kX1_add 72 2 (lv' := [(0, .inr (.inr (some v0))), (2, .inl v2)]) (st' := [.inr (.inr (some v0)), .inl v2, .inr (.inr t122)]) (pc' := 127) rfl ?_
          refine Wx.getI ok kX1_add 74 rfl lk_RX1_34_0 h (fun t127 h => ?_)
          refine Wx.iast ok kX1_add 75 rfl h (fun w130 h => ?_)
          refine Wx.run ok kX1_add 76 2 (lv' := [(0, .inr (.inr (some v0))), (2, .inl v2)]) (st' := [.inr (.inr (some v0)), .inr (.inr (some v0))]) (pc' := 133) rfl ?_
          refine Wx.getI ok kX1_add 78 rfl lk_RX1_34_0 h (fun t133 h => ?_)
          refine Wx.run ok kX1_add 79 2 (lv' := [(0, .inr (.inr (some v0))), (2, .inl v2)]) (st' := [.inl (t133 + (1 : Int32)), .inr (.inr (some v0))]) (pc' := 138) rfl ?_
          refine Wx.put ok kX1_add 81 rfl lk_RX1_34_1 (gFit_i _) h (fun w138 h => ?_)
          exact Wx.vreturn ok kX1_add 82 rfl hres h (by decide)
      · exact Wx.vreturn ok kX1_add 32 rfl hres h (by decide)
set_option maxRecDepth 100000 in
set_option maxHeartbeats 4000000 in
theorem aX2_exponent_h2 {X : gX} (ok : gOk X cX2_exponent RX2 2 (some .int) rmX2_exponent) {res : Int32 × gW} (hres : gRs X (some (.int res.1)) res.2) {F : Nat} (r : Nat → Int32 → gW → Option (Int32 × gW)) (k26 : Nat → gW → Option (Int32 × gW)) (hr : ∀ (v0 : Nat) (v1 : Int32) (w : gW), r v0 v1 w = some res → Wx X w 0 0 2 [(0, .inr (.inr (some v0))), (1, .inl v1)] []) (hk26 : ∀ (v0 : Nat) (w : gW), k26 v0 w = some res → Wx X w 0 0 26 [(0, .inr (.inr (some v0)))] []) : ∀ (v0 : Nat) (v1 : Int32) (w : gW), mX2_exponent_h2 F r k26 v0 v1 w = some res → Wx X w 0 0 2 [(0, .inr (.inr (some v0))), (1, .inl v1)] [] := by
  intro v0 v1 w h
  unfold mX2_exponent_h2 at h
  refine Wx.run ok kX2_exponent 2 2 (lv' := [(0, .inr (.inr (some v0))), (1, .inl v1)]) (st' := [.inr (.inr (some v0)), .inl v1]) (pc' := 4) rfl ?_
  refine Wx.getI ok kX2_exponent 4 rfl lk_RX2_30_0 h (fun t4 h => ?_)
  refine Wx.icmp_ge ok kX2_exponent 5 (tgt := 26) rfl (by decide) h (fun hc7 h => ?_) (fun hc7 h => ?_)
  · refine Wx.sub [0] rfl ?_
    exact hk26 _ _ h
  · refine Wx.run ok kX2_exponent 6 2 (lv' := [(0, .inr (.inr (some v0))), (1, .inl v1)]) (st' := [.inl v1, .inr (.inr (some v0))]) (pc' := 12) rfl ?_
    obtain ⟨a12, ha12, h⟩ := gob h
    obtain ⟨q12, hq12, h⟩ := gob h
    refine Wx.callV ok kX2_exponent 8 rfl lm_RX2_120 cd_X2_bringsAllToZero ha12 [.inl v1] (some (.inl q12.1)) (aX2_bringsAllToZero _ _ hq12) (by decide) rfl (Nat.le_of_ble_eq_true rfl) rfl rfl ?_
    refine Wx.if_eq ok kX2_exponent 9 (tgt := 20) rfl (by decide) h (fun hc15 h => ?_) (fun hc15 h => ?_)
    · refine Wx.run ok kX2_exponent 12 1 (lv' := [(1, .inl (v1 + (1 : Int32))), (0, .inr (.inr (some v0)))]) (st' := []) (pc' := 23) rfl ?_
      refine Wx.jump ok kX2_exponent 13 (tgt := 2) rfl (by decide) ?_
      refine Wx.sub [1, 0] rfl ?_
      exact hr _ _ _ h
    · refine Wx.run ok kX2_exponent 10 1 (lv' := [(0, .inr (.inr (some v0))), (1, .inl v1)]) (st' := [.inl v1]) (pc' := 19) rfl ?_
      exact Wx.ireturn ok kX2_exponent 11 rfl hres h (by decide)
set_option maxRecDepth 100000 in
set_option maxHeartbeats 4000000 in
theorem aX2_exponent_l2 {X : gX} (ok : gOk X cX2_exponent RX2 2 (some .int) rmX2_exponent) {res : Int32 × gW} (hres : gRs X (some (.int res.1)) res.2) {F : Nat} (k26 : Nat → gW → Option (Int32 × gW)) (hk26 : ∀ (v0 : Nat) (w : gW), k26 v0 w = some res → Wx X w 0 0 26 [(0, .inr (.inr (some v0)))] []) : ∀ (n : Nat) (v0 : Nat) (v1 : Int32) (w : gW), mX2_exponent_l2 F k26 n v0 v1 w = some res → Wx X w 0 0 2 [(0, .inr (.inr (some v0))), (1, .inl v1)] [] := by
  intro n
  induction n with
  | zero => intro v0 v1 w h; cases (show (none : Option (Int32 × gW)) = some res from h)
  | succ n ih =>
    intro v0 v1 w h
    exact aX2_exponent_h2 ok hres (F := F) (mX2_exponent_l2 F k26 n) k26 ih hk26 v0 v1 w h
set_option maxRecDepth 100000 in
set_option maxHeartbeats 4000000 in
theorem aX2_exponent (l : Launch) (G : gG) {F : Nat} {v0 : Nat} {w : gW} {res : Int32 × gW} (h : mX2_exponent F v0 w = some res) : gM l yX2_exponent cX2_exponent 2 (some .int) rmX2_exponent G w (gTs [.inr (.inr (some v0))]) (some (.int res.1)) res.2 := by
  refine gM_of (y := yX2_exponent) (by decide +kernel) (Nat.le_of_ble_eq_true rfl) ?_
  intro X ok hl hG hres hnm
  subst hl; subst hG
  unfold mX2_exponent at h
  show Wx X w 0 0 0 [(0, .inr (.inr (some v0)))] []
  refine Wx.run ok kX2_exponent 0 2 (lv' := [(1, .inl (1 : Int32)), (0, .inr (.inr (some v0)))]) (st' := []) (pc' := 2) rfl ?_
  refine Wx.sub [1, 0] rfl ?_
  refine aX2_exponent_l2 ok hres (F := F) _ ?_ F _ _ _ h
  · intro v0 w h
    refine Wx.run ok kX2_exponent 14 1 (lv' := [(0, .inr (.inr (some v0)))]) (st' := [.inr (.inr (some v0))]) (pc' := 27) rfl ?_
    refine Wx.getI ok kX2_exponent 15 rfl lk_RX2_30_0 h (fun t27 h => ?_)
    exact Wx.ireturn ok kX2_exponent 16 rfl hres h (by decide)
set_option maxRecDepth 100000 in
set_option maxHeartbeats 4000000 in
theorem aX2_readFrom_b72 {X : gX} (ok : gOk X cX2_readFrom RX2 6 (some .int) rmX2_readFrom) {res : Int32 × gW} (hres : gRs X (some (.int res.1)) res.2) {F : Nat} (r : Nat → (Option Nat) → Int32 → Int32 → Int32 → gW → Option (Int32 × gW)) (k87 : Nat → (Option Nat) → Int32 → Int32 → gW → Option (Int32 × gW)) (k65 : Int32 → Int32 → Int32 → gW → Option (Int32 × gW)) (hr : ∀ (v0 : Nat) (v1 : Option Nat) (v2 : Int32) (v3 : Int32) (v4 : Int32) (w : gW), r v0 v1 v2 v3 v4 w = some res → Wx X w 0 0 15 [(0, .inr (.inr (some v0))), (1, .inr (.inr v1)), (2, .inl v2), (3, .inl v3), (4, .inl v4)] []) (hk87 : ∀ (v0 : Nat) (v1 : Option Nat) (v2 : Int32) (v3 : Int32) (w : gW), k87 v0 v1 v2 v3 w = some res → Wx X w 0 0 87 [(0, .inr (.inr (some v0))), (1, .inr (.inr v1)), (2, .inl v2), (3, .inl v3)] []) (hk65 : ∀ (v2 : Int32) (v3 : Int32) (v4 : Int32) (w : gW), k65 v2 v3 v4 w = some res → Wx X w 0 0 65 [(2, .inl v2), (3, .inl v3), (4, .inl v4)] []) : ∀ (v0 : Nat) (v1 : Option Nat) (v2 : Int32) (v3 : Int32) (v4 : Int32) (v5 : Int32) (w : gW), mX2_readFrom_b72 F r k87 k65 v0 v1 v2 v3 v4 v5 w = some res → Wx X w 0 0 72 [(0, .inr (.inr (some v0))), (1, .inr (.inr v1)), (2, .inl v2), (3, .inl v3), (4, .inl v4), (5, .inl v5)] [] := by
  intro v0 v1 v2 v3 v4 v5 w h
  unfold mX2_readFrom_b72 at h
  refine Wx.run ok kX2_readFrom 42 4 (lv' := [(0, .inr (.inr (some v0))), (1, .inr (.inr v1)), (2, .inl v2), (3, .inl v3), (4, .inl v4), (5, .inl v5)]) (st' := [.inl v5, .inl v4, .inl v3, .inr (.inr (some v0))]) (pc' := 78) rfl ?_
  obtain ⟨a78, ha78, h⟩ := gob h
  obtain ⟨q78, hq78, h⟩ := gob h
  refine Wx.callV ok kX2_readFrom 46 rfl lm_RX2_38 cd_X2_set ha78 [.inl v3, .inl v4, .inl v5] none (aX2_set _ _ hq78) (by decide) rfl (Nat.le_of_ble_eq_true rfl) rfl rfl ?_
  refine Wx.run ok kX2_readFrom 47 1 (lv' := [(4, .inl (v4 + (1 : Int32))), (0, .inr (.inr (some v0))), (1, .inr (.inr v1)), (2, .inl v2), (3, .inl v3), (5, .inl v5)]) (st' := []) (pc' := 84) rfl ?_
  refine Wx.jump ok kX2_readFrom 48 (tgt := 15) rfl (by decide) ?_
  refine Wx.sub [1, 2, 3, 4, 0] rfl ?_
  exact hr _ _ _ _ _ _ h
set_option maxRecDepth 100000 in
set_option maxHeartbeats 4000000 in
theorem aX2_readFrom_b54 {X : gX} (ok : gOk X cX2_readFrom RX2 6 (some .int) rmX2_readFrom) {res : Int32 × gW} (hres : gRs X (some (.int res.1)) res.2) {F : Nat} (r : Nat → (Option Nat) → Int32 → Int32 → Int32 → gW → Option (Int32 × gW)) (k87 : Nat → (Option Nat) → Int32 → Int32 → gW → Option (Int32 × gW)) (k65 : Int32 → Int32 → Int32 → gW → Option (Int32 × gW)) (hr : ∀ (v0 : Nat) (v1 : Option Nat) (v2 : Int32) (v3 : Int32) (v4 : Int32) (w : gW), r v0 v1 v2 v3 v4 w = some res → Wx X w 0 0 15 [(0, .inr (.inr (some v0))), (1, .inr (.inr v1)), (2, .inl v2), (3, .inl v3), (4, .inl v4)] []) (hk87 : ∀ (v0 : Nat) (v1 : Option Nat) (v2 : Int32) (v3 : Int32) (w : gW), k87 v0 v1 v2 v3 w = some res → Wx X w 0 0 87 [(0, .inr (.inr (some v0))), (1, .inr (.inr v1)), (2, .inl v2), (3, .inl v3)] []) (hk65 : ∀ (v2 : Int32) (v3 : Int32) (v4 : Int32) (w : gW), k65 v2 v3 v4 w = some res → Wx X w 0 0 65 [(2, .inl v2), (3, .inl v3), (4, .inl v4)] []) : ∀ (v0 : Nat) (v1 : Option Nat) (v2 : Int32) (v3 : Int32) (v4 : Int32) (v5 : Int32) (w : gW), mX2_readFrom_b54 F r k87 k65 v0 v1 v2 v3 v4 v5 w = some res → Wx X w 0 0 54 [(0, .inr (.inr (some v0))), (1, .inr (.inr v1)), (2, .inl v2), (3, .inl v3), (4, .inl v4), (5, .inl v5)] [] := by
  intro v0 v1 v2 v3 v4 v5 w h
  unfold mX2_readFrom_b54 at h
  refine Wx.run ok kX2_readFrom 31 1 (lv' := [(0, .inr (.inr (some v0))), (1, .inr (.inr v1)), (2, .inl v2), (3, .inl v3), (4, .inl v4), (5, .inl v5)]) (st' := [.inl v4]) (pc' := 56) rfl ?_
  refine Wx.if_ne ok kX2_readFrom 32 (tgt := 72) rfl (by decide) h (fun hc56 h => ?_) (fun hc56 h => ?_)
  · refine Wx.run ok kX2_readFrom 33 2 (lv' := [(0, .inr (.inr (some v0))), (1, .inr (.inr v1)), (2, .inl v2), (3, .inl v3), (4, .inl v4), (5, .inl v5)]) (st' := [.inl v3, .inl v5]) (pc' := 62) rfl ?_
    refine Wx.icmp_eq ok kX2_readFrom 35 (tgt := 72) rfl (by decide) h (fun hc62 h => ?_) (fun hc62 h => ?_)
    · exact aX2_readFrom_b72 ok hres (F := F) r k87 k65 hr hk87 hk65 _ _ _ _ _ _ _ h
    · refine Wx.sub [2, 3, 4] rfl ?_
      exact hk65 _ _ _ _ h
  · exact aX2_readFrom_b72 ok hres (F := F) r k87 k65 hr hk87 hk65 _ _ _ _ _ _ _ h
set_option maxRecDepth 100000 in
set_option maxHeartbeats 4000000 in
theorem aX2_readFrom_h15 {X : gX} (ok : gOk X cX2_readFrom RX2 6 (some .int) rmX2_readFrom) {res : Int32 × gW} (hres : gRs X (some (.int res.1)) res.2) {F : Nat} (r : Nat → (Option Nat) → Int32 → Int32 → Int32 → gW → Option (Int32 × gW)) (k87 : Nat → (Option Nat) → Int32 → Int32 → gW → Option (Int32 × gW)) (k65 : Int32 → Int32 → Int32 → gW → Option (Int32 × gW)) (hr : ∀ (v0 : Nat) (v1 : Option Nat) (v2 : Int32) (v3 : Int32) (v4 : Int32) (w : gW), r v0 v1 v2 v3 v4 w = some res → Wx X w 0 0 15 [(0, .inr (.inr (some v0))), (1, .inr (.inr v1)), (2, .inl v2), (3, .inl v3), (4, .inl v4)] []) (hk87 : ∀ (v0 : Nat) (v1 : Option Nat) (v2 : Int32) (v3 : Int32) (w : gW), k87 v0 v1 v2 v3 w = some res → Wx X w 0 0 87 [(0, .inr (.inr (some v0))), (1, .inr (.inr v1)), (2, .inl v2), (3, .inl v3)] []) (hk65 : ∀ (v2 : Int32) (v3 : Int32) (v4 : Int32) (w : gW), k65 v2 v3 v4 w = some res → Wx X w 0 0 65 [(2, .inl v2), (3, .inl v3), (4, .inl v4)] []) : ∀ (v0 : Nat) (v1 : Option Nat) (v2 : Int32) (v3 : Int32) (v4 : Int32) (w : gW), mX2_readFrom_h15 F r k87 k65 v0 v1 v2 v3 v4 w = some res → Wx X w 0 0 15 [(0, .inr (.inr (some v0))), (1, .inr (.inr v1)), (2, .inl v2), (3, .inl v3), (4, .inl v4)] [] := by
  intro v0 v1 v2 v3 v4 w h
  unfold mX2_readFrom_h15 at h
  refine Wx.run ok kX2_readFrom 10 2 (lv' := [(0, .inr (.inr (some v0))), (1, .inr (.inr v1)), (2, .inl v2), (3, .inl v3), (4, .inl v4)]) (st' := [.inl v2, .inl v4]) (pc' := 18) rfl ?_
  refine Wx.icmp_ge ok kX2_readFrom 12 (tgt := 87) rfl (by decide) h (fun hc18 h => ?_) (fun hc18 h => ?_)
  · refine Wx.sub [0, 1, 2, 3] rfl ?_
    exact hk87 _ _ _ _ _ h
  · refine Wx.run ok kX2_readFrom 13 1 (lv' := [(0, .inr (.inr (some v0))), (1, .inr (.inr v1)), (2, .inl v2), (3, .inl v3), (4, .inl v4)]) (st' := [.inr (.inr v1)]) (pc' := 22) rfl ?_
    refine Wx.getR ok kX2_readFrom 14 rfl lk_RX2_73_0 h (fun t22 h => ?_)
    refine Wx.run ok kX2_readFrom 15 5 (lv' := [(0, .inr (.inr (some v0))), (1, .inr (.inr v1)), (2, .inl v2), (3, .inl v3), (4, .inl v4)]) (st' := [.inl ((v2 * v3) + v4), .inr (.inr t22)]) (pc' := 31) rfl ?_
    refine Wx.iald ok kX2_readFrom 20 rfl h (fun t31 h => ?_)
    refine Wx.run ok kX2_readFrom 21 3 (lv' := [(5, .inl t31), (0, .inr (.inr (some v0))), (1, .inr (.inr v1)), (2, .inl v2), (3, .inl v3), (4, .inl v4)]) (st' := [.inl t31, .inr (.inr (some v0))]) (pc' := 37) rfl ?_
    obtain ⟨a37, ha37, h⟩ := gob h
    obtain ⟨q37, hq37, h⟩ := gob h
    refine Wx.callV ok kX2_readFrom 24 rfl lm_RX2_78 cd_X2_has ha37 [.inl t31] (some (.inl q37.1)) (aX2_has _ _ hq37) (by decide) rfl (Nat.le_of_ble_eq_true rfl) rfl rfl ?_
    refine Wx.if_eq ok kX2_readFrom 25 (tgt := 65) rfl (by decide) h (fun hc40 h => ?_) (fun hc40 h => ?_)
    · refine Wx.sub [3, 4, 5] rfl ?_
      exact hk65 _ _ _ _ h
    · refine Wx.run ok kX2_readFrom 26 1 (lv' := [(5, .inl t31), (0, .inr (.inr (some v0))), (1, .inr (.inr v1)), (2, .inl v2), (3, .inl v3), (4, .inl v4)]) (st' := [.inl v3]) (pc' := 44) rfl ?_
      refine Wx.if_ne ok kX2_readFrom 27 (tgt := 54) rfl (by decide) h (fun hc44 h => ?_) (fun hc44 h => ?_)
      · refine Wx.run ok kX2_readFrom 28 2 (lv' := [(5, .inl t31), (0, .inr (.inr (some v0))), (1, .inr (.inr v1)), (2, .inl v2), (3, .inl v3), (4, .inl v4)]) (st' := [.inl v4, .inl t31]) (pc' := 51) rfl ?_
        refine Wx.icmp_ne ok kX2_readFrom 30 (tgt := 65) rfl (by decide) h (fun hc51 h => ?_) (fun hc51 h => ?_)
        · refine Wx.sub [1, 2, 3, 4, 5, 0] rfl ?_
          exact aX2_readFrom_b54 ok hres (F := F) r k87 k65 hr hk87 hk65 _ _ _ _ _ _ _ h
        · refine Wx.sub [3, 4, 5] rfl ?_
          exact hk65 _ _ _ _ h
      · refine Wx.sub [1, 2, 3, 4, 5, 0] rfl ?_
        exact aX2_readFrom_b54 ok hres (F := F) r k87 k65 hr hk87 hk65 _ _ _ _ _ _ _ h
set_option maxRecDepth 100000 in
set_option maxHeartbeats 4000000 in
theorem aX2_readFrom_l15 {X : gX} (ok : gOk X cX2_readFrom RX2 6 (some .int) rmX2_readFrom) {res : Int32 × gW} (hres : gRs X (some (.int res.1)) res.2) {F : Nat} (k87 : Nat → (Option Nat) → Int32 → Int32 → gW → Option (Int32 × gW)) (k65 : Int32 → Int32 → Int32 → gW → Option (Int32 × gW)) (hk87 : ∀ (v0 : Nat) (v1 : Option Nat) (v2 : Int32) (v3 : Int32) (w : gW), k87 v0 v1 v2 v3 w = some res → Wx X w 0 0 87 [(0, .inr (.inr (some v0))), (1, .inr (.inr v1)), (2, .inl v2), (3, .inl v3)] []) (hk65 : ∀ (v2 : Int32) (v3 : Int32) (v4 : Int32) (w : gW), k65 v2 v3 v4 w = some res → Wx X w 0 0 65 [(2, .inl v2), (3, .inl v3), (4, .inl v4)] []) : ∀ (n : Nat) (v0 : Nat) (v1 : Option Nat) (v2 : Int32) (v3 : Int32) (v4 : Int32) (w : gW), mX2_readFrom_l15 F k87 k65 n v0 v1 v2 v3 v4 w = some res → Wx X w 0 0 15 [(0, .inr (.inr (some v0))), (1, .inr (.inr v1)), (2, .inl v2), (3, .inl v3), (4, .inl v4)] [] := by
  intro n
  induction n with
  | zero => intro v0 v1 v2 v3 v4 w h; cases (show (none : Option (Int32 × gW)) = some res from h)
  | succ n ih =>
    intro v0 v1 v2 v3 v4 w h
    exact aX2_readFrom_h15 ok hres (F := F) (mX2_readFrom_l15 F k87 k65 n) k87 k65 ih hk87 hk65 v0 v1 v2 v3 v4 w h
set_option maxRecDepth 100000 in
set_option maxHeartbeats 4000000 in
theorem aX2_readFrom_h7 {X : gX} (ok : gOk X cX2_readFrom RX2 6 (some .int) rmX2_readFrom) {res : Int32 × gW} (hres : gRs X (some (.int res.1)) res.2) {F : Nat} (r : Nat → (Option Nat) → Int32 → Int32 → gW → Option (Int32 × gW)) (k93 : Nat → gW → Option (Int32 × gW)) (k65 : Int32 → Int32 → Int32 → gW → Option (Int32 × gW)) (hr : ∀ (v0 : Nat) (v1 : Option Nat) (v2 : Int32) (v3 : Int32) (w : gW), r v0 v1 v2 v3 w = some res → Wx X w 0 0 7 [(0, .inr (.inr (some v0))), (1, .inr (.inr v1)), (2, .inl v2), (3, .inl v3)] []) (hk93 : ∀ (v0 : Nat) (w : gW), k93 v0 w = some res → Wx X w 0 0 93 [(0, .inr (.inr (some v0)))] []) (hk65 : ∀ (v2 : Int32) (v3 : Int32) (v4 : Int32) (w : gW), k65 v2 v3 v4 w = some res → Wx X w 0 0 65 [(2, .inl v2), (3, .inl v3), (4, .inl v4)] []) : ∀ (v0 : Nat) (v1 : Option Nat) (v2 : Int32) (v3 : Int32) (w : gW), mX2_readFrom_h7 F r k93 k65 v0 v1 v2 v3 w = some res → Wx X w 0 0 7 [(0, .inr (.inr (some v0))), (1, .inr (.inr v1)), (2, .inl v2), (3, .inl v3)] [] := by
  intro v0 v1 v2 v3 w h
  unfold mX2_readFrom_h7 at h
  refine Wx.run ok kX2_readFrom 5 2 (lv' := [(0, .inr (.inr (some v0))), (1, .inr (.inr v1)), (2, .inl v2), (3, .inl v3)]) (st' := [.inl v2, .inl v3]) (pc' := 9) rfl ?_
  refine Wx.icmp_ge ok kX2_readFrom 7 (tgt := 93) rfl (by decide) h (fun hc9 h => ?_) (fun hc9 h => ?_)
  · refine Wx.sub [0] rfl ?_
    exact hk93 _ _ h
  · refine Wx.run ok kX2_readFrom 8 2 (lv' := [(4, .inl (0 : Int32)), (0, .inr (.inr (some v0))), (1, .inr (.inr v1)), (2, .inl v2), (3, .inl v3)]) (st' := []) (pc' := 15) rfl ?_
    refine Wx.sub [1, 2, 3, 4, 0] rfl ?_
    refine aX2_readFrom_l15 ok hres (F := F) _ _ ?_ ?_ F _ _ _ _ _ _ h
    · intro v0 v1 v2 v3 w h
      refine Wx.run ok kX2_readFrom 49 1 (lv' := [(3, .inl (v3 + (1 : Int32))), (0, .inr (.inr (some v0))), (1, .inr (.inr v1)), (2, .inl v2)]) (st' := []) (pc' := 90) rfl ?_
      refine Wx.jump ok kX2_readFrom 50 (tgt := 7) rfl (by decide) ?_
      refine Wx.sub [1, 2, 3, 0] rfl ?_
      exact hr _ _ _ _ _ h
    · intro v2 v3 v4 w h
      exact hk65 _ _ _ _ h
set_option maxRecDepth 100000 in
set_option maxHeartbeats 4000000 in
theorem aX2_readFrom_l7 {X : gX} (ok : gOk X cX2_readFrom RX2 6 (some .int) rmX2_readFrom) {res : Int32 × gW} (hres : gRs X (some (.int res.1)) res.2) {F : Nat} (k93 : Nat → gW → Option (Int32 × gW)) (k65 : Int32 → Int32 → Int32 → gW → Option (Int32 × gW)) (hk93 : ∀ (v0 : Nat) (w : gW), k93 v0 w = some res → Wx X w 0 0 93 [(0, .inr (.inr (some v0)))] []) (hk65 : ∀ (v2 : Int32) (v3 : Int32) (v4 : Int32) (w : gW), k65 v2 v3 v4 w = some res → Wx X w 0 0 65 [(2, .inl v2), (3, .inl v3), (4, .inl v4)] []) : ∀ (n : Nat) (v0 : Nat) (v1 : Option Nat) (v2 : Int32) (v3 : Int32) (w : gW), mX2_readFrom_l7 F k93 k65 n v0 v1 v2 v3 w = some res → Wx X w 0 0 7 [(0, .inr (.inr (some v0))), (1, .inr (.inr v1)), (2, .inl v2), (3, .inl v3)] [] := by
  intro n
  induction n with
  | zero => intro v0 v1 v2 v3 w h; cases (show (none : Option (Int32 × gW)) = some res from h)
  | succ n ih =>
    intro v0 v1 v2 v3 w h
    exact aX2_readFrom_h7 ok hres (F := F) (mX2_readFrom_l7 F k93 k65 n) k93 k65 ih hk93 hk65 v0 v1 v2 v3 w h
set_option maxRecDepth 100000 in
set_option maxHeartbeats 4000000 in
theorem aX2_readFrom_b65 {X : gX} (ok : gOk X cX2_readFrom RX2 6 (some .int) rmX2_readFrom) {res : Int32 × gW} (hres : gRs X (some (.int res.1)) res.2) {F : Nat} : ∀ (v2 : Int32) (v3 : Int32) (v4 : Int32) (w : gW), mX2_readFrom_b65 F v2 v3 v4 w = some res → Wx X w 0 0 65 [(2, .inl v2), (3, .inl v3), (4, .inl v4)] [] := by
  intro v2 v3 v4 w h
  unfold mX2_readFrom_b65 at h
  refine Wx.run ok kX2_readFrom 36 5 (lv' := [(2, .inl v2), (3, .inl v3), (4, .inl v4)]) (st' := [.inl ((v2 * v3) + v4)]) (pc' := 71) rfl ?_
  exact Wx.ireturn ok kX2_readFrom 41 rfl hres h (by decide)
set_option maxRecDepth 100000 in
set_option maxHeartbeats 4000000 in
theorem aX2_readFrom (l : Launch) (G : gG) {F : Nat} {v0 : Nat} {v1 : Option Nat} {v2 : Int32} {w : gW} {res : Int32 × gW} (h : mX2_readFrom F v0 v1 v2 w = some res) : gM l yX2_readFrom cX2_readFrom 6 (some .int) rmX2_readFrom G w (gTs [.inr (.inr (some v0)), .inr (.inr v1), .inl v2]) (some (.int res.1)) res.2 := by
  refine gM_of (y := yX2_readFrom) (by decide +kernel) (Nat.le_of_ble_eq_true rfl) ?_
  intro X ok hl hG hres hnm
  subst hl; subst hG
  unfold mX2_readFrom at h
  show Wx X w 0 0 0 [(0, .inr (.inr (some v0))), (1, .inr (.inr v1)), (2, .inl v2)] []
  refine Wx.run ok kX2_readFrom 0 2 (lv' := [(0, .inr (.inr (some v0))), (1, .inr (.inr v1)), (2, .inl v2)]) (st' := [.inl v2, .inr (.inr (some v0))]) (pc' := 2) rfl ?_
  refine Wx.put ok kX2_readFrom 2 rfl lk_RX2_30_1 (gFit_i _) h (fun w2 h => ?_)
  refine Wx.run ok kX2_readFrom 3 2 (lv' := [(3, .inl (0 : Int32)), (0, .inr (.inr (some v0))), (1, .inr (.inr v1)), (2, .inl v2)]) (st' := []) (pc' := 7) rfl ?_
  refine Wx.sub [1, 2, 3, 0] rfl ?_
  refine aX2_readFrom_l7 ok hres (F := F) _ _ ?_ ?_ F _ _ _ _ _ h
  · intro v0 w h
    refine Wx.run ok kX2_readFrom 51 1 (lv' := [(0, .inr (.inr (some v0)))]) (st' := [.inr (.inr (some v0))]) (pc' := 94) rfl ?_
    obtain ⟨a94, ha94, h⟩ := gob h
    obtain ⟨q94, hq94, h⟩ := gob h
    refine Wx.callV ok kX2_readFrom 52 rfl lm_RX2_82 cd_X2_firstUnlike ha94 [] (some (.inl q94.1)) (aX2_firstUnlike _ _ hq94) (by decide) rfl (Nat.le_of_ble_eq_true rfl) rfl rfl ?_
    refine Wx.run ok kX2_readFrom 53 2 (lv' := [(3, .inl q94.1), (0, .inr (.inr (some v0)))]) (st' := [.inl q94.1]) (pc' := 99) rfl ?_
    refine Wx.if_lt ok kX2_readFrom 55 (tgt := 108) rfl (by decide) h (fun hc99 h => ?_) (fun hc99 h => ?_)
    · refine Wx.run ok kX2_readFrom 60 1 (lv' := [(3, .inl q94.1), (0, .inr (.inr (some v0)))]) (st' := [.inr (.inr (some v0))]) (pc' := 109) rfl ?_
      obtain ⟨a109, ha109, h⟩ := gob h
      obtain ⟨q109, hq109, h⟩ := gob h
      refine Wx.callV ok kX2_readFrom 61 rfl lm_RX2_86 cd_X2_firstWithoutInverse ha109 [] (some (.inl q109.1)) (aX2_firstWithoutInverse _ _ hq109) (by decide) rfl (Nat.le_of_ble_eq_true rfl) rfl rfl ?_
      refine Wx.run ok kX2_readFrom 62 2 (lv' := [(3, .inl q109.1), (0, .inr (.inr (some v0)))]) (st' := [.inl q109.1]) (pc' := 114) rfl ?_
      refine Wx.if_lt ok kX2_readFrom 64 (tgt := 125) rfl (by decide) h (fun hc114 h => ?_) (fun hc114 h => ?_)
      · refine Wx.run ok kX2_readFrom 69 1 (lv' := [(3, .inl q109.1), (0, .inr (.inr (some v0)))]) (st' := [.inl (-1 : Int32)]) (pc' := 126) rfl ?_
        exact Wx.ireturn ok kX2_readFrom 70 rfl hres h (by decide)
      · refine Wx.run ok kX2_readFrom 65 3 (lv' := [(3, .inl q109.1), (0, .inr (.inr (some v0)))]) (st' := [.inl ((3000 : Int32) + q109.1)]) (pc' := 122) rfl ?_
        refine Wx.jump ok kX2_readFrom 68 (tgt := 126) rfl (by decide) ?_
        exact Wx.ireturn ok kX2_readFrom 70 rfl hres h (by decide)
    · refine Wx.run ok kX2_readFrom 56 3 (lv' := [(3, .inl q94.1), (0, .inr (.inr (some v0)))]) (st' := [.inl ((1000 : Int32) + q94.1)]) (pc' := 107) rfl ?_
      exact Wx.ireturn ok kX2_readFrom 59 rfl hres h (by decide)
  · intro v2 v3 v4 w h
    exact aX2_readFrom_b65 ok hres (F := F) _ _ _ _ h
set_option maxRecDepth 100000 in
set_option maxHeartbeats 4000000 in
theorem aX5_classRead_h36 {X : gX} (ok : gOk X cX5_classRead RX5 5 (some .int) rmX5_classRead) {res : Int32 × gW} (hres : gRs X (some (.int res.1)) res.2) {F : Nat} (r : Nat → (Option Nat) → Int32 → Int32 → gW → Option (Int32 × gW)) (k69 : Nat → Int32 → gW → Option (Int32 × gW)) (hr : ∀ (v0 : Nat) (v1 : Option Nat) (v3 : Int32) (v4 : Int32) (w : gW), r v0 v1 v3 v4 w = some res → Wx X w 0 0 36 [(0, .inr (.inr (some v0))), (1, .inr (.inr v1)), (3, .inl v3), (4, .inl v4)] []) (hk69 : ∀ (v0 : Nat) (v3 : Int32) (w : gW), k69 v0 v3 w = some res → Wx X w 0 0 69 [(0, .inr (.inr (some v0))), (3, .inl v3)] []) : ∀ (v0 : Nat) (v1 : Option Nat) (v3 : Int32) (v4 : Int32) (w : gW), mX5_classRead_h36 F r k69 v0 v1 v3 v4 w = some res → Wx X w 0 0 36 [(0, .inr (.inr (some v0))), (1, .inr (.inr v1)), (3, .inl v3), (4, .inl v4)] [] := by
  intro v0 v1 v3 v4 w h
  unfold mX5_classRead_h36 at h
  refine Wx.run ok kX5_classRead 20 1 (lv' := [(0, .inr (.inr (some v0))), (1, .inr (.inr v1)), (3, .inl v3), (4, .inl v4)]) (st' := [.inl v4]) (pc' := 38) rfl ?_
  refine Wx.if_lt ok kX5_classRead 21 (tgt := 69) rfl (by decide) h (fun hc38 h => ?_) (fun hc38 h => ?_)
  · refine Wx.sub [0, 2] rfl ?_
    exact hk69 _ _ _ h
  · refine Wx.run ok kX5_classRead 22 2 (lv' := [(0, .inr (.inr (some v0))), (1, .inr (.inr v1)), (3, .inl v3), (4, .inl v4)]) (st' := [.inr (.inr v1), .inl v3]) (pc' := 43) rfl ?_
    refine Wx.getI ok kX5_classRead 24 rfl lk_RX5_45_0 h (fun t43 h => ?_)
    refine Wx.run ok kX5_classRead 25 2 (lv' := [(0, .inr (.inr (some v0))), (1, .inr (.inr v1)), (3, .inl v3), (4, .inl v4)]) (st' := [.inr (.inr (some v0)), .inl (v3 * t43)]) (pc' := 48) rfl ?_
    refine Wx.getR ok kX5_classRead 27 rfl lk_RX5_9_0 h (fun t48 h => ?_)
    refine Wx.run ok kX5_classRead 28 1 (lv' := [(0, .inr (.inr (some v0))), (1, .inr (.inr v1)), (3, .inl v3), (4, .inl v4)]) (st' := [.inr (.inr (some v0)), .inr (.inr t48), .inl (v3 * t43)]) (pc' := 52) rfl ?_
    refine Wx.getR ok kX5_classRead 29 rfl lk_RX5_24_0 h (fun t52 h => ?_)
    refine Wx.run ok kX5_classRead 30 1 (lv' := [(0, .inr (.inr (some v0))), (1, .inr (.inr v1)), (3, .inl v3), (4, .inl v4)]) (st' := [.inl v4, .inr (.inr t52), .inr (.inr t48), .inl (v3 * t43)]) (pc' := 57) rfl ?_
    obtain ⟨a57, ha57, h⟩ := gob h
    obtain ⟨q57, hq57, h⟩ := gob h
    refine Wx.callV ok kX5_classRead 31 rfl lm_RX5_90 cd_X1_leadOf ha57 [.inl v4] (some (.inl q57.1)) (aX1_leadOf _ _ hq57) (by decide) rfl (Nat.le_of_ble_eq_true rfl) rfl rfl ?_
    refine Wx.iald ok kX5_classRead 32 rfl h (fun t60 h => ?_)
    refine Wx.run ok kX5_classRead 33 3 (lv' := [(4, .inl (v4 + (-1 : Int32))), (3, .inl ((v3 * t43) + t60)), (0, .inr (.inr (some v0))), (1, .inr (.inr v1))]) (st' := []) (pc' := 66) rfl ?_
    refine Wx.jump ok kX5_classRead 36 (tgt := 36) rfl (by decide) ?_
    refine Wx.sub [2, 3, 1, 0] rfl ?_
    exact hr _ _ _ _ _ h
set_option maxRecDepth 100000 in
set_option maxHeartbeats 4000000 in
theorem aX5_classRead_l36 {X : gX} (ok : gOk X cX5_classRead RX5 5 (some .int) rmX5_classRead) {res : Int32 × gW} (hres : gRs X (some (.int res.1)) res.2) {F : Nat} (k69 : Nat → Int32 → gW → Option (Int32 × gW)) (hk69 : ∀ (v0 : Nat) (v3 : Int32) (w : gW), k69 v0 v3 w = some res → Wx X w 0 0 69 [(0, .inr (.inr (some v0))), (3, .inl v3)] []) : ∀ (n : Nat) (v0 : Nat) (v1 : Option Nat) (v3 : Int32) (v4 : Int32) (w : gW), mX5_classRead_l36 F k69 n v0 v1 v3 v4 w = some res → Wx X w 0 0 36 [(0, .inr (.inr (some v0))), (1, .inr (.inr v1)), (3, .inl v3), (4, .inl v4)] [] := by
  intro n
  induction n with
  | zero => intro v0 v1 v3 v4 w h; cases (show (none : Option (Int32 × gW)) = some res from h)
  | succ n ih =>
    intro v0 v1 v3 v4 w h
    exact aX5_classRead_h36 ok hres (F := F) (mX5_classRead_l36 F k69 n) k69 ih hk69 v0 v1 v3 v4 w h
set_option maxRecDepth 100000 in
set_option maxHeartbeats 4000000 in
theorem aX5_classRead (l : Launch) (G : gG) {F : Nat} {v0 : Nat} {v1 : Option Nat} {v2 : Option Nat} {w : gW} {res : Int32 × gW} (h : mX5_classRead F v0 v1 v2 w = some res) : gM l yX5_classRead cX5_classRead 5 (some .int) rmX5_classRead G w (gTs [.inr (.inr (some v0)), .inr (.inr v1), .inr (.inr v2)]) (some (.int res.1)) res.2 := by
  refine gM_of (y := yX5_classRead) (by decide +kernel) (Nat.le_of_ble_eq_true rfl) ?_
  intro X ok hl hG hres hnm
  subst hl; subst hG
  unfold mX5_classRead at h
  show Wx X w 0 0 0 [(0, .inr (.inr (some v0))), (1, .inr (.inr v1)), (2, .inr (.inr v2))] []
  refine Wx.run ok kX5_classRead 0 3 (lv' := [(0, .inr (.inr (some v0))), (1, .inr (.inr v1)), (2, .inr (.inr v2))]) (st' := [.inr (.inr v2), .inr (.inr v1), .inr (.inr (some v0))]) (pc' := 3) rfl ?_
  obtain ⟨a3, ha3, h⟩ := gob h
  obtain ⟨q3, hq3, h⟩ := gob h
  refine Wx.callV ok kX5_classRead 3 rfl lm_RX5_134 cd_X5_readPair ha3 [.inr (.inr v1), .inr (.inr v2)] (some (.inl q3.1)) (aX5_readPair _ _ hq3) (by decide) rfl (Nat.le_of_ble_eq_true rfl) rfl rfl ?_
  refine Wx.if_ne ok kX5_classRead 4 (tgt := 12) rfl (by decide) h (fun hc6 h => ?_) (fun hc6 h => ?_)
  · refine Wx.run ok kX5_classRead 5 1 (lv' := [(0, .inr (.inr (some v0))), (1, .inr (.inr v1)), (2, .inr (.inr v2))]) (st' := [.inl (-4 : Int32)]) (pc' := 11) rfl ?_
    exact Wx.ireturn ok kX5_classRead 6 rfl hres h (by decide)
  · refine Wx.run ok kX5_classRead 7 1 (lv' := [(0, .inr (.inr (some v0))), (1, .inr (.inr v1)), (2, .inr (.inr v2))]) (st' := [.inr (.inr (some v0))]) (pc' := 13) rfl ?_
    refine Wx.getR ok kX5_classRead 8 rfl lk_RX5_20_0 h (fun t13 h => ?_)
    refine Wx.run ok kX5_classRead 9 1 (lv' := [(0, .inr (.inr (some v0))), (1, .inr (.inr v1)), (2, .inr (.inr v2))]) (st' := [.inr (.inr (some v0)), .inr (.inr t13)]) (pc' := 17) rfl ?_
    refine Wx.getR ok kX5_classRead 10 rfl lk_RX5_9_0 h (fun t17 h => ?_)
    obtain ⟨a20, ha20, h⟩ := gob h
    obtain ⟨q20, hq20, h⟩ := gob h
    refine Wx.callV ok kX5_classRead 11 rfl lm_RX5_138 cd_X1_reduce ha20 [.inr (.inr t17)] none (aX1_reduce _ _ hq20) (by decide) rfl (Nat.le_of_ble_eq_true rfl) rfl rfl ?_
    refine Wx.run ok kX5_classRead 12 3 (lv' := [(3, .inl (0 : Int32)), (0, .inr (.inr (some v0))), (1, .inr (.inr v1)), (2, .inr (.inr v2))]) (st' := [.inr (.inr (some v0))]) (pc' := 26) rfl ?_
    refine Wx.getR ok kX5_classRead 15 rfl lk_RX5_24_0 h (fun t26 h => ?_)
    refine Wx.getI ok kX5_classRead 16 rfl lk_RX5_34_0 h (fun t29 h => ?_)
    refine Wx.run ok kX5_classRead 17 3 (lv' := [(4, .inl (t29 - (1 : Int32))), (3, .inl (0 : Int32)), (0, .inr (.inr (some v0))), (1, .inr (.inr v1)), (2, .inr (.inr v2))]) (st' := []) (pc' := 36) rfl ?_
    refine Wx.sub [2, 3, 1, 0] rfl ?_
    refine aX5_classRead_l36 ok hres (F := F) _ ?_ F _ _ _ _ _ h
    · intro v0 v3 w h
      refine Wx.run ok kX5_classRead 37 1 (lv' := [(0, .inr (.inr (some v0))), (3, .inl v3)]) (st' := [.inr (.inr (some v0))]) (pc' := 70) rfl ?_
      refine Wx.getR ok kX5_classRead 38 rfl lk_RX5_24_0 h (fun t70 h => ?_)
      refine Wx.run ok kX5_classRead 39 1 (lv' := [(0, .inr (.inr (some v0))), (3, .inl v3)]) (st' := [.inr (.inr (some v0)), .inr (.inr t70)]) (pc' := 74) rfl ?_
      refine Wx.getR ok kX5_classRead 40 rfl lk_RX5_9_0 h (fun t74 h => ?_)
      obtain ⟨a77, ha77, h⟩ := gob h
      obtain ⟨q77, hq77, h⟩ := gob h
      refine Wx.callV ok kX5_classRead 41 rfl lm_RX5_138 cd_X1_reduce ha77 [.inr (.inr t74)] none (aX1_reduce _ _ hq77) (by decide) rfl (Nat.le_of_ble_eq_true rfl) rfl rfl ?_
      refine Wx.run ok kX5_classRead 42 1 (lv' := [(0, .inr (.inr (some v0))), (3, .inl v3)]) (st' := [.inr (.inr (some v0))]) (pc' := 81) rfl ?_
      refine Wx.getR ok kX5_classRead 43 rfl lk_RX5_24_0 h (fun t81 h => ?_)
      refine Wx.run ok kX5_classRead 44 1 (lv' := [(0, .inr (.inr (some v0))), (3, .inl v3)]) (st' := [.inr (.inr (some v0)), .inr (.inr t81)]) (pc' := 85) rfl ?_
      refine Wx.getR ok kX5_classRead 45 rfl lk_RX5_9_0 h (fun t85 h => ?_)
      obtain ⟨a88, ha88, h⟩ := gob h
      obtain ⟨q88, hq88, h⟩ := gob h
      refine Wx.callV ok kX5_classRead 46 rfl lm_RX5_141 cd_X1_firstNotZero ha88 [.inr (.inr t85)] (some (.inl q88.1)) (aX1_firstNotZero _ _ hq88) (by decide) rfl (Nat.le_of_ble_eq_true rfl) rfl rfl ?_
      refine Wx.if_ge ok kX5_classRead 47 (tgt := 98) rfl (by decide) h (fun hc91 h => ?_) (fun hc91 h => ?_)
      · refine Wx.run ok kX5_classRead 50 1 (lv' := [(0, .inr (.inr (some v0))), (3, .inl v3)]) (st' := [.inl (-4 : Int32)]) (pc' := 100) rfl ?_
        exact Wx.ireturn ok kX5_classRead 51 rfl hres h (by decide)
      · refine Wx.run ok kX5_classRead 48 1 (lv' := [(0, .inr (.inr (some v0))), (3, .inl v3)]) (st' := [.inl v3]) (pc' := 95) rfl ?_
        refine Wx.jump ok kX5_classRead 49 (tgt := 100) rfl (by decide) ?_
        exact Wx.ireturn ok kX5_classRead 51 rfl hres h (by decide)
set_option maxRecDepth 100000 in
set_option maxHeartbeats 4000000 in
theorem aX5_vectorOf_h11 {X : gX} (ok : gOk X cX5_vectorOf RX5 7 (some .int) rmX5_vectorOf) {res : Int32 × gW} (hres : gRs X (some (.int res.1)) res.2) {F : Nat} (r : Nat → (Option Nat) → Int32 → Int32 → Int32 → Int32 → Int32 → gW → Option (Int32 × gW)) (hr : ∀ (v0 : Nat) (v1 : Option Nat) (v2 : Int32) (v3 : Int32) (v4 : Int32) (v5 : Int32) (v6 : Int32) (w : gW), r v0 v1 v2 v3 v4 v5 v6 w = some res → Wx X w 0 0 11 [(0, .inr (.inr (some v0))), (1, .inr (.inr v1)), (2, .inl v2), (3, .inl v3), (4, .inl v4), (5, .inl v5), (6, .inl v6)] []) : ∀ (v0 : Nat) (v1 : Option Nat) (v2 : Int32) (v3 : Int32) (v4 : Int32) (v5 : Int32) (v6 : Int32) (w : gW), mX5_vectorOf_h11 F r v0 v1 v2 v3 v4 v5 v6 w = some res → Wx X w 0 0 11 [(0, .inr (.inr (some v0))), (1, .inr (.inr v1)), (2, .inl v2), (3, .inl v3), (4, .inl v4), (5, .inl v5), (6, .inl v6)] [] := by
  intro v0 v1 v2 v3 v4 v5 v6 w h
  unfold mX5_vectorOf_h11 at h
  refine Wx.run ok kX5_vectorOf 7 1 (lv' := [(0, .inr (.inr (some v0))), (1, .inr (.inr v1)), (2, .inl v2), (3, .inl v3), (4, .inl v4), (5, .inl v5), (6, .inl v6)]) (st' := [.inl v6]) (pc' := 13) rfl ?_
  refine Wx.if_lt ok kX5_vectorOf 8 (tgt := 43) rfl (by decide) h (fun hc13 h => ?_) (fun hc13 h => ?_)
  · refine Wx.run ok kX5_vectorOf 24 1 (lv' := [(0, .inr (.inr (some v0))), (1, .inr (.inr v1)), (2, .inl v2), (3, .inl v3), (4, .inl v4), (5, .inl v5), (6, .inl v6)]) (st' := [.inl v5]) (pc' := 45) rfl ?_
    exact Wx.ireturn ok kX5_vectorOf 25 rfl hres h (by decide)
  · refine Wx.run ok kX5_vectorOf 9 2 (lv' := [(0, .inr (.inr (some v0))), (1, .inr (.inr v1)), (2, .inl v2), (3, .inl v3), (4, .inl v4), (5, .inl v5), (6, .inl v6)]) (st' := [.inr (.inr v1), .inl v5]) (pc' := 19) rfl ?_
    refine Wx.getI ok kX5_vectorOf 11 rfl lk_RX5_45_0 h (fun t19 h => ?_)
    refine Wx.run ok kX5_vectorOf 12 7 (lv' := [(0, .inr (.inr (some v0))), (1, .inr (.inr v1)), (2, .inl v2), (3, .inl v3), (4, .inl v4), (5, .inl v5), (6, .inl v6)]) (st' := [.inl v6, .inl v4, .inl v3, .inl v2, .inr (.inr v1), .inr (.inr (some v0)), .inl (v5 * t19)]) (pc' := 31) rfl ?_
    obtain ⟨a31, ha31, h⟩ := gob h
    obtain ⟨q31, hq31, h⟩ := gob h
    refine Wx.callV ok kX5_vectorOf 19 rfl lm_RX5_130 cd_X5_numberOf ha31 [.inr (.inr v1), .inl v2, .inl v3, .inl v4, .inl v6] (some (.inl q31.1)) (aX5_numberOf _ _ hq31) (by decide) rfl (Nat.le_of_ble_eq_true rfl) rfl rfl ?_
    refine Wx.run ok kX5_vectorOf 20 3 (lv' := [(6, .inl (v6 + (-1 : Int32))), (5, .inl ((v5 * t19) + q31.1)), (0, .inr (.inr (some v0))), (1, .inr (.inr v1)), (2, .inl v2), (3, .inl v3), (4, .inl v4)]) (st' := []) (pc' := 40) rfl ?_
    refine Wx.jump ok kX5_vectorOf 23 (tgt := 11) rfl (by decide) ?_
    refine Wx.sub [2, 3, 4, 5, 6, 1, 0] rfl ?_
    exact hr _ _ _ _ _ _ _ _ h
set_option maxRecDepth 100000 in
set_option maxHeartbeats 4000000 in
theorem aX5_vectorOf_l11 {X : gX} (ok : gOk X cX5_vectorOf RX5 7 (some .int) rmX5_vectorOf) {res : Int32 × gW} (hres : gRs X (some (.int res.1)) res.2) {F : Nat} : ∀ (n : Nat) (v0 : Nat) (v1 : Option Nat) (v2 : Int32) (v3 : Int32) (v4 : Int32) (v5 : Int32) (v6 : Int32) (w : gW), mX5_vectorOf_l11 F n v0 v1 v2 v3 v4 v5 v6 w = some res → Wx X w 0 0 11 [(0, .inr (.inr (some v0))), (1, .inr (.inr v1)), (2, .inl v2), (3, .inl v3), (4, .inl v4), (5, .inl v5), (6, .inl v6)] [] := by
  intro n
  induction n with
  | zero => intro v0 v1 v2 v3 v4 v5 v6 w h; cases (show (none : Option (Int32 × gW)) = some res from h)
  | succ n ih =>
    intro v0 v1 v2 v3 v4 v5 v6 w h
    exact aX5_vectorOf_h11 ok hres (F := F) (mX5_vectorOf_l11 F n) ih v0 v1 v2 v3 v4 v5 v6 w h
set_option maxRecDepth 100000 in
set_option maxHeartbeats 4000000 in
theorem aX5_vectorOf (l : Launch) (G : gG) {F : Nat} {v0 : Nat} {v1 : Option Nat} {v2 : Int32} {v3 : Int32} {v4 : Int32} {w : gW} {res : Int32 × gW} (h : mX5_vectorOf F v0 v1 v2 v3 v4 w = some res) : gM l yX5_vectorOf cX5_vectorOf 7 (some .int) rmX5_vectorOf G w (gTs [.inr (.inr (some v0)), .inr (.inr v1), .inl v2, .inl v3, .inl v4]) (some (.int res.1)) res.2 := by
  refine gM_of (y := yX5_vectorOf) (by decide +kernel) (Nat.le_of_ble_eq_true rfl) ?_
  intro X ok hl hG hres hnm
  subst hl; subst hG
  unfold mX5_vectorOf at h
  show Wx X w 0 0 0 [(0, .inr (.inr (some v0))), (1, .inr (.inr v1)), (2, .inl v2), (3, .inl v3), (4, .inl v4)] []
  refine Wx.run ok kX5_vectorOf 0 3 (lv' := [(5, .inl (0 : Int32)), (0, .inr (.inr (some v0))), (1, .inr (.inr v1)), (2, .inl v2), (3, .inl v3), (4, .inl v4)]) (st' := [.inr (.inr v1)]) (pc' := 4) rfl ?_
  refine Wx.getI ok kX5_vectorOf 3 rfl lk_RX5_40_0 h (fun t4 h => ?_)
  refine Wx.run ok kX5_vectorOf 4 3 (lv' := [(6, .inl (t4 - (1 : Int32))), (5, .inl (0 : Int32)), (0, .inr (.inr (some v0))), (1, .inr (.inr v1)), (2, .inl v2), (3, .inl v3), (4, .inl v4)]) (st' := []) (pc' := 11) rfl ?_
  refine Wx.sub [2, 3, 4, 5, 6, 1, 0] rfl ?_
  refine aX5_vectorOf_l11 ok hres (F := F) F _ _ _ _ _ _ _ _ h
set_option maxRecDepth 100000 in
set_option maxHeartbeats 4000000 in
theorem aX6_keep (l : Launch) (G : gG) {F : Nat} {v0 : Nat} {v1 : Option Nat} {w : gW} {res : Int32 × gW} (h : mX6_keep F v0 v1 w = some res) : gM l yX6_keep cX6_keep 2 (some .int) rmX6_keep G w (gTs [.inr (.inr (some v0)), .inr (.inr v1)]) (some (.int res.1)) res.2 := by
  refine gM_of (y := yX6_keep) (by decide +kernel) (Nat.le_of_ble_eq_true rfl) ?_
  intro X ok hl hG hres hnm
  subst hl; subst hG
  unfold mX6_keep at h
  show Wx X w 0 0 0 [(0, .inr (.inr (some v0))), (1, .inr (.inr v1))] []
  refine Wx.run ok kX6_keep 0 1 (lv' := [(0, .inr (.inr (some v0))), (1, .inr (.inr v1))]) (st' := [.inr (.inr v1)]) (pc' := 1) rfl ?_
  obtain ⟨a1, ha1, h⟩ := gob h
  obtain ⟨q1, hq1, h⟩ := gob h
  refine Wx.callV ok kX6_keep 1 rfl lm_RX6_224 cd_X2_settle ha1 [] none (aX2_settle _ _ hq1) (by decide) rfl (Nat.le_of_ble_eq_true rfl) rfl rfl ?_
  refine Wx.run ok kX6_keep 2 2 (lv' := [(0, .inr (.inr (some v0))), (1, .inr (.inr v1))]) (st' := [.inr (.inr (some v0)), .inr (.inr (some v0))]) (pc' := 6) rfl ?_
  refine Wx.getI ok kX6_keep 4 rfl lk_RX6_87_0 h (fun t6 h => ?_)
  refine Wx.run ok kX6_keep 5 3 (lv' := [(0, .inr (.inr (some v0))), (1, .inr (.inr v1))]) (st' := [.inl (t6 + (1 : Int32)), .inr (.inr (some v0)), .inl t6]) (pc' := 12) rfl ?_
  refine Wx.put ok kX6_keep 8 rfl lk_RX6_87_1 (gFit_i _) h (fun w12 h => ?_)
  exact Wx.ireturn ok kX6_keep 9 rfl hres h (by decide)
set_option maxRecDepth 100000 in
set_option maxHeartbeats 4000000 in
theorem aX6_made (l : Launch) (G : gG) {F : Nat} {v0 : Nat} {v1 : Int32} {v2 : Int32} {v3 : Int32} {w : gW} {res : Int32 × gW} (h : mX6_made F v0 v1 v2 v3 w = some res) : gM l yX6_made cX6_made 5 (some .int) rmX6_made G w (gTs [.inr (.inr (some v0)), .inl v1, .inl v2, .inl v3]) (some (.int res.1)) res.2 := by
  refine gM_of (y := yX6_made) (by decide +kernel) (Nat.le_of_ble_eq_true rfl) ?_
  intro X ok hl hG hres hnm
  subst hl; subst hG
  unfold mX6_made at h
  show Wx X w 0 0 0 [(0, .inr (.inr (some v0))), (1, .inl v1), (2, .inl v2), (3, .inl v3)] []
  refine Wx.run ok kX6_made 0 2 (lv' := [(0, .inr (.inr (some v0))), (1, .inl v1), (2, .inl v2), (3, .inl v3)]) (st' := [.inl v1, .inr (.inr (some v0))]) (pc' := 2) rfl ?_
  obtain ⟨a2, ha2, h⟩ := gob h
  obtain ⟨q2, hq2, h⟩ := gob h
  refine Wx.callV ok kX6_made 2 rfl lm_RX6_46 cd_X6_groupAt ha2 [.inl v1] (some (.inr (.inr q2.1))) (aX6_groupAt _ _ hq2) (by decide) rfl (Nat.le_of_ble_eq_true rfl) rfl rfl ?_
  refine Wx.run ok kX6_made 3 2 (lv' := [(4, .inr (.inr q2.1)), (0, .inr (.inr (some v0))), (1, .inl v1), (2, .inl v2), (3, .inl v3)]) (st' := [.inr (.inr q2.1)]) (pc' := 9) rfl ?_
  refine Wx.ifnull ok kX6_made 5 (tgt := 30) rfl (by decide) h (fun hc9 h => ?_) (fun hc9 h => ?_)
  · refine Wx.run ok kX6_made 14 1 (lv' := [(4, .inr (.inr q2.1)), (0, .inr (.inr (some v0))), (1, .inl v1), (2, .inl v2), (3, .inl v3)]) (st' := [.inl (-1 : Int32)]) (pc' := 31) rfl ?_
    exact Wx.ireturn ok kX6_made 15 rfl hres h (by decide)
  · refine Wx.run ok kX6_made 6 2 (lv' := [(4, .inr (.inr q2.1)), (0, .inr (.inr (some v0))), (1, .inl v1), (2, .inl v2), (3, .inl v3)]) (st' := [.inl v2, .inr (.inr q2.1)]) (pc' := 15) rfl ?_
    obtain ⟨a15, ha15, h⟩ := gob h
    obtain ⟨q15, hq15, h⟩ := gob h
    refine Wx.callV ok kX6_made 8 rfl lm_RX6_97 cd_X2_has ha15 [.inl v2] (some (.inl q15.1)) (aX2_has _ _ hq15) (by decide) rfl (Nat.le_of_ble_eq_true rfl) rfl rfl ?_
    refine Wx.if_eq ok kX6_made 9 (tgt := 30) rfl (by decide) h (fun hc18 h => ?_) (fun hc18 h => ?_)
    · refine Wx.run ok kX6_made 14 1 (lv' := [(4, .inr (.inr q2.1)), (0, .inr (.inr (some v0))), (1, .inl v1), (2, .inl v2), (3, .inl v3)]) (st' := [.inl (-1 : Int32)]) (pc' := 31) rfl ?_
      exact Wx.ireturn ok kX6_made 15 rfl hres h (by decide)
    · refine Wx.run ok kX6_made 10 2 (lv' := [(4, .inr (.inr q2.1)), (0, .inr (.inr (some v0))), (1, .inl v1), (2, .inl v2), (3, .inl v3)]) (st' := [.inl v3, .inr (.inr q2.1)]) (pc' := 24) rfl ?_
      obtain ⟨a24, ha24, h⟩ := gob h
      obtain ⟨q24, hq24, h⟩ := gob h
      refine Wx.callV ok kX6_made 12 rfl lm_RX6_97 cd_X2_has ha24 [.inl v3] (some (.inl q24.1)) (aX2_has _ _ hq24) (by decide) rfl (Nat.le_of_ble_eq_true rfl) rfl rfl ?_
      refine Wx.if_ne ok kX6_made 13 (tgt := 32) rfl (by decide) h (fun hc27 h => ?_) (fun hc27 h => ?_)
      · refine Wx.run ok kX6_made 14 1 (lv' := [(4, .inr (.inr q2.1)), (0, .inr (.inr (some v0))), (1, .inl v1), (2, .inl v2), (3, .inl v3)]) (st' := [.inl (-1 : Int32)]) (pc' := 31) rfl ?_
        exact Wx.ireturn ok kX6_made 15 rfl hres h (by decide)
      · refine Wx.run ok kX6_made 16 3 (lv' := [(4, .inr (.inr q2.1)), (0, .inr (.inr (some v0))), (1, .inl v1), (2, .inl v2), (3, .inl v3)]) (st' := [.inl v3, .inl v2, .inr (.inr q2.1)]) (pc' := 36) rfl ?_
        obtain ⟨a36, ha36, h⟩ := gob h
        obtain ⟨q36, hq36, h⟩ := gob h
        refine Wx.callV ok kX6_made 19 rfl lm_RX6_133 cd_X2_countMade ha36 [.inl v2, .inl v3] (some (.inl q36.1)) (aX2_countMade _ _ hq36) (by decide) rfl (Nat.le_of_ble_eq_true rfl) rfl rfl ?_
        exact Wx.ireturn ok kX6_made 20 rfl hres h (by decide)
set_option maxRecDepth 100000 in
set_option maxHeartbeats 4000000 in
theorem aX7_about_b87 {X : gX} (ok : gOk X cX7_about RX7 8 (some .int) rmX7_about) {res : Int32 × gW} (hres : gRs X (some (.int res.1)) res.2) {F : Nat} (r : Nat → Int32 → Int32 → Int32 → Int32 → Int32 → gW → Option (Int32 × gW)) (k96 : Int32 → Int32 → Int32 → gW → Option (Int32 × gW)) (hr : ∀ (v0 : Nat) (v1 : Int32) (v2 : Int32) (v3 : Int32) (v4 : Int32) (v5 : Int32) (w : gW), r v0 v1 v2 v3 v4 v5 w = some res → Wx X w 0 0 63 [(0, .inr (.inr (some v0))), (1, .inl v1), (2, .inl v2), (3, .inl v3), (4, .inl v4), (5, .inl v5)] []) (hk96 : ∀ (v2 : Int32) (v3 : Int32) (v4 : Int32) (w : gW), k96 v2 v3 v4 w = some res → Wx X w 0 0 96 [(2, .inl v2), (3, .inl v3), (4, .inl v4)] []) : ∀ (v0 : Nat) (v1 : Int32) (v2 : Int32) (v3 : Int32) (v5 : Int32) (s0 : Int32) (s1 : Int32) (w : gW), mX7_about_b87 F r k96 v0 v1 v2 v3 v5 s0 s1 w = some res → Wx X w 0 0 87 [(0, .inr (.inr (some v0))), (1, .inl v1), (2, .inl v2), (3, .inl v3), (5, .inl v5)] [.inl s1, .inl s0] := by
  intro v0 v1 v2 v3 v5 s0 s1 w h
  unfold mX7_about_b87 at h
  refine Wx.run ok kX7_about 30 3 (lv' := [(5, .inl (v5 + (1 : Int32))), (4, .inl (s0 + s1)), (0, .inr (.inr (some v0))), (1, .inl v1), (2, .inl v2), (3, .inl v3)]) (st' := []) (pc' := 93) rfl ?_
  refine Wx.jump ok kX7_about 33 (tgt := 63) rfl (by decide) ?_
  refine Wx.sub [2, 3, 4, 5, 1, 0] rfl ?_
  exact hr _ _ _ _ _ _ _ h
set_option maxRecDepth 100000 in
set_option maxHeartbeats 4000000 in
theorem aX7_about_h63 {X : gX} (ok : gOk X cX7_about RX7 8 (some .int) rmX7_about) {res : Int32 × gW} (hres : gRs X (some (.int res.1)) res.2) {F : Nat} (r : Nat → Int32 → Int32 → Int32 → Int32 → Int32 → gW → Option (Int32 × gW)) (k96 : Int32 → Int32 → Int32 → gW → Option (Int32 × gW)) (hr : ∀ (v0 : Nat) (v1 : Int32) (v2 : Int32) (v3 : Int32) (v4 : Int32) (v5 : Int32) (w : gW), r v0 v1 v2 v3 v4 v5 w = some res → Wx X w 0 0 63 [(0, .inr (.inr (some v0))), (1, .inl v1), (2, .inl v2), (3, .inl v3), (4, .inl v4), (5, .inl v5)] []) (hk96 : ∀ (v2 : Int32) (v3 : Int32) (v4 : Int32) (w : gW), k96 v2 v3 v4 w = some res → Wx X w 0 0 96 [(2, .inl v2), (3, .inl v3), (4, .inl v4)] []) : ∀ (v0 : Nat) (v1 : Int32) (v2 : Int32) (v3 : Int32) (v4 : Int32) (v5 : Int32) (w : gW), mX7_about_h63 F r k96 v0 v1 v2 v3 v4 v5 w = some res → Wx X w 0 0 63 [(0, .inr (.inr (some v0))), (1, .inl v1), (2, .inl v2), (3, .inl v3), (4, .inl v4), (5, .inl v5)] [] := by
  intro v0 v1 v2 v3 v4 v5 w h
  unfold mX7_about_h63 at h
  refine Wx.run ok kX7_about 17 2 (lv' := [(0, .inr (.inr (some v0))), (1, .inl v1), (2, .inl v2), (3, .inl v3), (4, .inl v4), (5, .inl v5)]) (st' := [.inl v3, .inl v5]) (pc' := 66) rfl ?_
  refine Wx.icmp_ge ok kX7_about 19 (tgt := 96) rfl (by decide) h (fun hc66 h => ?_) (fun hc66 h => ?_)
  · refine Wx.sub [2, 3, 4] rfl ?_
    exact hk96 _ _ _ _ h
  · refine Wx.run ok kX7_about 20 4 (lv' := [(0, .inr (.inr (some v0))), (1, .inl v1), (2, .inl v2), (3, .inl v3), (4, .inl v4), (5, .inl v5)]) (st' := [.inl v5, .inl v1, .inr (.inr (some v0)), .inl v4]) (pc' := 75) rfl ?_
    obtain ⟨a75, ha75, h⟩ := gob h
    obtain ⟨q75, hq75, h⟩ := gob h
    refine Wx.callV ok kX7_about 24 rfl lm_RX7_143 cd_X7_friends ha75 [.inl v1, .inl v5] (some (.inl q75.1)) (aX7_friends _ _ hq75) (by decide) rfl (Nat.le_of_ble_eq_true rfl) rfl rfl ?_
    refine Wx.run ok kX7_about 25 1 (lv' := [(0, .inr (.inr (some v0))), (1, .inl v1), (2, .inl v2), (3, .inl v3), (4, .inl v4), (5, .inl v5)]) (st' := [.inl v3, .inl q75.1, .inl v4]) (pc' := 79) rfl ?_
    refine Wx.icmp_ne ok kX7_about 26 (tgt := 86) rfl (by decide) h (fun hc79 h => ?_) (fun hc79 h => ?_)
    · refine Wx.run ok kX7_about 27 1 (lv' := [(0, .inr (.inr (some v0))), (1, .inl v1), (2, .inl v2), (3, .inl v3), (4, .inl v4), (5, .inl v5)]) (st' := [.inl (1 : Int32), .inl v4]) (pc' := 83) rfl ?_
      refine Wx.jump ok kX7_about 28 (tgt := 87) rfl (by decide) ?_
      refine Wx.sub [0, 1, 2, 3, 5] rfl ?_
      exact aX7_about_b87 ok hres (F := F) r k96 hr hk96 _ _ _ _ _ _ _ _ h
    · refine Wx.run ok kX7_about 29 1 (lv' := [(0, .inr (.inr (some v0))), (1, .inl v1), (2, .inl v2), (3, .inl v3), (4, .inl v4), (5, .inl v5)]) (st' := [.inl (0 : Int32), .inl v4]) (pc' := 87) rfl ?_
      refine Wx.sub [0, 1, 2, 3, 5] rfl ?_
      exact aX7_about_b87 ok hres (F := F) r k96 hr hk96 _ _ _ _ _ _ _ _ h
set_option maxRecDepth 100000 in
set_option maxHeartbeats 4000000 in
theorem aX7_about_l63 {X : gX} (ok : gOk X cX7_about RX7 8 (some .int) rmX7_about) {res : Int32 × gW} (hres : gRs X (some (.int res.1)) res.2) {F : Nat} (k96 : Int32 → Int32 → Int32 → gW → Option (Int32 × gW)) (hk96 : ∀ (v2 : Int32) (v3 : Int32) (v4 : Int32) (w : gW), k96 v2 v3 v4 w = some res → Wx X w 0 0 96 [(2, .inl v2), (3, .inl v3), (4, .inl v4)] []) : ∀ (n : Nat) (v0 : Nat) (v1 : Int32) (v2 : Int32) (v3 : Int32) (v4 : Int32) (v5 : Int32) (w : gW), mX7_about_l63 F k96 n v0 v1 v2 v3 v4 v5 w = some res → Wx X w 0 0 63 [(0, .inr (.inr (some v0))), (1, .inl v1), (2, .inl v2), (3, .inl v3), (4, .inl v4), (5, .inl v5)] [] := by
  intro n
  induction n with
  | zero => intro v0 v1 v2 v3 v4 v5 w h; cases (show (none : Option (Int32 × gW)) = some res from h)
  | succ n ih =>
    intro v0 v1 v2 v3 v4 v5 w h
    exact aX7_about_h63 ok hres (F := F) (mX7_about_l63 F k96 n) k96 ih hk96 v0 v1 v2 v3 v4 v5 w h
set_option maxRecDepth 100000 in
set_option maxHeartbeats 4000000 in
theorem aX7_about_h148 {X : gX} (ok : gOk X cX7_about RX7 8 (some .int) rmX7_about) {res : Int32 × gW} (hres : gRs X (some (.int res.1)) res.2) {F : Nat} (r : Nat → Int32 → Int32 → Int32 → Int32 → Int32 → Int32 → gW → Option (Int32 × gW)) (k166 : Nat → Int32 → Int32 → Int32 → Int32 → gW → Option (Int32 × gW)) (hr : ∀ (v0 : Nat) (v1 : Int32) (v3 : Int32) (v4 : Int32) (v5 : Int32) (v6 : Int32) (v7 : Int32) (w : gW), r v0 v1 v3 v4 v5 v6 v7 w = some res → Wx X w 0 0 148 [(0, .inr (.inr (some v0))), (1, .inl v1), (3, .inl v3), (4, .inl v4), (5, .inl v5), (6, .inl v6), (7, .inl v7)] []) (hk166 : ∀ (v0 : Nat) (v1 : Int32) (v3 : Int32) (v5 : Int32) (v7 : Int32) (w : gW), k166 v0 v1 v3 v5 v7 w = some res → Wx X w 0 0 166 [(0, .inr (.inr (some v0))), (1, .inl v1), (3, .inl v3), (5, .inl v5), (7, .inl v7)] []) : ∀ (v0 : Nat) (v1 : Int32) (v3 : Int32) (v4 : Int32) (v5 : Int32) (v6 : Int32) (v7 : Int32) (w : gW), mX7_about_h148 F r k166 v0 v1 v3 v4 v5 v6 v7 w = some res → Wx X w 0 0 148 [(0, .inr (.inr (some v0))), (1, .inl v1), (3, .inl v3), (4, .inl v4), (5, .inl v5), (6, .inl v6), (7, .inl v7)] [] := by
  intro v0 v1 v3 v4 v5 v6 v7 w h
  unfold mX7_about_h148 at h
  refine Wx.run ok kX7_about 63 2 (lv' := [(0, .inr (.inr (some v0))), (1, .inl v1), (3, .inl v3), (4, .inl v4), (5, .inl v5), (6, .inl v6), (7, .inl v7)]) (st' := [.inl v6, .inl v7]) (pc' := 152) rfl ?_
  refine Wx.irem ok kX7_about 65 rfl h (fun t152 h => ?_)
  refine Wx.if_eq ok kX7_about 66 (tgt := 166) rfl (by decide) h (fun hc153 h => ?_) (fun hc153 h => ?_)
  · refine Wx.sub [0, 1, 2, 4, 6] rfl ?_
    exact hk166 _ _ _ _ _ _ h
  · refine Wx.run ok kX7_about 67 4 (lv' := [(7, .inl (v7 + v4)), (0, .inr (.inr (some v0))), (1, .inl v1), (3, .inl v3), (4, .inl v4), (5, .inl v5), (6, .inl v6)]) (st' := []) (pc' := 163) rfl ?_
    refine Wx.jump ok kX7_about 71 (tgt := 148) rfl (by decide) ?_
    refine Wx.sub [1, 2, 3, 4, 5, 6, 0] rfl ?_
    exact hr _ _ _ _ _ _ _ _ h
set_option maxRecDepth 100000 in
set_option maxHeartbeats 4000000 in
theorem aX7_about_l148 {X : gX} (ok : gOk X cX7_about RX7 8 (some .int) rmX7_about) {res : Int32 × gW} (hres : gRs X (some (.int res.1)) res.2) {F : Nat} (k166 : Nat → Int32 → Int32 → Int32 → Int32 → gW → Option (Int32 × gW)) (hk166 : ∀ (v0 : Nat) (v1 : Int32) (v3 : Int32) (v5 : Int32) (v7 : Int32) (w : gW), k166 v0 v1 v3 v5 v7 w = some res → Wx X w 0 0 166 [(0, .inr (.inr (some v0))), (1, .inl v1), (3, .inl v3), (5, .inl v5), (7, .inl v7)] []) : ∀ (n : Nat) (v0 : Nat) (v1 : Int32) (v3 : Int32) (v4 : Int32) (v5 : Int32) (v6 : Int32) (v7 : Int32) (w : gW), mX7_about_l148 F k166 n v0 v1 v3 v4 v5 v6 v7 w = some res → Wx X w 0 0 148 [(0, .inr (.inr (some v0))), (1, .inl v1), (3, .inl v3), (4, .inl v4), (5, .inl v5), (6, .inl v6), (7, .inl v7)] [] := by
  intro n
  induction n with
  | zero => intro v0 v1 v3 v4 v5 v6 v7 w h; cases (show (none : Option (Int32 × gW)) = some res from h)
  | succ n ih =>
    intro v0 v1 v3 v4 v5 v6 v7 w h
    exact aX7_about_h148 ok hres (F := F) (mX7_about_l148 F k166 n) k166 ih hk166 v0 v1 v3 v4 v5 v6 v7 w h
set_option maxRecDepth 100000 in
set_option maxHeartbeats 4000000 in
theorem aX7_about_h129 {X : gX} (ok : gOk X cX7_about RX7 8 (some .int) rmX7_about) {res : Int32 × gW} (hres : gRs X (some (.int res.1)) res.2) {F : Nat} (r : Nat → Int32 → Int32 → Int32 → Int32 → gW → Option (Int32 × gW)) (hr : ∀ (v0 : Nat) (v1 : Int32) (v3 : Int32) (v4 : Int32) (v5 : Int32) (w : gW), r v0 v1 v3 v4 v5 w = some res → Wx X w 0 0 129 [(0, .inr (.inr (some v0))), (1, .inl v1), (3, .inl v3), (4, .inl v4), (5, .inl v5)] []) : ∀ (v0 : Nat) (v1 : Int32) (v3 : Int32) (v4 : Int32) (v5 : Int32) (w : gW), mX7_about_h129 F r v0 v1 v3 v4 v5 w = some res → Wx X w 0 0 129 [(0, .inr (.inr (some v0))), (1, .inl v1), (3, .inl v3), (4, .inl v4), (5, .inl v5)] [] := by
  intro v0 v1 v3 v4 v5 w h
  unfold mX7_about_h129 at h
  refine Wx.run ok kX7_about 53 2 (lv' := [(0, .inr (.inr (some v0))), (1, .inl v1), (3, .inl v3), (4, .inl v4), (5, .inl v5)]) (st' := [.inl v3, .inl v5]) (pc' := 132) rfl ?_
  refine Wx.icmp_ge ok kX7_about 55 (tgt := 176) rfl (by decide) h (fun hc132 h => ?_) (fun hc132 h => ?_)
  · refine Wx.run ok kX7_about 76 1 (lv' := [(0, .inr (.inr (some v0))), (1, .inl v1), (3, .inl v3), (4, .inl v4), (5, .inl v5)]) (st' := [.inl v4]) (pc' := 178) rfl ?_
    exact Wx.ireturn ok kX7_about 77 rfl hres h (by decide)
  · refine Wx.run ok kX7_about 56 3 (lv' := [(0, .inr (.inr (some v0))), (1, .inl v1), (3, .inl v3), (4, .inl v4), (5, .inl v5)]) (st' := [.inl v5, .inl v1, .inr (.inr (some v0))]) (pc' := 139) rfl ?_
    obtain ⟨a139, ha139, h⟩ := gob h
    obtain ⟨q139, hq139, h⟩ := gob h
    refine Wx.callV ok kX7_about 59 rfl lm_RX7_140 cd_X7_orderOf ha139 [.inl v1, .inl v5] (some (.inl q139.1)) (aX7_orderOf _ _ hq139) (by decide) rfl (Nat.le_of_ble_eq_true rfl) rfl rfl ?_
    refine Wx.run ok kX7_about 60 3 (lv' := [(7, .inl v4), (6, .inl q139.1), (0, .inr (.inr (some v0))), (1, .inl v1), (3, .inl v3), (4, .inl v4), (5, .inl v5)]) (st' := []) (pc' := 148) rfl ?_
    refine Wx.sub [2, 3, 4, 5, 6, 1, 0] rfl ?_
    refine aX7_about_l148 ok hres (F := F) _ ?_ F _ _ _ _ _ _ _ _ h
    · intro v0 v1 v3 v5 v7 w h
      refine Wx.run ok kX7_about 72 3 (lv' := [(5, .inl (v5 + (1 : Int32))), (4, .inl v7), (0, .inr (.inr (some v0))), (1, .inl v1), (3, .inl v3), (7, .inl v7)]) (st' := []) (pc' := 173) rfl ?_
      refine Wx.jump ok kX7_about 75 (tgt := 129) rfl (by decide) ?_
      refine Wx.sub [2, 3, 4, 1, 0] rfl ?_
      exact hr _ _ _ _ _ _ h
set_option maxRecDepth 100000 in
set_option maxHeartbeats 4000000 in
theorem aX7_about_l129 {X : gX} (ok : gOk X cX7_about RX7 8 (some .int) rmX7_about) {res : Int32 × gW} (hres : gRs X (some (.int res.1)) res.2) {F : Nat} : ∀ (n : Nat) (v0 : Nat) (v1 : Int32) (v3 : Int32) (v4 : Int32) (v5 : Int32) (w : gW), mX7_about_l129 F n v0 v1 v3 v4 v5 w = some res → Wx X w 0 0 129 [(0, .inr (.inr (some v0))), (1, .inl v1), (3, .inl v3), (4, .inl v4), (5, .inl v5)] [] := by
  intro n
  induction n with
  | zero => intro v0 v1 v3 v4 v5 w h; cases (show (none : Option (Int32 × gW)) = some res from h)
  | succ n ih =>
    intro v0 v1 v3 v4 v5 w h
    exact aX7_about_h129 ok hres (F := F) (mX7_about_l129 F n) ih v0 v1 v3 v4 v5 w h
set_option maxRecDepth 100000 in
set_option maxHeartbeats 4000000 in
theorem aX7_about_b207 {X : gX} (ok : gOk X cX7_about RX7 8 (some .int) rmX7_about) {res : Int32 × gW} (hres : gRs X (some (.int res.1)) res.2) {F : Nat} (r : Nat → Int32 → Int32 → Int32 → Int32 → gW → Option (Int32 × gW)) (hr : ∀ (v0 : Nat) (v1 : Int32) (v3 : Int32) (v4 : Int32) (v5 : Int32) (w : gW), r v0 v1 v3 v4 v5 w = some res → Wx X w 0 0 182 [(0, .inr (.inr (some v0))), (1, .inl v1), (3, .inl v3), (4, .inl v4), (5, .inl v5)] []) : ∀ (v0 : Nat) (v1 : Int32) (v3 : Int32) (v5 : Int32) (s0 : Int32) (s1 : Int32) (w : gW), mX7_about_b207 F r v0 v1 v3 v5 s0 s1 w = some res → Wx X w 0 0 207 [(0, .inr (.inr (some v0))), (1, .inl v1), (3, .inl v3), (5, .inl v5)] [.inl s1, .inl s0] := by
  intro v0 v1 v3 v5 s0 s1 w h
  unfold mX7_about_b207 at h
  refine Wx.run ok kX7_about 93 3 (lv' := [(5, .inl (v5 + (1 : Int32))), (4, .inl (s0 + s1)), (0, .inr (.inr (some v0))), (1, .inl v1), (3, .inl v3)]) (st' := []) (pc' := 213) rfl ?_
  refine Wx.jump ok kX7_about 96 (tgt := 182) rfl (by decide) ?_
  refine Wx.sub [2, 3, 4, 1, 0] rfl ?_
  exact hr _ _ _ _ _ _ h
set_option maxRecDepth 100000 in
set_option maxHeartbeats 4000000 in
theorem aX7_about_h182 {X : gX} (ok : gOk X cX7_about RX7 8 (some .int) rmX7_about) {res : Int32 × gW} (hres : gRs X (some (.int res.1)) res.2) {F : Nat} (r : Nat → Int32 → Int32 → Int32 → Int32 → gW → Option (Int32 × gW)) (hr : ∀ (v0 : Nat) (v1 : Int32) (v3 : Int32) (v4 : Int32) (v5 : Int32) (w : gW), r v0 v1 v3 v4 v5 w = some res → Wx X w 0 0 182 [(0, .inr (.inr (some v0))), (1, .inl v1), (3, .inl v3), (4, .inl v4), (5, .inl v5)] []) : ∀ (v0 : Nat) (v1 : Int32) (v3 : Int32) (v4 : Int32) (v5 : Int32) (w : gW), mX7_about_h182 F r v0 v1 v3 v4 v5 w = some res → Wx X w 0 0 182 [(0, .inr (.inr (some v0))), (1, .inl v1), (3, .inl v3), (4, .inl v4), (5, .inl v5)] [] := by
  intro v0 v1 v3 v4 v5 w h
  unfold mX7_about_h182 at h
  refine Wx.run ok kX7_about 80 2 (lv' := [(0, .inr (.inr (some v0))), (1, .inl v1), (3, .inl v3), (4, .inl v4), (5, .inl v5)]) (st' := [.inl v3, .inl v5]) (pc' := 185) rfl ?_
  refine Wx.icmp_ge ok kX7_about 82 (tgt := 216) rfl (by decide) h (fun hc185 h => ?_) (fun hc185 h => ?_)
  · refine Wx.run ok kX7_about 97 1 (lv' := [(0, .inr (.inr (some v0))), (1, .inl v1), (3, .inl v3), (4, .inl v4), (5, .inl v5)]) (st' := [.inl v4]) (pc' := 218) rfl ?_
    exact Wx.ireturn ok kX7_about 98 rfl hres h (by decide)
  · refine Wx.run ok kX7_about 83 4 (lv' := [(0, .inr (.inr (some v0))), (1, .inl v1), (3, .inl v3), (4, .inl v4), (5, .inl v5)]) (st' := [.inl v5, .inl v1, .inr (.inr (some v0)), .inl v4]) (pc' := 194) rfl ?_
    obtain ⟨a194, ha194, h⟩ := gob h
    obtain ⟨q194, hq194, h⟩ := gob h
    refine Wx.callV ok kX7_about 87 rfl lm_RX7_146 cd_X7_leastTurned ha194 [.inl v1, .inl v5] (some (.inl q194.1)) (aX7_leastTurned _ _ hq194) (by decide) rfl (Nat.le_of_ble_eq_true rfl) rfl rfl ?_
    refine Wx.run ok kX7_about 88 1 (lv' := [(0, .inr (.inr (some v0))), (1, .inl v1), (3, .inl v3), (4, .inl v4), (5, .inl v5)]) (st' := [.inl v5, .inl q194.1, .inl v4]) (pc' := 199) rfl ?_
    refine Wx.icmp_ne ok kX7_about 89 (tgt := 206) rfl (by decide) h (fun hc199 h => ?_) (fun hc199 h => ?_)
    · refine Wx.run ok kX7_about 90 1 (lv' := [(0, .inr (.inr (some v0))), (1, .inl v1), (3, .inl v3), (4, .inl v4), (5, .inl v5)]) (st' := [.inl (1 : Int32), .inl v4]) (pc' := 203) rfl ?_
      refine Wx.jump ok kX7_about 91 (tgt := 207) rfl (by decide) ?_
      refine Wx.sub [0, 1, 2, 4] rfl ?_
      exact aX7_about_b207 ok hres (F := F) r hr _ _ _ _ _ _ _ h
    · refine Wx.run ok kX7_about 92 1 (lv' := [(0, .inr (.inr (some v0))), (1, .inl v1), (3, .inl v3), (4, .inl v4), (5, .inl v5)]) (st' := [.inl (0 : Int32), .inl v4]) (pc' := 207) rfl ?_
      refine Wx.sub [0, 1, 2, 4] rfl ?_
      exact aX7_about_b207 ok hres (F := F) r hr _ _ _ _ _ _ _ h
set_option maxRecDepth 100000 in
set_option maxHeartbeats 4000000 in
theorem aX7_about_l182 {X : gX} (ok : gOk X cX7_about RX7 8 (some .int) rmX7_about) {res : Int32 × gW} (hres : gRs X (some (.int res.1)) res.2) {F : Nat} : ∀ (n : Nat) (v0 : Nat) (v1 : Int32) (v3 : Int32) (v4 : Int32) (v5 : Int32) (w : gW), mX7_about_l182 F n v0 v1 v3 v4 v5 w = some res → Wx X w 0 0 182 [(0, .inr (.inr (some v0))), (1, .inl v1), (3, .inl v3), (4, .inl v4), (5, .inl v5)] [] := by
  intro n
  induction n with
  | zero => intro v0 v1 v3 v4 v5 w h; cases (show (none : Option (Int32 × gW)) = some res from h)
  | succ n ih =>
    intro v0 v1 v3 v4 v5 w h
    exact aX7_about_h182 ok hres (F := F) (mX7_about_l182 F n) ih v0 v1 v3 v4 v5 w h
set_option maxRecDepth 100000 in
set_option maxHeartbeats 4000000 in
theorem aX7_about (l : Launch) (G : gG) {F : Nat} {v0 : Nat} {v1 : Int32} {v2 : Int32} {w : gW} {res : Int32 × gW} (h : mX7_about F v0 v1 v2 w = some res) : gM l yX7_about cX7_about 8 (some .int) rmX7_about G w (gTs [.inr (.inr (some v0)), .inl v1, .inl v2]) (some (.int res.1)) res.2 := by
  refine gM_of (y := yX7_about) (by decide +kernel) (Nat.le_of_ble_eq_true rfl) ?_
  intro X ok hl hG hres hnm
  subst hl; subst hG
  unfold mX7_about at h
  show Wx X w 0 0 0 [(0, .inr (.inr (some v0))), (1, .inl v1), (2, .inl v2)] []
  refine Wx.run ok kX7_about 0 2 (lv' := [(0, .inr (.inr (some v0))), (1, .inl v1), (2, .inl v2)]) (st' := [.inl v1, .inr (.inr (some v0))]) (pc' := 2) rfl ?_
  obtain ⟨a2, ha2, h⟩ := gob h
  obtain ⟨q2, hq2, h⟩ := gob h
  refine Wx.callV ok kX7_about 2 rfl lm_RX7_114 cd_X7_isGroup ha2 [.inl v1] (some (.inl q2.1)) (aX7_isGroup _ _ hq2) (by decide) rfl (Nat.le_of_ble_eq_true rfl) rfl rfl ?_
  refine Wx.if_ne ok kX7_about 3 (tgt := 10) rfl (by decide) h (fun hc5 h => ?_) (fun hc5 h => ?_)
  · refine Wx.run ok kX7_about 4 1 (lv' := [(0, .inr (.inr (some v0))), (1, .inl v1), (2, .inl v2)]) (st' := [.inl (-1 : Int32)]) (pc' := 9) rfl ?_
    exact Wx.ireturn ok kX7_about 5 rfl hres h (by decide)
  · refine Wx.run ok kX7_about 6 1 (lv' := [(0, .inr (.inr (some v0))), (1, .inl v1), (2, .inl v2)]) (st' := [.inr (.inr (some v0))]) (pc' := 11) rfl ?_
    refine Wx.getR ok kX7_about 7 rfl lk_RX7_7_0 h (fun t11 h => ?_)
    refine Wx.run ok kX7_about 8 1 (lv' := [(0, .inr (.inr (some v0))), (1, .inl v1), (2, .inl v2)]) (st' := [.inl v1, .inr (.inr t11)]) (pc' := 15) rfl ?_
    refine Wx.iald ok kX7_about 9 rfl h (fun t15 h => ?_)
    refine Wx.run ok kX7_about 10 4 (lv' := [(4, .inl (0 : Int32)), (3, .inl t15), (0, .inr (.inr (some v0))), (1, .inl v1), (2, .inl v2)]) (st' := [.inl v2]) (pc' := 21) rfl ?_
    refine gIte h (fun hx h => ?_) (fun hx0 h => ?_)
    · refine Wx.swIn ok kX7_about 14 rfl (tgt := 60) (by rw [hx]; decide) (by rw [hx]; decide) (by rw [hx]; rfl) (by decide) ?_
      refine Wx.run ok kX7_about 15 2 (lv' := [(5, .inl (0 : Int32)), (4, .inl (0 : Int32)), (3, .inl t15), (0, .inr (.inr (some v0))), (1, .inl v1), (2, .inl v2)]) (st' := []) (pc' := 63) rfl ?_
      refine Wx.sub [3, 4, 5, 2, 1, 0] rfl ?_
      refine aX7_about_l63 ok hres (F := F) _ ?_ F _ _ _ _ _ _ _ h
      · intro v2 v3 v4 w h
        refine Wx.run ok kX7_about 34 1 (lv' := [(2, .inl v2), (3, .inl v3), (4, .inl v4)]) (st' := [.inl v2]) (pc' := 97) rfl ?_
        refine Wx.if_ne ok kX7_about 35 (tgt := 105) rfl (by decide) h (fun hc97 h => ?_) (fun hc97 h => ?_)
        · refine Wx.run ok kX7_about 36 1 (lv' := [(2, .inl v2), (3, .inl v3), (4, .inl v4)]) (st' := [.inl v4]) (pc' := 102) rfl ?_
          refine Wx.jump ok kX7_about 37 (tgt := 116) rfl (by decide) ?_
          exact Wx.ireturn ok kX7_about 44 rfl hres h (by decide)
        · refine Wx.run ok kX7_about 38 2 (lv' := [(2, .inl v2), (3, .inl v3), (4, .inl v4)]) (st' := [.inl v3, .inl v4]) (pc' := 108) rfl ?_
          refine Wx.icmp_ne ok kX7_about 40 (tgt := 115) rfl (by decide) h (fun hc108 h => ?_) (fun hc108 h => ?_)
          · refine Wx.run ok kX7_about 41 1 (lv' := [(2, .inl v2), (3, .inl v3), (4, .inl v4)]) (st' := [.inl (1 : Int32)]) (pc' := 112) rfl ?_
            refine Wx.jump ok kX7_about 42 (tgt := 116) rfl (by decide) ?_
            exact Wx.ireturn ok kX7_about 44 rfl hres h (by decide)
          · refine Wx.run ok kX7_about 43 1 (lv' := [(2, .inl v2), (3, .inl v3), (4, .inl v4)]) (st' := [.inl (0 : Int32)]) (pc' := 116) rfl ?_
            exact Wx.ireturn ok kX7_about 44 rfl hres h (by decide)
    refine gIte h (fun hx h => ?_) (fun hx1 h => ?_)
    · refine Wx.swIn ok kX7_about 14 rfl (tgt := 117) (by rw [hx]; decide) (by rw [hx]; decide) (by rw [hx]; rfl) (by decide) ?_
      refine Wx.run ok kX7_about 45 2 (lv' := [(4, .inl (0 : Int32)), (3, .inl t15), (0, .inr (.inr (some v0))), (1, .inl v1), (2, .inl v2)]) (st' := [.inl v1, .inr (.inr (some v0))]) (pc' := 119) rfl ?_
      obtain ⟨a119, ha119, h⟩ := gob h
      obtain ⟨q119, hq119, h⟩ := gob h
      refine Wx.callV ok kX7_about 47 rfl lm_RX7_166 cd_X7_turnsMade ha119 [.inl v1] (some (.inl q119.1)) (aX7_turnsMade _ _ hq119) (by decide) rfl (Nat.le_of_ble_eq_true rfl) rfl rfl ?_
      exact Wx.ireturn ok kX7_about 48 rfl hres h (by decide)
    refine gIte h (fun hx h => ?_) (fun hx2 h => ?_)
    · refine Wx.swIn ok kX7_about 14 rfl (tgt := 123) (by rw [hx]; decide) (by rw [hx]; decide) (by rw [hx]; rfl) (by decide) ?_
      refine Wx.run ok kX7_about 49 4 (lv' := [(5, .inl (0 : Int32)), (4, .inl (1 : Int32)), (3, .inl t15), (0, .inr (.inr (some v0))), (1, .inl v1), (2, .inl v2)]) (st' := []) (pc' := 129) rfl ?_
      refine Wx.sub [3, 4, 2, 1, 0] rfl ?_
      refine aX7_about_l129 ok hres (F := F) F _ _ _ _ _ _ h
    refine gIte h (fun hx h => ?_) (fun hx3 h => ?_)
    · refine Wx.swIn ok kX7_about 14 rfl (tgt := 179) (by rw [hx]; decide) (by rw [hx]; decide) (by rw [hx]; rfl) (by decide) ?_
      refine Wx.run ok kX7_about 78 2 (lv' := [(5, .inl (0 : Int32)), (4, .inl (0 : Int32)), (3, .inl t15), (0, .inr (.inr (some v0))), (1, .inl v1), (2, .inl v2)]) (st' := []) (pc' := 182) rfl ?_
      refine Wx.sub [3, 4, 2, 1, 0] rfl ?_
      refine aX7_about_l182 ok hres (F := F) F _ _ _ _ _ _ h
    refine gIte h (fun hx h => ?_) (fun hx4 h => ?_)
    · refine Wx.swIn ok kX7_about 14 rfl (tgt := 60) (by rw [hx]; decide) (by rw [hx]; decide) (by rw [hx]; rfl) (by decide) ?_
      refine Wx.run ok kX7_about 15 2 (lv' := [(5, .inl (0 : Int32)), (4, .inl (0 : Int32)), (3, .inl t15), (0, .inr (.inr (some v0))), (1, .inl v1), (2, .inl v2)]) (st' := []) (pc' := 63) rfl ?_
      refine Wx.sub [3, 4, 5, 2, 1, 0] rfl ?_
      refine aX7_about_l63 ok hres (F := F) _ ?_ F _ _ _ _ _ _ _ h
      · intro v2 v3 v4 w h
        refine Wx.run ok kX7_about 34 1 (lv' := [(2, .inl v2), (3, .inl v3), (4, .inl v4)]) (st' := [.inl v2]) (pc' := 97) rfl ?_
        refine Wx.if_ne ok kX7_about 35 (tgt := 105) rfl (by decide) h (fun hc97 h => ?_) (fun hc97 h => ?_)
        · refine Wx.run ok kX7_about 36 1 (lv' := [(2, .inl v2), (3, .inl v3), (4, .inl v4)]) (st' := [.inl v4]) (pc' := 102) rfl ?_
          refine Wx.jump ok kX7_about 37 (tgt := 116) rfl (by decide) ?_
          exact Wx.ireturn ok kX7_about 44 rfl hres h (by decide)
        · refine Wx.run ok kX7_about 38 2 (lv' := [(2, .inl v2), (3, .inl v3), (4, .inl v4)]) (st' := [.inl v3, .inl v4]) (pc' := 108) rfl ?_
          refine Wx.icmp_ne ok kX7_about 40 (tgt := 115) rfl (by decide) h (fun hc108 h => ?_) (fun hc108 h => ?_)
          · refine Wx.run ok kX7_about 41 1 (lv' := [(2, .inl v2), (3, .inl v3), (4, .inl v4)]) (st' := [.inl (1 : Int32)]) (pc' := 112) rfl ?_
            refine Wx.jump ok kX7_about 42 (tgt := 116) rfl (by decide) ?_
            exact Wx.ireturn ok kX7_about 44 rfl hres h (by decide)
          · refine Wx.run ok kX7_about 43 1 (lv' := [(2, .inl v2), (3, .inl v3), (4, .inl v4)]) (st' := [.inl (0 : Int32)]) (pc' := 116) rfl ?_
            exact Wx.ireturn ok kX7_about 44 rfl hres h (by decide)
    refine gIte h (fun hx h => ?_) (fun hx5 h => ?_)
    · refine Wx.swIn ok kX7_about 14 rfl (tgt := 219) (by rw [hx]; decide) (by rw [hx]; decide) (by rw [hx]; rfl) (by decide) ?_
      refine Wx.run ok kX7_about 99 2 (lv' := [(4, .inl (0 : Int32)), (3, .inl t15), (0, .inr (.inr (some v0))), (1, .inl v1), (2, .inl v2)]) (st' := [.inl v1, .inr (.inr (some v0))]) (pc' := 221) rfl ?_
      obtain ⟨a221, ha221, h⟩ := gob h
      obtain ⟨q221, hq221, h⟩ := gob h
      refine Wx.callV ok kX7_about 101 rfl lm_RX7_169 cd_X7_leastMakers ha221 [.inl v1] (some (.inl q221.1)) (aX7_leastMakers _ _ hq221) (by decide) rfl (Nat.le_of_ble_eq_true rfl) rfl rfl ?_
      exact Wx.ireturn ok kX7_about 102 rfl hres h (by decide)
    refine Wx.swOut ok kX7_about 14 rfl (tgt := 225) (gSw v2 0 5 (by decide) (by decide) (fun j hj => match j, hj with
      | 0, _ => hx0
      | 1, _ => hx1
      | 2, _ => hx2
      | 3, _ => hx3
      | 4, _ => hx4
      | 5, _ => hx5
      | j + 6, hj => absurd hj (by omega))) (by decide) ?_
    refine Wx.run ok kX7_about 103 1 (lv' := [(4, .inl (0 : Int32)), (3, .inl t15), (0, .inr (.inr (some v0))), (1, .inl v1), (2, .inl v2)]) (st' := [.inl (-1 : Int32)]) (pc' := 226) rfl ?_
    exact Wx.ireturn ok kX7_about 104 rfl hres h (by decide)
