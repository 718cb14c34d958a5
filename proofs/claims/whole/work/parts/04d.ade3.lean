set_option maxRecDepth 100000 in
set_option maxHeartbeats 4000000 in
theorem aX7_twisted_b8 {X : gX} (ok : gOk X cX7_twisted RX7 4 (some .int) rmX7_twisted) {res : Int32 × gW} (hres : gRs X (some (.int res.1)) res.2) {F : Nat} : ∀  (w : gW), mX7_twisted_b8 F w = some res → Wx X w 0 0 8 [] [] := by
  intro w h
  unfold mX7_twisted_b8 at h
  refine Wx.run ok kX7_twisted 4 1 (lv' := []) (st' := [.inl (0 : Int32)]) (pc' := 9) rfl ?_
  refine Wx.jump ok kX7_twisted 5 (tgt := 24) rfl (by decide) ?_
  exact Wx.ireturn ok kX7_twisted 14 rfl hres h (by decide)
set_option maxRecDepth 100000 in
set_option maxHeartbeats 4000000 in
theorem aX7_twisted (l : Launch) (G : gG) {F : Nat} {v0 : Nat} {v1 : Int32} {v2 : Int32} {v3 : Int32} {w : gW} {res : Int32 × gW} (h : mX7_twisted F v0 v1 v2 v3 w = some res) : gM l yX7_twisted cX7_twisted 4 (some .int) rmX7_twisted G w (gTs [.inr (.inr (some v0)), .inl v1, .inl v2, .inl v3]) (some (.int res.1)) res.2 := by
  refine gM_of (y := yX7_twisted) (by decide +kernel) (Nat.le_of_ble_eq_true rfl) ?_
  intro X ok hl hG hres hnm
  subst hl; subst hG
  unfold mX7_twisted at h
  show Wx X w 0 0 0 [(0, .inr (.inr (some v0))), (1, .inl v1), (2, .inl v2), (3, .inl v3)] []
  refine Wx.run ok kX7_twisted 0 1 (lv' := [(0, .inr (.inr (some v0))), (1, .inl v1), (2, .inl v2), (3, .inl v3)]) (st' := [.inl v1]) (pc' := 1) rfl ?_
  refine Wx.if_eq ok kX7_twisted 1 (tgt := 8) rfl (by decide) h (fun hc1 h => ?_) (fun hc1 h => ?_)
  · refine Wx.sub [] rfl ?_
    exact aX7_twisted_b8 ok hres (F := F)  _ h
  · refine Wx.run ok kX7_twisted 2 1 (lv' := [(0, .inr (.inr (some v0))), (1, .inl v1), (2, .inl v2), (3, .inl v3)]) (st' := [.inl v2]) (pc' := 5) rfl ?_
    refine Wx.if_ne ok kX7_twisted 3 (tgt := 12) rfl (by decide) h (fun hc5 h => ?_) (fun hc5 h => ?_)
    · refine Wx.sub [] rfl ?_
      exact aX7_twisted_b8 ok hres (F := F)  _ h
    · refine Wx.run ok kX7_twisted 6 1 (lv' := [(0, .inr (.inr (some v0))), (1, .inl v1), (2, .inl v2), (3, .inl v3)]) (st' := [.inr (.inr (some v0))]) (pc' := 13) rfl ?_
      refine Wx.getR ok kX7_twisted 7 rfl lk_RX7_67_0 h (fun t13 h => ?_)
      refine Wx.run ok kX7_twisted 8 4 (lv' := [(0, .inr (.inr (some v0))), (1, .inl v1), (2, .inl v2), (3, .inl v3)]) (st' := [.inl v3, .inl v2, .inl v1, .inr (.inr (some v0)), .inr (.inr t13)]) (pc' := 20) rfl ?_
      obtain ⟨a20, ha20, h⟩ := gob h
      obtain ⟨q20, hq20, h⟩ := gob h
      refine Wx.callV ok kX7_twisted 12 rfl lm_RX7_233 cd_X7_placeOf ha20 [.inl v1, .inl v2, .inl v3] (some (.inl q20.1)) (aX7_placeOf _ _ hq20) (by decide) rfl (Nat.le_of_ble_eq_true rfl) rfl rfl ?_
      refine Wx.iald ok kX7_twisted 13 rfl h (fun t23 h => ?_)
      exact Wx.ireturn ok kX7_twisted 14 rfl hres h (by decide)
set_option maxRecDepth 100000 in
set_option maxHeartbeats 4000000 in
theorem aX0_goesWithProduct_h40 {X : gX} (ok : gOk X cX0_goesWithProduct RX0 8 (some .boolean) rmX0_goesWithProduct) {res : Int32 × gW} (hres : gRs X (some (.int res.1)) res.2) {F : Nat} (r : Nat → Int32 → Int32 → Int32 → Int32 → Int32 → Int32 → Int32 → gW → Option (Int32 × gW)) (k79 : Nat → Int32 → Int32 → Int32 → Int32 → Int32 → Int32 → gW → Option (Int32 × gW)) (hr : ∀ (v0 : Nat) (v1 : Int32) (v2 : Int32) (v3 : Int32) (v4 : Int32) (v5 : Int32) (v6 : Int32) (v7 : Int32) (w : gW), r v0 v1 v2 v3 v4 v5 v6 v7 w = some res → Wx X w 0 0 40 [(0, .inr (.inr (some v0))), (1, .inl v1), (2, .inl v2), (3, .inl v3), (4, .inl v4), (5, .inl v5), (6, .inl v6), (7, .inl v7)] []) (hk79 : ∀ (v0 : Nat) (v1 : Int32) (v2 : Int32) (v3 : Int32) (v4 : Int32) (v5 : Int32) (v6 : Int32) (w : gW), k79 v0 v1 v2 v3 v4 v5 v6 w = some res → Wx X w 0 0 79 [(0, .inr (.inr (some v0))), (1, .inl v1), (2, .inl v2), (3, .inl v3), (4, .inl v4), (5, .inl v5), (6, .inl v6)] []) : ∀ (v0 : Nat) (v1 : Int32) (v2 : Int32) (v3 : Int32) (v4 : Int32) (v5 : Int32) (v6 : Int32) (v7 : Int32) (w : gW), mX0_goesWithProduct_h40 F r k79 v0 v1 v2 v3 v4 v5 v6 v7 w = some res → Wx X w 0 0 40 [(0, .inr (.inr (some v0))), (1, .inl v1), (2, .inl v2), (3, .inl v3), (4, .inl v4), (5, .inl v5), (6, .inl v6), (7, .inl v7)] [] := by
  intro v0 v1 v2 v3 v4 v5 v6 v7 w h
  unfold mX0_goesWithProduct_h40 at h
  refine Wx.run ok kX0_goesWithProduct 22 2 (lv' := [(0, .inr (.inr (some v0))), (1, .inl v1), (2, .inl v2), (3, .inl v3), (4, .inl v4), (5, .inl v5), (6, .inl v6), (7, .inl v7)]) (st' := [.inr (.inr (some v0)), .inl v7]) (pc' := 43) rfl ?_
  refine Wx.getI ok kX0_goesWithProduct 24 rfl lk_RX0_30_0 h (fun t43 h => ?_)
  refine Wx.icmp_ge ok kX0_goesWithProduct 25 (tgt := 79) rfl (by decide) h (fun hc46 h => ?_) (fun hc46 h => ?_)
  · refine Wx.sub [0, 1, 2, 3, 4, 5, 6] rfl ?_
    exact hk79 _ _ _ _ _ _ _ _ h
  · refine Wx.run ok kX0_goesWithProduct 26 5 (lv' := [(0, .inr (.inr (some v0))), (1, .inl v1), (2, .inl v2), (3, .inl v3), (4, .inl v4), (5, .inl v5), (6, .inl v6), (7, .inl v7)]) (st' := [.inl v7, .inl v4, .inl v1, .inr (.inr (some v0)), .inl v6]) (pc' := 57) rfl ?_
    obtain ⟨a57, ha57, h⟩ := gob h
    obtain ⟨q57, hq57, h⟩ := gob h
    refine Wx.callV ok kX0_goesWithProduct 31 rfl lm_RX0_53 cd_X0_entry ha57 [.inl v1, .inl v4, .inl v7] (some (.inl q57.1)) (aX0_entry _ _ hq57) (by decide) rfl (Nat.le_of_ble_eq_true rfl) rfl rfl ?_
    refine Wx.run ok kX0_goesWithProduct 32 4 (lv' := [(0, .inr (.inr (some v0))), (1, .inl v1), (2, .inl v2), (3, .inl v3), (4, .inl v4), (5, .inl v5), (6, .inl v6), (7, .inl v7)]) (st' := [.inl v5, .inl v7, .inl v2, .inr (.inr (some v0)), .inl q57.1, .inl v6]) (pc' := 66) rfl ?_
    obtain ⟨a66, ha66, h⟩ := gob h
    obtain ⟨q66, hq66, h⟩ := gob h
    refine Wx.callV ok kX0_goesWithProduct 36 rfl lm_RX0_53 cd_X0_entry ha66 [.inl v2, .inl v7, .inl v5] (some (.inl q66.1)) (aX0_entry _ _ hq66) (by decide) rfl (Nat.le_of_ble_eq_true rfl) rfl rfl ?_
    refine Wx.run ok kX0_goesWithProduct 37 4 (lv' := [(7, .inl (v7 + (1 : Int32))), (6, .inl (v6 + (q57.1 * q66.1))), (0, .inr (.inr (some v0))), (1, .inl v1), (2, .inl v2), (3, .inl v3), (4, .inl v4), (5, .inl v5)]) (st' := []) (pc' := 76) rfl ?_
    refine Wx.jump ok kX0_goesWithProduct 41 (tgt := 40) rfl (by decide) ?_
    refine Wx.sub [2, 3, 4, 5, 6, 7, 1, 0] rfl ?_
    exact hr _ _ _ _ _ _ _ _ _ h
set_option maxRecDepth 100000 in
set_option maxHeartbeats 4000000 in
theorem aX0_goesWithProduct_l40 {X : gX} (ok : gOk X cX0_goesWithProduct RX0 8 (some .boolean) rmX0_goesWithProduct) {res : Int32 × gW} (hres : gRs X (some (.int res.1)) res.2) {F : Nat} (k79 : Nat → Int32 → Int32 → Int32 → Int32 → Int32 → Int32 → gW → Option (Int32 × gW)) (hk79 : ∀ (v0 : Nat) (v1 : Int32) (v2 : Int32) (v3 : Int32) (v4 : Int32) (v5 : Int32) (v6 : Int32) (w : gW), k79 v0 v1 v2 v3 v4 v5 v6 w = some res → Wx X w 0 0 79 [(0, .inr (.inr (some v0))), (1, .inl v1), (2, .inl v2), (3, .inl v3), (4, .inl v4), (5, .inl v5), (6, .inl v6)] []) : ∀ (n : Nat) (v0 : Nat) (v1 : Int32) (v2 : Int32) (v3 : Int32) (v4 : Int32) (v5 : Int32) (v6 : Int32) (v7 : Int32) (w : gW), mX0_goesWithProduct_l40 F k79 n v0 v1 v2 v3 v4 v5 v6 v7 w = some res → Wx X w 0 0 40 [(0, .inr (.inr (some v0))), (1, .inl v1), (2, .inl v2), (3, .inl v3), (4, .inl v4), (5, .inl v5), (6, .inl v6), (7, .inl v7)] [] := by
  intro n
  induction n with
  | zero => intro v0 v1 v2 v3 v4 v5 v6 v7 w h; cases (show (none : Option (Int32 × gW)) = some res from h)
  | succ n ih =>
    intro v0 v1 v2 v3 v4 v5 v6 v7 w h
    exact aX0_goesWithProduct_h40 ok hres (F := F) (mX0_goesWithProduct_l40 F k79 n) k79 ih hk79 v0 v1 v2 v3 v4 v5 v6 v7 w h
set_option maxRecDepth 100000 in
set_option maxHeartbeats 4000000 in
theorem aX0_goesWithProduct_h25 {X : gX} (ok : gOk X cX0_goesWithProduct RX0 8 (some .boolean) rmX0_goesWithProduct) {res : Int32 × gW} (hres : gRs X (some (.int res.1)) res.2) {F : Nat} (r : Nat → Int32 → Int32 → Int32 → Int32 → Int32 → gW → Option (Int32 × gW)) (k108 : Nat → Int32 → Int32 → Int32 → Int32 → gW → Option (Int32 × gW)) (hr : ∀ (v0 : Nat) (v1 : Int32) (v2 : Int32) (v3 : Int32) (v4 : Int32) (v5 : Int32) (w : gW), r v0 v1 v2 v3 v4 v5 w = some res → Wx X w 0 0 25 [(0, .inr (.inr (some v0))), (1, .inl v1), (2, .inl v2), (3, .inl v3), (4, .inl v4), (5, .inl v5)] []) (hk108 : ∀ (v0 : Nat) (v1 : Int32) (v2 : Int32) (v3 : Int32) (v4 : Int32) (w : gW), k108 v0 v1 v2 v3 v4 w = some res → Wx X w 0 0 108 [(0, .inr (.inr (some v0))), (1, .inl v1), (2, .inl v2), (3, .inl v3), (4, .inl v4)] []) : ∀ (v0 : Nat) (v1 : Int32) (v2 : Int32) (v3 : Int32) (v4 : Int32) (v5 : Int32) (w : gW), mX0_goesWithProduct_h25 F r k108 v0 v1 v2 v3 v4 v5 w = some res → Wx X w 0 0 25 [(0, .inr (.inr (some v0))), (1, .inl v1), (2, .inl v2), (3, .inl v3), (4, .inl v4), (5, .inl v5)] [] := by
  intro v0 v1 v2 v3 v4 v5 w h
  unfold mX0_goesWithProduct_h25 at h
  refine Wx.run ok kX0_goesWithProduct 14 2 (lv' := [(0, .inr (.inr (some v0))), (1, .inl v1), (2, .inl v2), (3, .inl v3), (4, .inl v4), (5, .inl v5)]) (st' := [.inr (.inr (some v0)), .inl v5]) (pc' := 28) rfl ?_
  refine Wx.getI ok kX0_goesWithProduct 16 rfl lk_RX0_30_0 h (fun t28 h => ?_)
  refine Wx.icmp_ge ok kX0_goesWithProduct 17 (tgt := 108) rfl (by decide) h (fun hc31 h => ?_) (fun hc31 h => ?_)
  · refine Wx.sub [0, 1, 2, 3, 4] rfl ?_
    exact hk108 _ _ _ _ _ _ h
  · refine Wx.run ok kX0_goesWithProduct 18 4 (lv' := [(7, .inl (0 : Int32)), (6, .inl (0 : Int32)), (0, .inr (.inr (some v0))), (1, .inl v1), (2, .inl v2), (3, .inl v3), (4, .inl v4), (5, .inl v5)]) (st' := []) (pc' := 40) rfl ?_
    refine Wx.sub [2, 3, 4, 5, 6, 7, 1, 0] rfl ?_
    refine aX0_goesWithProduct_l40 ok hres (F := F) _ ?_ F _ _ _ _ _ _ _ _ _ h
    · intro v0 v1 v2 v3 v4 v5 v6 w h
      refine Wx.run ok kX0_goesWithProduct 42 2 (lv' := [(0, .inr (.inr (some v0))), (1, .inl v1), (2, .inl v2), (3, .inl v3), (4, .inl v4), (5, .inl v5), (6, .inl v6)]) (st' := [.inr (.inr (some v0)), .inl v6]) (pc' := 82) rfl ?_
      refine Wx.getI ok kX0_goesWithProduct 44 rfl lk_RX0_26_0 h (fun t82 h => ?_)
      obtain ⟨q85, hq85, h⟩ := gob h
      refine Wx.callSN ok kX0_goesWithProduct 45 rfl lm_RX0_64 cd_X6_mod [.inl v6, .inl t82] (some (.inl q85.1)) (aX6_mod _ _ hq85) (by decide) rfl (Nat.le_of_ble_eq_true rfl) rfl rfl ?_
      refine Wx.run ok kX0_goesWithProduct 46 4 (lv' := [(0, .inr (.inr (some v0))), (1, .inl v1), (2, .inl v2), (3, .inl v3), (4, .inl v4), (5, .inl v5), (6, .inl v6)]) (st' := [.inl v5, .inl v4, .inl v3, .inr (.inr (some v0)), .inl q85.1]) (pc' := 94) rfl ?_
      obtain ⟨a94, ha94, h⟩ := gob h
      obtain ⟨q94, hq94, h⟩ := gob h
      refine Wx.callV ok kX0_goesWithProduct 50 rfl lm_RX0_53 cd_X0_entry ha94 [.inl v3, .inl v4, .inl v5] (some (.inl q94.1)) (aX0_entry _ _ hq94) (by decide) rfl (Nat.le_of_ble_eq_true rfl) rfl rfl ?_
      refine Wx.icmp_eq ok kX0_goesWithProduct 51 (tgt := 102) rfl (by decide) h (fun hc97 h => ?_) (fun hc97 h => ?_)
      · refine Wx.run ok kX0_goesWithProduct 54 1 (lv' := [(5, .inl (v5 + (1 : Int32))), (0, .inr (.inr (some v0))), (1, .inl v1), (2, .inl v2), (3, .inl v3), (4, .inl v4), (6, .inl v6)]) (st' := []) (pc' := 105) rfl ?_
        refine Wx.jump ok kX0_goesWithProduct 55 (tgt := 25) rfl (by decide) ?_
        refine Wx.sub [1, 2, 3, 4, 5, 0] rfl ?_
        exact hr _ _ _ _ _ _ _ h
      · refine Wx.run ok kX0_goesWithProduct 52 1 (lv' := [(0, .inr (.inr (some v0))), (1, .inl v1), (2, .inl v2), (3, .inl v3), (4, .inl v4), (5, .inl v5), (6, .inl v6)]) (st' := [.inl (0 : Int32)]) (pc' := 101) rfl ?_
        exact Wx.zreturn ok kX0_goesWithProduct 53 rfl gNz0 hres h (by decide)
set_option maxRecDepth 100000 in
set_option maxHeartbeats 4000000 in
theorem aX0_goesWithProduct_l25 {X : gX} (ok : gOk X cX0_goesWithProduct RX0 8 (some .boolean) rmX0_goesWithProduct) {res : Int32 × gW} (hres : gRs X (some (.int res.1)) res.2) {F : Nat} (k108 : Nat → Int32 → Int32 → Int32 → Int32 → gW → Option (Int32 × gW)) (hk108 : ∀ (v0 : Nat) (v1 : Int32) (v2 : Int32) (v3 : Int32) (v4 : Int32) (w : gW), k108 v0 v1 v2 v3 v4 w = some res → Wx X w 0 0 108 [(0, .inr (.inr (some v0))), (1, .inl v1), (2, .inl v2), (3, .inl v3), (4, .inl v4)] []) : ∀ (n : Nat) (v0 : Nat) (v1 : Int32) (v2 : Int32) (v3 : Int32) (v4 : Int32) (v5 : Int32) (w : gW), mX0_goesWithProduct_l25 F k108 n v0 v1 v2 v3 v4 v5 w = some res → Wx X w 0 0 25 [(0, .inr (.inr (some v0))), (1, .inl v1), (2, .inl v2), (3, .inl v3), (4, .inl v4), (5, .inl v5)] [] := by
  intro n
  induction n with
  | zero => intro v0 v1 v2 v3 v4 v5 w h; cases (show (none : Option (Int32 × gW)) = some res from h)
  | succ n ih =>
    intro v0 v1 v2 v3 v4 v5 w h
    exact aX0_goesWithProduct_h25 ok hres (F := F) (mX0_goesWithProduct_l25 F k108 n) k108 ih hk108 v0 v1 v2 v3 v4 v5 w h
set_option maxRecDepth 100000 in
set_option maxHeartbeats 4000000 in
theorem aX0_goesWithProduct_h13 {X : gX} (ok : gOk X cX0_goesWithProduct RX0 8 (some .boolean) rmX0_goesWithProduct) {res : Int32 × gW} (hres : gRs X (some (.int res.1)) res.2) {F : Nat} (r : Nat → Int32 → Int32 → Int32 → Int32 → gW → Option (Int32 × gW)) (hr : ∀ (v0 : Nat) (v1 : Int32) (v2 : Int32) (v3 : Int32) (v4 : Int32) (w : gW), r v0 v1 v2 v3 v4 w = some res → Wx X w 0 0 13 [(0, .inr (.inr (some v0))), (1, .inl v1), (2, .inl v2), (3, .inl v3), (4, .inl v4)] []) : ∀ (v0 : Nat) (v1 : Int32) (v2 : Int32) (v3 : Int32) (v4 : Int32) (w : gW), mX0_goesWithProduct_h13 F r v0 v1 v2 v3 v4 w = some res → Wx X w 0 0 13 [(0, .inr (.inr (some v0))), (1, .inl v1), (2, .inl v2), (3, .inl v3), (4, .inl v4)] [] := by
  intro v0 v1 v2 v3 v4 w h
  unfold mX0_goesWithProduct_h13 at h
  refine Wx.run ok kX0_goesWithProduct 8 2 (lv' := [(0, .inr (.inr (some v0))), (1, .inl v1), (2, .inl v2), (3, .inl v3), (4, .inl v4)]) (st' := [.inr (.inr (some v0)), .inl v4]) (pc' := 16) rfl ?_
  refine Wx.getI ok kX0_goesWithProduct 10 rfl lk_RX0_30_0 h (fun t16 h => ?_)
  refine Wx.icmp_ge ok kX0_goesWithProduct 11 (tgt := 114) rfl (by decide) h (fun hc19 h => ?_) (fun hc19 h => ?_)
  · refine Wx.run ok kX0_goesWithProduct 58 1 (lv' := [(0, .inr (.inr (some v0))), (1, .inl v1), (2, .inl v2), (3, .inl v3), (4, .inl v4)]) (st' := [.inl (1 : Int32)]) (pc' := 115) rfl ?_
    exact Wx.zreturn ok kX0_goesWithProduct 59 rfl gNz1 hres h (by decide)
  · refine Wx.run ok kX0_goesWithProduct 12 2 (lv' := [(5, .inl (0 : Int32)), (0, .inr (.inr (some v0))), (1, .inl v1), (2, .inl v2), (3, .inl v3), (4, .inl v4)]) (st' := []) (pc' := 25) rfl ?_
    refine Wx.sub [1, 2, 3, 4, 5, 0] rfl ?_
    refine aX0_goesWithProduct_l25 ok hres (F := F) _ ?_ F _ _ _ _ _ _ _ h
    · intro v0 v1 v2 v3 v4 w h
      refine Wx.run ok kX0_goesWithProduct 56 1 (lv' := [(4, .inl (v4 + (1 : Int32))), (0, .inr (.inr (some v0))), (1, .inl v1), (2, .inl v2), (3, .inl v3)]) (st' := []) (pc' := 111) rfl ?_
      refine Wx.jump ok kX0_goesWithProduct 57 (tgt := 13) rfl (by decide) ?_
      refine Wx.sub [1, 2, 3, 4, 0] rfl ?_
      exact hr _ _ _ _ _ _ h
set_option maxRecDepth 100000 in
set_option maxHeartbeats 4000000 in
theorem aX0_goesWithProduct_l13 {X : gX} (ok : gOk X cX0_goesWithProduct RX0 8 (some .boolean) rmX0_goesWithProduct) {res : Int32 × gW} (hres : gRs X (some (.int res.1)) res.2) {F : Nat} : ∀ (n : Nat) (v0 : Nat) (v1 : Int32) (v2 : Int32) (v3 : Int32) (v4 : Int32) (w : gW), mX0_goesWithProduct_l13 F n v0 v1 v2 v3 v4 w = some res → Wx X w 0 0 13 [(0, .inr (.inr (some v0))), (1, .inl v1), (2, .inl v2), (3, .inl v3), (4, .inl v4)] [] := by
  intro n
  induction n with
  | zero => intro v0 v1 v2 v3 v4 w h; cases (show (none : Option (Int32 × gW)) = some res from h)
  | succ n ih =>
    intro v0 v1 v2 v3 v4 w h
    exact aX0_goesWithProduct_h13 ok hres (F := F) (mX0_goesWithProduct_l13 F n) ih v0 v1 v2 v3 v4 w h
set_option maxRecDepth 100000 in
set_option maxHeartbeats 4000000 in
theorem aX0_goesWithProduct (l : Launch) (G : gG) {F : Nat} {v0 : Nat} {v1 : Int32} {v2 : Int32} {w : gW} {res : Int32 × gW} (h : mX0_goesWithProduct F v0 v1 v2 w = some res) : gM l yX0_goesWithProduct cX0_goesWithProduct 8 (some .boolean) rmX0_goesWithProduct G w (gTs [.inr (.inr (some v0)), .inl v1, .inl v2]) (some (.int res.1)) res.2 := by
  refine gM_of (y := yX0_goesWithProduct) (by decide +kernel) (Nat.le_of_ble_eq_true rfl) ?_
  intro X ok hl hG hres hnm
  subst hl; subst hG
  unfold mX0_goesWithProduct at h
  show Wx X w 0 0 0 [(0, .inr (.inr (some v0))), (1, .inl v1), (2, .inl v2)] []
  refine Wx.run ok kX0_goesWithProduct 0 1 (lv' := [(0, .inr (.inr (some v0))), (1, .inl v1), (2, .inl v2)]) (st' := [.inr (.inr (some v0))]) (pc' := 1) rfl ?_
  refine Wx.getR ok kX0_goesWithProduct 1 rfl lk_RX0_22_0 h (fun t1 h => ?_)
  refine Wx.run ok kX0_goesWithProduct 2 2 (lv' := [(0, .inr (.inr (some v0))), (1, .inl v1), (2, .inl v2)]) (st' := [.inl v2, .inl v1, .inr (.inr t1)]) (pc' := 6) rfl ?_
  obtain ⟨a6, ha6, h⟩ := gob h
  obtain ⟨q6, hq6, h⟩ := gob h
  refine Wx.callV ok kX0_goesWithProduct 4 rfl lm_RX0_61 cd_X2_mul ha6 [.inl v1, .inl v2] (some (.inl q6.1)) (aX2_mul _ _ hq6) (by decide) rfl (Nat.le_of_ble_eq_true rfl) rfl rfl ?_
  refine Wx.run ok kX0_goesWithProduct 5 3 (lv' := [(4, .inl (0 : Int32)), (3, .inl q6.1), (0, .inr (.inr (some v0))), (1, .inl v1), (2, .inl v2)]) (st' := []) (pc' := 13) rfl ?_
  refine Wx.sub [2, 3, 4, 1, 0] rfl ?_
  refine aX0_goesWithProduct_l13 ok hres (F := F) F _ _ _ _ _ _ h
set_option maxRecDepth 100000 in
set_option maxHeartbeats 4000000 in
theorem aX0_move_b66 {X : gX} (ok : gOk X cX0_move RX0 7 (some .int) rmX0_move) {res : Int32 × gW} (hres : gRs X (some (.int res.1)) res.2) {F : Nat} (r : Nat → Int32 → Int32 → Int32 → Int32 → Int32 → gW → Option (Int32 × gW)) (hr : ∀ (v0 : Nat) (v1 : Int32) (v2 : Int32) (v3 : Int32) (v4 : Int32) (v5 : Int32) (w : gW), r v0 v1 v2 v3 v4 v5 w = some res → Wx X w 0 0 8 [(0, .inr (.inr (some v0))), (1, .inl v1), (2, .inl v2), (3, .inl v3), (4, .inl v4), (5, .inl v5)] []) : ∀ (v0 : Nat) (v1 : Int32) (v2 : Int32) (v3 : Int32) (v4 : Int32) (v5 : Int32) (v6 : Int32) (w : gW), mX0_move_b66 F r v0 v1 v2 v3 v4 v5 v6 w = some res → Wx X w 0 0 66 [(0, .inr (.inr (some v0))), (1, .inl v1), (2, .inl v2), (3, .inl v3), (4, .inl v4), (5, .inl v5), (6, .inl v6)] [] := by
  intro v0 v1 v2 v3 v4 v5 v6 w h
  unfold mX0_move_b66 at h
  refine Wx.run ok kX0_move 38 4 (lv' := [(0, .inr (.inr (some v0))), (1, .inl v1), (2, .inl v2), (3, .inl v3), (4, .inl v4), (5, .inl v5), (6, .inl v6)]) (st' := [.inr (.inr (some v0)), .inl v6, .inl v4, .inl v3]) (pc' := 72) rfl ?_
  refine Wx.getI ok kX0_move 42 rfl lk_RX0_26_0 h (fun t72 h => ?_)
  obtain ⟨q75, hq75, h⟩ := gob h
  refine Wx.callSN ok kX0_move 43 rfl lm_RX0_64 cd_X6_mod [.inl v6, .inl t72] (some (.inl q75.1)) (aX6_mod _ _ hq75) (by decide) rfl (Nat.le_of_ble_eq_true rfl) rfl rfl ?_
  refine Wx.run ok kX0_move 44 5 (lv' := [(3, .inl (v3 + (v4 * q75.1))), (0, .inr (.inr (some v0))), (1, .inl v1), (2, .inl v2), (4, .inl v4), (5, .inl v5), (6, .inl v6)]) (st' := [.inr (.inr (some v0)), .inl v4]) (pc' := 84) rfl ?_
  refine Wx.getI ok kX0_move 49 rfl lk_RX0_26_0 h (fun t84 h => ?_)
  refine Wx.run ok kX0_move 50 3 (lv' := [(5, .inl (v5 + (1 : Int32))), (4, .inl (v4 * t84)), (3, .inl (v3 + (v4 * q75.1))), (0, .inr (.inr (some v0))), (1, .inl v1), (2, .inl v2), (6, .inl v6)]) (st' := []) (pc' := 93) rfl ?_
  refine Wx.jump ok kX0_move 53 (tgt := 8) rfl (by decide) ?_
  refine Wx.sub [3, 4, 5, 2, 1, 0] rfl ?_
  exact hr _ _ _ _ _ _ _ h
set_option maxRecDepth 100000 in
set_option maxHeartbeats 4000000 in
theorem aX0_move_h8 {X : gX} (ok : gOk X cX0_move RX0 7 (some .int) rmX0_move) {res : Int32 × gW} (hres : gRs X (some (.int res.1)) res.2) {F : Nat} (r : Nat → Int32 → Int32 → Int32 → Int32 → Int32 → gW → Option (Int32 × gW)) (hr : ∀ (v0 : Nat) (v1 : Int32) (v2 : Int32) (v3 : Int32) (v4 : Int32) (v5 : Int32) (w : gW), r v0 v1 v2 v3 v4 v5 w = some res → Wx X w 0 0 8 [(0, .inr (.inr (some v0))), (1, .inl v1), (2, .inl v2), (3, .inl v3), (4, .inl v4), (5, .inl v5)] []) : ∀ (v0 : Nat) (v1 : Int32) (v2 : Int32) (v3 : Int32) (v4 : Int32) (v5 : Int32) (w : gW), mX0_move_h8 F r v0 v1 v2 v3 v4 v5 w = some res → Wx X w 0 0 8 [(0, .inr (.inr (some v0))), (1, .inl v1), (2, .inl v2), (3, .inl v3), (4, .inl v4), (5, .inl v5)] [] := by
  intro v0 v1 v2 v3 v4 v5 w h
  unfold mX0_move_h8 at h
  refine Wx.run ok kX0_move 6 2 (lv' := [(0, .inr (.inr (some v0))), (1, .inl v1), (2, .inl v2), (3, .inl v3), (4, .inl v4), (5, .inl v5)]) (st' := [.inr (.inr (some v0)), .inl v5]) (pc' := 11) rfl ?_
  refine Wx.getI ok kX0_move 8 rfl lk_RX0_30_0 h (fun t11 h => ?_)
  refine Wx.icmp_ge ok kX0_move 9 (tgt := 96) rfl (by decide) h (fun hc14 h => ?_) (fun hc14 h => ?_)
  · refine Wx.run ok kX0_move 54 1 (lv' := [(0, .inr (.inr (some v0))), (1, .inl v1), (2, .inl v2), (3, .inl v3), (4, .inl v4), (5, .inl v5)]) (st' := [.inl v3]) (pc' := 97) rfl ?_
    exact Wx.ireturn ok kX0_move 55 rfl hres h (by decide)
  · refine Wx.run ok kX0_move 10 4 (lv' := [(0, .inr (.inr (some v0))), (1, .inl v1), (2, .inl v2), (3, .inl v3), (4, .inl v4), (5, .inl v5)]) (st' := [.inl (0 : Int32), .inl v5, .inl v1, .inr (.inr (some v0))]) (pc' := 22) rfl ?_
    obtain ⟨a22, ha22, h⟩ := gob h
    obtain ⟨q22, hq22, h⟩ := gob h
    refine Wx.callV ok kX0_move 14 rfl lm_RX0_53 cd_X0_entry ha22 [.inl v1, .inl v5, .inl (0 : Int32)] (some (.inl q22.1)) (aX0_entry _ _ hq22) (by decide) rfl (Nat.le_of_ble_eq_true rfl) rfl rfl ?_
    refine Wx.run ok kX0_move 15 2 (lv' := [(0, .inr (.inr (some v0))), (1, .inl v1), (2, .inl v2), (3, .inl v3), (4, .inl v4), (5, .inl v5)]) (st' := [.inr (.inr (some v0)), .inl v2, .inl q22.1]) (pc' := 27) rfl ?_
    refine Wx.getI ok kX0_move 17 rfl lk_RX0_26_0 h (fun t27 h => ?_)
    obtain ⟨q30, hq30, h⟩ := gob h
    refine Wx.callSN ok kX0_move 18 rfl lm_RX0_64 cd_X6_mod [.inl v2, .inl t27] (some (.inl q30.1)) (aX6_mod _ _ hq30) (by decide) rfl (Nat.le_of_ble_eq_true rfl) rfl rfl ?_
    refine Wx.run ok kX0_move 19 3 (lv' := [(6, .inl (q22.1 * q30.1)), (0, .inr (.inr (some v0))), (1, .inl v1), (2, .inl v2), (3, .inl v3), (4, .inl v4), (5, .inl v5)]) (st' := [.inr (.inr (some v0))]) (pc' := 37) rfl ?_
    refine Wx.getI ok kX0_move 22 rfl lk_RX0_30_0 h (fun t37 h => ?_)
    refine Wx.run ok kX0_move 23 1 (lv' := [(6, .inl (q22.1 * q30.1)), (0, .inr (.inr (some v0))), (1, .inl v1), (2, .inl v2), (3, .inl v3), (4, .inl v4), (5, .inl v5)]) (st' := [.inl (1 : Int32), .inl t37]) (pc' := 41) rfl ?_
    refine Wx.icmp_le ok kX0_move 24 (tgt := 66) rfl (by decide) h (fun hc41 h => ?_) (fun hc41 h => ?_)
    · refine Wx.sub [1, 2, 3, 4, 5, 6, 0] rfl ?_
      exact aX0_move_b66 ok hres (F := F) r hr _ _ _ _ _ _ _ _ h
    · refine Wx.run ok kX0_move 25 5 (lv' := [(6, .inl (q22.1 * q30.1)), (0, .inr (.inr (some v0))), (1, .inl v1), (2, .inl v2), (3, .inl v3), (4, .inl v4), (5, .inl v5)]) (st' := [.inl (1 : Int32), .inl v5, .inl v1, .inr (.inr (some v0)), .inl (q22.1 * q30.1)]) (pc' := 51) rfl ?_
      obtain ⟨a51, ha51, h⟩ := gob h
      obtain ⟨q51, hq51, h⟩ := gob h
      refine Wx.callV ok kX0_move 30 rfl lm_RX0_53 cd_X0_entry ha51 [.inl v1, .inl v5, .inl (1 : Int32)] (some (.inl q51.1)) (aX0_entry _ _ hq51) (by decide) rfl (Nat.le_of_ble_eq_true rfl) rfl rfl ?_
      refine Wx.run ok kX0_move 31 2 (lv' := [(6, .inl (q22.1 * q30.1)), (0, .inr (.inr (some v0))), (1, .inl v1), (2, .inl v2), (3, .inl v3), (4, .inl v4), (5, .inl v5)]) (st' := [.inr (.inr (some v0)), .inl v2, .inl q51.1, .inl (q22.1 * q30.1)]) (pc' := 56) rfl ?_
      refine Wx.getI ok kX0_move 33 rfl lk_RX0_26_0 h (fun t56 h => ?_)
      obtain ⟨q59, hq59, h⟩ := gob h
      refine Wx.callSN ok kX0_move 34 rfl lm_RX0_71 cd_X6_quotient [.inl v2, .inl t56] (some (.inl q59.1)) (aX6_quotient _ _ hq59) (by decide) rfl (Nat.le_of_ble_eq_true rfl) rfl rfl ?_
      refine Wx.run ok kX0_move 35 3 (lv' := [(6, .inl ((q22.1 * q30.1) + (q51.1 * q59.1))), (0, .inr (.inr (some v0))), (1, .inl v1), (2, .inl v2), (3, .inl v3), (4, .inl v4), (5, .inl v5)]) (st' := []) (pc' := 66) rfl ?_
      refine Wx.sub [1, 2, 3, 4, 5, 6, 0] rfl ?_
      exact aX0_move_b66 ok hres (F := F) r hr _ _ _ _ _ _ _ _ h
set_option maxRecDepth 100000 in
set_option maxHeartbeats 4000000 in
theorem aX0_move_l8 {X : gX} (ok : gOk X cX0_move RX0 7 (some .int) rmX0_move) {res : Int32 × gW} (hres : gRs X (some (.int res.1)) res.2) {F : Nat} : ∀ (n : Nat) (v0 : Nat) (v1 : Int32) (v2 : Int32) (v3 : Int32) (v4 : Int32) (v5 : Int32) (w : gW), mX0_move_l8 F n v0 v1 v2 v3 v4 v5 w = some res → Wx X w 0 0 8 [(0, .inr (.inr (some v0))), (1, .inl v1), (2, .inl v2), (3, .inl v3), (4, .inl v4), (5, .inl v5)] [] := by
  intro n
  induction n with
  | zero => intro v0 v1 v2 v3 v4 v5 w h; cases (show (none : Option (Int32 × gW)) = some res from h)
  | succ n ih =>
    intro v0 v1 v2 v3 v4 v5 w h
    exact aX0_move_h8 ok hres (F := F) (mX0_move_l8 F n) ih v0 v1 v2 v3 v4 v5 w h
set_option maxRecDepth 100000 in
set_option maxHeartbeats 4000000 in
theorem aX0_move (l : Launch) (G : gG) {F : Nat} {v0 : Nat} {v1 : Int32} {v2 : Int32} {w : gW} {res : Int32 × gW} (h : mX0_move F v0 v1 v2 w = some res) : gM l yX0_move cX0_move 7 (some .int) rmX0_move G w (gTs [.inr (.inr (some v0)), .inl v1, .inl v2]) (some (.int res.1)) res.2 := by
  refine gM_of (y := yX0_move) (by decide +kernel) (Nat.le_of_ble_eq_true rfl) ?_
  intro X ok hl hG hres hnm
  subst hl; subst hG
  unfold mX0_move at h
  show Wx X w 0 0 0 [(0, .inr (.inr (some v0))), (1, .inl v1), (2, .inl v2)] []
  refine Wx.run ok kX0_move 0 6 (lv' := [(5, .inl (0 : Int32)), (4, .inl (1 : Int32)), (3, .inl (0 : Int32)), (0, .inr (.inr (some v0))), (1, .inl v1), (2, .inl v2)]) (st' := []) (pc' := 8) rfl ?_
  refine Wx.sub [3, 4, 5, 2, 1, 0] rfl ?_
  refine aX0_move_l8 ok hres (F := F) F _ _ _ _ _ _ _ h
set_option maxRecDepth 100000 in
set_option maxHeartbeats 4000000 in
theorem aX1_inverseOf_h2 {X : gX} (ok : gOk X cX1_inverseOf RX1 3 (some .int) rmX1_inverseOf) {res : Int32 × gW} (hres : gRs X (some (.int res.1)) res.2) {F : Nat} (r : Nat → Int32 → Int32 → gW → Option (Int32 × gW)) (hr : ∀ (v0 : Nat) (v1 : Int32) (v2 : Int32) (w : gW), r v0 v1 v2 w = some res → Wx X w 0 0 2 [(0, .inr (.inr (some v0))), (1, .inl v1), (2, .inl v2)] []) : ∀ (v0 : Nat) (v1 : Int32) (v2 : Int32) (w : gW), mX1_inverseOf_h2 F r v0 v1 v2 w = some res → Wx X w 0 0 2 [(0, .inr (.inr (some v0))), (1, .inl v1), (2, .inl v2)] [] := by
  intro v0 v1 v2 w h
  unfold mX1_inverseOf_h2 at h
  refine Wx.run ok kX1_inverseOf 2 2 (lv' := [(0, .inr (.inr (some v0))), (1, .inl v1), (2, .inl v2)]) (st' := [.inr (.inr (some v0)), .inl v2]) (pc' := 4) rfl ?_
  refine Wx.getI ok kX1_inverseOf 4 rfl lk_RX1_31_0 h (fun t4 h => ?_)
  refine Wx.icmp_ge ok kX1_inverseOf 5 (tgt := 32) rfl (by decide) h (fun hc7 h => ?_) (fun hc7 h => ?_)
  · refine Wx.run ok kX1_inverseOf 18 1 (lv' := [(0, .inr (.inr (some v0))), (1, .inl v1), (2, .inl v2)]) (st' := [.inl (0 : Int32)]) (pc' := 33) rfl ?_
    exact Wx.ireturn ok kX1_inverseOf 19 rfl hres h (by decide)
  · refine Wx.run ok kX1_inverseOf 6 4 (lv' := [(0, .inr (.inr (some v0))), (1, .inl v1), (2, .inl v2)]) (st' := [.inr (.inr (some v0)), .inl (v1 * v2)]) (pc' := 14) rfl ?_
    refine Wx.getI ok kX1_inverseOf 10 rfl lk_RX1_31_0 h (fun t14 h => ?_)
    obtain ⟨q17, hq17, h⟩ := gob h
    refine Wx.callSN ok kX1_inverseOf 11 rfl lm_RX1_50 cd_X6_mod [.inl (v1 * v2), .inl t14] (some (.inl q17.1)) (aX6_mod _ _ hq17) (by decide) rfl (Nat.le_of_ble_eq_true rfl) rfl rfl ?_
    refine Wx.run ok kX1_inverseOf 12 1 (lv' := [(0, .inr (.inr (some v0))), (1, .inl v1), (2, .inl v2)]) (st' := [.inl (1 : Int32), .inl q17.1]) (pc' := 21) rfl ?_
    refine Wx.icmp_ne ok kX1_inverseOf 13 (tgt := 26) rfl (by decide) h (fun hc21 h => ?_) (fun hc21 h => ?_)
    · refine Wx.run ok kX1_inverseOf 14 1 (lv' := [(0, .inr (.inr (some v0))), (1, .inl v1), (2, .inl v2)]) (st' := [.inl v2]) (pc' := 25) rfl ?_
      exact Wx.ireturn ok kX1_inverseOf 15 rfl hres h (by decide)
    · refine Wx.run ok kX1_inverseOf 16 1 (lv' := [(2, .inl (v2 + (1 : Int32))), (0, .inr (.inr (some v0))), (1, .inl v1)]) (st' := []) (pc' := 29) rfl ?_
      refine Wx.jump ok kX1_inverseOf 17 (tgt := 2) rfl (by decide) ?_
      refine Wx.sub [1, 2, 0] rfl ?_
      exact hr _ _ _ _ h
set_option maxRecDepth 100000 in
set_option maxHeartbeats 4000000 in
theorem aX1_inverseOf_l2 {X : gX} (ok : gOk X cX1_inverseOf RX1 3 (some .int) rmX1_inverseOf) {res : Int32 × gW} (hres : gRs X (some (.int res.1)) res.2) {F : Nat} : ∀ (n : Nat) (v0 : Nat) (v1 : Int32) (v2 : Int32) (w : gW), mX1_inverseOf_l2 F n v0 v1 v2 w = some res → Wx X w 0 0 2 [(0, .inr (.inr (some v0))), (1, .inl v1), (2, .inl v2)] [] := by
  intro n
  induction n with
  | zero => intro v0 v1 v2 w h; cases (show (none : Option (Int32 × gW)) = some res from h)
  | succ n ih =>
    intro v0 v1 v2 w h
    exact aX1_inverseOf_h2 ok hres (F := F) (mX1_inverseOf_l2 F n) ih v0 v1 v2 w h
set_option maxRecDepth 100000 in
set_option maxHeartbeats 4000000 in
theorem aX1_inverseOf (l : Launch) (G : gG) {F : Nat} {v0 : Nat} {v1 : Int32} {w : gW} {res : Int32 × gW} (h : mX1_inverseOf F v0 v1 w = some res) : gM l yX1_inverseOf cX1_inverseOf 3 (some .int) rmX1_inverseOf G w (gTs [.inr (.inr (some v0)), .inl v1]) (some (.int res.1)) res.2 := by
  refine gM_of (y := yX1_inverseOf) (by decide +kernel) (Nat.le_of_ble_eq_true rfl) ?_
  intro X ok hl hG hres hnm
  subst hl; subst hG
  unfold mX1_inverseOf at h
  show Wx X w 0 0 0 [(0, .inr (.inr (some v0))), (1, .inl v1)] []
  refine Wx.run ok kX1_inverseOf 0 2 (lv' := [(2, .inl (1 : Int32)), (0, .inr (.inr (some v0))), (1, .inl v1)]) (st' := []) (pc' := 2) rfl ?_
  refine Wx.sub [1, 2, 0] rfl ?_
  refine aX1_inverseOf_l2 ok hres (F := F) F _ _ _ _ h
set_option maxRecDepth 100000 in
set_option maxHeartbeats 4000000 in
theorem aX1_reduce_b99 {X : gX} (ok : gOk X cX1_reduce RX1 7 none rmX1_reduce) {res : gW} (hres : gRs X none res) {F : Nat} (r : Nat → (Option Nat) → Int32 → gW → Option (gW)) (hr : ∀ (v0 : Nat) (v1 : Option Nat) (v2 : Int32) (w : gW), r v0 v1 v2 w = some res → Wx X w 0 0 2 [(0, .inr (.inr (some v0))), (1, .inr (.inr v1)), (2, .inl v2)] []) : ∀ (v0 : Nat) (v1 : Option Nat) (v2 : Int32) (w : gW), mX1_reduce_b99 F r v0 v1 v2 w = some res → Wx X w 0 0 99 [(0, .inr (.inr (some v0))), (1, .inr (.inr v1)), (2, .inl v2)] [] := by
  intro v0 v1 v2 w h
  unfold mX1_reduce_b99 at h
  refine Wx.run ok kX1_reduce 58 1 (lv' := [(2, .inl (v2 + (1 : Int32))), (0, .inr (.inr (some v0))), (1, .inr (.inr v1))]) (st' := []) (pc' := 102) rfl ?_
  refine Wx.jump ok kX1_reduce 59 (tgt := 2) rfl (by decide) ?_
  refine Wx.sub [1, 2, 0] rfl ?_
  exact hr _ _ _ _ h
set_option maxRecDepth 100000 in
set_option maxHeartbeats 4000000 in
theorem aX1_reduce_b93 {X : gX} (ok : gOk X cX1_reduce RX1 7 none rmX1_reduce) {res : gW} (hres : gRs X none res) {F : Nat} (r : Nat → (Option Nat) → Int32 → Int32 → Int32 → Int32 → gW → Option (gW)) (k99 : Nat → (Option Nat) → Int32 → gW → Option (gW)) (hr : ∀ (v0 : Nat) (v1 : Option Nat) (v2 : Int32) (v3 : Int32) (v4 : Int32) (v5 : Int32) (w : gW), r v0 v1 v2 v3 v4 v5 w = some res → Wx X w 0 0 47 [(0, .inr (.inr (some v0))), (1, .inr (.inr v1)), (2, .inl v2), (3, .inl v3), (4, .inl v4), (5, .inl v5)] []) (hk99 : ∀ (v0 : Nat) (v1 : Option Nat) (v2 : Int32) (w : gW), k99 v0 v1 v2 w = some res → Wx X w 0 0 99 [(0, .inr (.inr (some v0))), (1, .inr (.inr v1)), (2, .inl v2)] []) : ∀ (v0 : Nat) (v1 : Option Nat) (v2 : Int32) (v3 : Int32) (v4 : Int32) (v5 : Int32) (w : gW), mX1_reduce_b93 F r k99 v0 v1 v2 v3 v4 v5 w = some res → Wx X w 0 0 93 [(0, .inr (.inr (some v0))), (1, .inr (.inr v1)), (2, .inl v2), (3, .inl v3), (4, .inl v4), (5, .inl v5)] [] := by
  intro v0 v1 v2 v3 v4 v5 w h
  unfold mX1_reduce_b93 at h
  refine Wx.run ok kX1_reduce 56 1 (lv' := [(5, .inl (v5 + (1 : Int32))), (0, .inr (.inr (some v0))), (1, .inr (.inr v1)), (2, .inl v2), (3, .inl v3), (4, .inl v4)]) (st' := []) (pc' := 96) rfl ?_
  refine Wx.jump ok kX1_reduce 57 (tgt := 47) rfl (by decide) ?_
  refine Wx.sub [1, 2, 3, 4, 5, 0] rfl ?_
  exact hr _ _ _ _ _ _ _ h
set_option maxRecDepth 100000 in
set_option maxHeartbeats 4000000 in
theorem aX1_reduce_h47 {X : gX} (ok : gOk X cX1_reduce RX1 7 none rmX1_reduce) {res : gW} (hres : gRs X none res) {F : Nat} (r : Nat → (Option Nat) → Int32 → Int32 → Int32 → Int32 → gW → Option (gW)) (k99 : Nat → (Option Nat) → Int32 → gW → Option (gW)) (hr : ∀ (v0 : Nat) (v1 : Option Nat) (v2 : Int32) (v3 : Int32) (v4 : Int32) (v5 : Int32) (w : gW), r v0 v1 v2 v3 v4 v5 w = some res → Wx X w 0 0 47 [(0, .inr (.inr (some v0))), (1, .inr (.inr v1)), (2, .inl v2), (3, .inl v3), (4, .inl v4), (5, .inl v5)] []) (hk99 : ∀ (v0 : Nat) (v1 : Option Nat) (v2 : Int32) (w : gW), k99 v0 v1 v2 w = some res → Wx X w 0 0 99 [(0, .inr (.inr (some v0))), (1, .inr (.inr v1)), (2, .inl v2)] []) : ∀ (v0 : Nat) (v1 : Option Nat) (v2 : Int32) (v3 : Int32) (v4 : Int32) (v5 : Int32) (w : gW), mX1_reduce_h47 F r k99 v0 v1 v2 v3 v4 v5 w = some res → Wx X w 0 0 47 [(0, .inr (.inr (some v0))), (1, .inr (.inr v1)), (2, .inl v2), (3, .inl v3), (4, .inl v4), (5, .inl v5)] [] := by
  intro v0 v1 v2 v3 v4 v5 w h
  unfold mX1_reduce_h47 at h
  refine Wx.run ok kX1_reduce 30 2 (lv' := [(0, .inr (.inr (some v0))), (1, .inr (.inr v1)), (2, .inl v2), (3, .inl v3), (4, .inl v4), (5, .inl v5)]) (st' := [.inr (.inr (some v0)), .inl v5]) (pc' := 50) rfl ?_
  refine Wx.getI ok kX1_reduce 32 rfl lk_RX1_27_0 h (fun t50 h => ?_)
  refine Wx.icmp_ge ok kX1_reduce 33 (tgt := 99) rfl (by decide) h (fun hc53 h => ?_) (fun hc53 h => ?_)
  · refine Wx.sub [0, 1, 2] rfl ?_
    exact hk99 _ _ _ _ h
  · refine Wx.run ok kX1_reduce 34 1 (lv' := [(0, .inr (.inr (some v0))), (1, .inr (.inr v1)), (2, .inl v2), (3, .inl v3), (4, .inl v4), (5, .inl v5)]) (st' := [.inr (.inr (some v0))]) (pc' := 57) rfl ?_
    refine Wx.getR ok kX1_reduce 35 rfl lk_RX1_21_0 h (fun t57 h => ?_)
    refine Wx.run ok kX1_reduce 36 3 (lv' := [(0, .inr (.inr (some v0))), (1, .inr (.inr v1)), (2, .inl v2), (3, .inl v3), (4, .inl v4), (5, .inl v5)]) (st' := [.inl (v3 + v5), .inr (.inr t57)]) (pc' := 64) rfl ?_
    refine Wx.iald ok kX1_reduce 39 rfl h (fun t64 h => ?_)
    refine Wx.run ok kX1_reduce 40 2 (lv' := [(6, .inl t64), (0, .inr (.inr (some v0))), (1, .inr (.inr v1)), (2, .inl v2), (3, .inl v3), (4, .inl v4), (5, .inl v5)]) (st' := [.inl t64]) (pc' := 69) rfl ?_
    refine Wx.if_eq ok kX1_reduce 42 (tgt := 93) rfl (by decide) h (fun hc69 h => ?_) (fun hc69 h => ?_)
    · refine Wx.sub [1, 2, 3, 4, 5, 6] rfl ?_
      exact aX1_reduce_b93 ok hres (F := F) r k99 hr hk99 _ _ _ _ _ _ _ h
    · refine Wx.run ok kX1_reduce 43 4 (lv' := [(6, .inl t64), (0, .inr (.inr (some v0))), (1, .inr (.inr v1)), (2, .inl v2), (3, .inl v3), (4, .inl v4), (5, .inl v5)]) (st' := [.inl v5, .inr (.inr v1), .inl v5, .inr (.inr v1)]) (pc' := 78) rfl ?_
      refine Wx.iald ok kX1_reduce 47 rfl h (fun t78 h => ?_)
      refine Wx.run ok kX1_reduce 48 5 (lv' := [(6, .inl t64), (0, .inr (.inr (some v0))), (1, .inr (.inr v1)), (2, .inl v2), (3, .inl v3), (4, .inl v4), (5, .inl v5)]) (st' := [.inr (.inr (some v0)), .inl (t78 + (v4 * t64)), .inl v5, .inr (.inr v1)]) (pc' := 86) rfl ?_
      refine Wx.getI ok kX1_reduce 53 rfl lk_RX1_31_0 h (fun t86 h => ?_)
      obtain ⟨q89, hq89, h⟩ := gob h
      refine Wx.callSN ok kX1_reduce 54 rfl lm_RX1_50 cd_X6_mod [.inl (t78 + (v4 * t64)), .inl t86] (some (.inl q89.1)) (aX6_mod _ _ hq89) (by decide) rfl (Nat.le_of_ble_eq_true rfl) rfl rfl ?_
      refine Wx.iast ok kX1_reduce 55 rfl h (fun w92 h => ?_)
      refine Wx.sub [1, 2, 3, 4, 5, 6] rfl ?_
      exact aX1_reduce_b93 ok hres (F := F) r k99 hr hk99 _ _ _ _ _ _ _ h
set_option maxRecDepth 100000 in
set_option maxHeartbeats 4000000 in
theorem aX1_reduce_l47 {X : gX} (ok : gOk X cX1_reduce RX1 7 none rmX1_reduce) {res : gW} (hres : gRs X none res) {F : Nat} (k99 : Nat → (Option Nat) → Int32 → gW → Option (gW)) (hk99 : ∀ (v0 : Nat) (v1 : Option Nat) (v2 : Int32) (w : gW), k99 v0 v1 v2 w = some res → Wx X w 0 0 99 [(0, .inr (.inr (some v0))), (1, .inr (.inr v1)), (2, .inl v2)] []) : ∀ (n : Nat) (v0 : Nat) (v1 : Option Nat) (v2 : Int32) (v3 : Int32) (v4 : Int32) (v5 : Int32) (w : gW), mX1_reduce_l47 F k99 n v0 v1 v2 v3 v4 v5 w = some res → Wx X w 0 0 47 [(0, .inr (.inr (some v0))), (1, .inr (.inr v1)), (2, .inl v2), (3, .inl v3), (4, .inl v4), (5, .inl v5)] [] := by
  intro n
  induction n with
  | zero => intro v0 v1 v2 v3 v4 v5 w h; cases (show (none : Option (gW)) = some res from h)
  | succ n ih =>
    intro v0 v1 v2 v3 v4 v5 w h
    exact aX1_reduce_h47 ok hres (F := F) (mX1_reduce_l47 F k99 n) k99 ih hk99 v0 v1 v2 v3 v4 v5 w h
set_option maxRecDepth 100000 in
set_option maxHeartbeats 4000000 in
theorem aX1_reduce_h2 {X : gX} (ok : gOk X cX1_reduce RX1 7 none rmX1_reduce) {res : gW} (hres : gRs X none res) {F : Nat} (r : Nat → (Option Nat) → Int32 → gW → Option (gW)) (hr : ∀ (v0 : Nat) (v1 : Option Nat) (v2 : Int32) (w : gW), r v0 v1 v2 w = some res → Wx X w 0 0 2 [(0, .inr (.inr (some v0))), (1, .inr (.inr v1)), (2, .inl v2)] []) : ∀ (v0 : Nat) (v1 : Option Nat) (v2 : Int32) (w : gW), mX1_reduce_h2 F r v0 v1 v2 w = some res → Wx X w 0 0 2 [(0, .inr (.inr (some v0))), (1, .inr (.inr v1)), (2, .inl v2)] [] := by
  intro v0 v1 v2 w h
  unfold mX1_reduce_h2 at h
  refine Wx.run ok kX1_reduce 2 2 (lv' := [(0, .inr (.inr (some v0))), (1, .inr (.inr v1)), (2, .inl v2)]) (st' := [.inr (.inr (some v0)), .inl v2]) (pc' := 4) rfl ?_
  refine Wx.getI ok kX1_reduce 4 rfl lk_RX1_27_0 h (fun t4 h => ?_)
  refine Wx.icmp_ge ok kX1_reduce 5 (tgt := 105) rfl (by decide) h (fun hc7 h => ?_) (fun hc7 h => ?_)
  · exact Wx.vreturn ok kX1_reduce 60 rfl hres h (by decide)
  · refine Wx.run ok kX1_reduce 6 2 (lv' := [(0, .inr (.inr (some v0))), (1, .inr (.inr v1)), (2, .inl v2)]) (st' := [.inl v2, .inr (.inr v1)]) (pc' := 12) rfl ?_
    refine Wx.iald ok kX1_reduce 8 rfl h (fun t12 h => ?_)
    refine Wx.if_eq ok kX1_reduce 9 (tgt := 99) rfl (by decide) h (fun hc13 h => ?_) (fun hc13 h => ?_)
    · exact aX1_reduce_b99 ok hres (F := F) r hr _ _ _ _ h
    · refine Wx.run ok kX1_reduce 10 2 (lv' := [(0, .inr (.inr (some v0))), (1, .inr (.inr v1)), (2, .inl v2)]) (st' := [.inl v2, .inr (.inr (some v0))]) (pc' := 18) rfl ?_
      obtain ⟨a18, ha18, h⟩ := gob h
      obtain ⟨q18, hq18, h⟩ := gob h
      refine Wx.callV ok kX1_reduce 12 rfl lm_RX1_46 cd_X1_leadsAt ha18 [.inl v2] (some (.inl q18.1)) (aX1_leadsAt _ _ hq18) (by decide) rfl (Nat.le_of_ble_eq_true rfl) rfl rfl ?_
      refine Wx.if_eq ok kX1_reduce 13 (tgt := 99) rfl (by decide) h (fun hc21 h => ?_) (fun hc21 h => ?_)
      · exact aX1_reduce_b99 ok hres (F := F) r hr _ _ _ _ h
      · refine Wx.run ok kX1_reduce 14 1 (lv' := [(0, .inr (.inr (some v0))), (1, .inr (.inr v1)), (2, .inl v2)]) (st' := [.inr (.inr (some v0))]) (pc' := 25) rfl ?_
        refine Wx.getR ok kX1_reduce 15 rfl lk_RX1_9_0 h (fun t25 h => ?_)
        refine Wx.run ok kX1_reduce 16 1 (lv' := [(0, .inr (.inr (some v0))), (1, .inr (.inr v1)), (2, .inl v2)]) (st' := [.inl v2, .inr (.inr t25)]) (pc' := 29) rfl ?_
        refine Wx.iald ok kX1_reduce 17 rfl h (fun t29 h => ?_)
        refine Wx.run ok kX1_reduce 18 4 (lv' := [(3, .inl (t29 * (98 : Int32))), (0, .inr (.inr (some v0))), (1, .inr (.inr v1)), (2, .inl v2)]) (st' := [.inr (.inr (some v0))]) (pc' := 35) rfl ?_
        refine Wx.getI ok kX1_reduce 22 rfl lk_RX1_31_0 h (fun t35 h => ?_)
        refine Wx.run ok kX1_reduce 23 2 (lv' := [(3, .inl (t29 * (98 : Int32))), (0, .inr (.inr (some v0))), (1, .inr (.inr v1)), (2, .inl v2)]) (st' := [.inl v2, .inr (.inr v1), .inl t35]) (pc' := 40) rfl ?_
        refine Wx.iald ok kX1_reduce 25 rfl h (fun t40 h => ?_)
        refine Wx.run ok kX1_reduce 26 4 (lv' := [(5, .inl v2), (4, .inl (t35 - t40)), (3, .inl (t29 * (98 : Int32))), (0, .inr (.inr (some v0))), (1, .inr (.inr v1)), (2, .inl v2)]) (st' := []) (pc' := 47) rfl ?_
        refine Wx.sub [3, 4, 5, 2, 1, 0] rfl ?_
        refine aX1_reduce_l47 ok hres (F := F) _ ?_ F _ _ _ _ _ _ _ h
        · intro v0 v1 v2 w h
          exact aX1_reduce_b99 ok hres (F := F) r hr _ _ _ _ h
set_option maxRecDepth 100000 in
set_option maxHeartbeats 4000000 in
theorem aX1_reduce_l2 {X : gX} (ok : gOk X cX1_reduce RX1 7 none rmX1_reduce) {res : gW} (hres : gRs X none res) {F : Nat} : ∀ (n : Nat) (v0 : Nat) (v1 : Option Nat) (v2 : Int32) (w : gW), mX1_reduce_l2 F n v0 v1 v2 w = some res → Wx X w 0 0 2 [(0, .inr (.inr (some v0))), (1, .inr (.inr v1)), (2, .inl v2)] [] := by
  intro n
  induction n with
  | zero => intro v0 v1 v2 w h; cases (show (none : Option (gW)) = some res from h)
  | succ n ih =>
    intro v0 v1 v2 w h
    exact aX1_reduce_h2 ok hres (F := F) (mX1_reduce_l2 F n) ih v0 v1 v2 w h
set_option maxRecDepth 100000 in
set_option maxHeartbeats 4000000 in
theorem aX1_reduce (l : Launch) (G : gG) {F : Nat} {v0 : Nat} {v1 : Option Nat} {w : gW} {res : gW} (h : mX1_reduce F v0 v1 w = some res) : gM l yX1_reduce cX1_reduce 7 none rmX1_reduce G w (gTs [.inr (.inr (some v0)), .inr (.inr v1)]) none res := by
  refine gM_of (y := yX1_reduce) (by decide +kernel) (Nat.le_of_ble_eq_true rfl) ?_
  intro X ok hl hG hres hnm
  subst hl; subst hG
  unfold mX1_reduce at h
  show Wx X w 0 0 0 [(0, .inr (.inr (some v0))), (1, .inr (.inr v1))] []
  refine Wx.run ok kX1_reduce 0 2 (lv' := [(2, .inl (0 : Int32)), (0, .inr (.inr (some v0))), (1, .inr (.inr v1))]) (st' := []) (pc' := 2) rfl ?_
  refine Wx.sub [1, 2, 0] rfl ?_
  refine aX1_reduce_l2 ok hres (F := F) F _ _ _ _ h
set_option maxRecDepth 100000 in
set_option maxHeartbeats 4000000 in
theorem aX2_bringsAllToZero_h2 {X : gX} (ok : gOk X cX2_bringsAllToZero RX2 3 (some .boolean) rmX2_bringsAllToZero) {res : Int32 × gW} (hres : gRs X (some (.int res.1)) res.2) {F : Nat} (r : Nat → Int32 → Int32 → gW → Option (Int32 × gW)) (hr : ∀ (v0 : Nat) (v1 : Int32) (v2 : Int32) (w : gW), r v0 v1 v2 w = some res → Wx X w 0 0 2 [(0, .inr (.inr (some v0))), (1, .inl v1), (2, .inl v2)] []) : ∀ (v0 : Nat) (v1 : Int32) (v2 : Int32) (w : gW), mX2_bringsAllToZero_h2 F r v0 v1 v2 w = some res → Wx X w 0 0 2 [(0, .inr (.inr (some v0))), (1, .inl v1), (2, .inl v2)] [] := by
  intro v0 v1 v2 w h
  unfold mX2_bringsAllToZero_h2 at h
  refine Wx.run ok kX2_bringsAllToZero 2 2 (lv' := [(0, .inr (.inr (some v0))), (1, .inl v1), (2, .inl v2)]) (st' := [.inr (.inr (some v0)), .inl v2]) (pc' := 4) rfl ?_
  refine Wx.getI ok kX2_bringsAllToZero 4 rfl lk_RX2_30_0 h (fun t4 h => ?_)
  refine Wx.icmp_ge ok kX2_bringsAllToZero 5 (tgt := 31) rfl (by decide) h (fun hc7 h => ?_) (fun hc7 h => ?_)
  · refine Wx.run ok kX2_bringsAllToZero 17 1 (lv' := [(0, .inr (.inr (some v0))), (1, .inl v1), (2, .inl v2)]) (st' := [.inl (1 : Int32)]) (pc' := 32) rfl ?_
    exact Wx.zreturn ok kX2_bringsAllToZero 18 rfl gNz1 hres h (by decide)
  · refine Wx.run ok kX2_bringsAllToZero 6 2 (lv' := [(0, .inr (.inr (some v0))), (1, .inl v1), (2, .inl v2)]) (st' := [.inr (.inr (some v0)), .inl v1]) (pc' := 12) rfl ?_
    refine Wx.getR ok kX2_bringsAllToZero 8 rfl lk_RX2_24_0 h (fun t12 h => ?_)
    refine Wx.run ok kX2_bringsAllToZero 9 1 (lv' := [(0, .inr (.inr (some v0))), (1, .inl v1), (2, .inl v2)]) (st' := [.inl v2, .inr (.inr t12), .inl v1]) (pc' := 16) rfl ?_
    refine Wx.iald ok kX2_bringsAllToZero 10 rfl h (fun t16 h => ?_)
    obtain ⟨q17, hq17, h⟩ := gob h
    refine Wx.callSN ok kX2_bringsAllToZero 11 rfl lm_RX2_34 cd_X6_mod [.inl v1, .inl t16] (some (.inl q17.1)) (aX6_mod _ _ hq17) (by decide) rfl (Nat.le_of_ble_eq_true rfl) rfl rfl ?_
    refine Wx.if_eq ok kX2_bringsAllToZero 12 (tgt := 25) rfl (by decide) h (fun hc20 h => ?_) (fun hc20 h => ?_)
    · refine Wx.run ok kX2_bringsAllToZero 15 1 (lv' := [(2, .inl (v2 + (1 : Int32))), (0, .inr (.inr (some v0))), (1, .inl v1)]) (st' := []) (pc' := 28) rfl ?_
      refine Wx.jump ok kX2_bringsAllToZero 16 (tgt := 2) rfl (by decide) ?_
      refine Wx.sub [1, 2, 0] rfl ?_
      exact hr _ _ _ _ h
    · refine Wx.run ok kX2_bringsAllToZero 13 1 (lv' := [(0, .inr (.inr (some v0))), (1, .inl v1), (2, .inl v2)]) (st' := [.inl (0 : Int32)]) (pc' := 24) rfl ?_
      exact Wx.zreturn ok kX2_bringsAllToZero 14 rfl gNz0 hres h (by decide)
set_option maxRecDepth 100000 in
set_option maxHeartbeats 4000000 in
theorem aX2_bringsAllToZero_l2 {X : gX} (ok : gOk X cX2_bringsAllToZero RX2 3 (some .boolean) rmX2_bringsAllToZero) {res : Int32 × gW} (hres : gRs X (some (.int res.1)) res.2) {F : Nat} : ∀ (n : Nat) (v0 : Nat) (v1 : Int32) (v2 : Int32) (w : gW), mX2_bringsAllToZero_l2 F n v0 v1 v2 w = some res → Wx X w 0 0 2 [(0, .inr (.inr (some v0))), (1, .inl v1), (2, .inl v2)] [] := by
  intro n
  induction n with
  | zero => intro v0 v1 v2 w h; cases (show (none : Option (Int32 × gW)) = some res from h)
  | succ n ih =>
    intro v0 v1 v2 w h
    exact aX2_bringsAllToZero_h2 ok hres (F := F) (mX2_bringsAllToZero_l2 F n) ih v0 v1 v2 w h
set_option maxRecDepth 100000 in
set_option maxHeartbeats 4000000 in
theorem aX2_bringsAllToZero (l : Launch) (G : gG) {F : Nat} {v0 : Nat} {v1 : Int32} {w : gW} {res : Int32 × gW} (h : mX2_bringsAllToZero F v0 v1 w = some res) : gM l yX2_bringsAllToZero cX2_bringsAllToZero 3 (some .boolean) rmX2_bringsAllToZero G w (gTs [.inr (.inr (some v0)), .inl v1]) (some (.int res.1)) res.2 := by
  refine gM_of (y := yX2_bringsAllToZero) (by decide +kernel) (Nat.le_of_ble_eq_true rfl) ?_
  intro X ok hl hG hres hnm
  subst hl; subst hG
  unfold mX2_bringsAllToZero at h
  show Wx X w 0 0 0 [(0, .inr (.inr (some v0))), (1, .inl v1)] []
  refine Wx.run ok kX2_bringsAllToZero 0 2 (lv' := [(2, .inl (0 : Int32)), (0, .inr (.inr (some v0))), (1, .inl v1)]) (st' := []) (pc' := 2) rfl ?_
  refine Wx.sub [1, 2, 0] rfl ?_
  refine aX2_bringsAllToZero_l2 ok hres (F := F) F _ _ _ _ h
set_option maxRecDepth 100000 in
set_option maxHeartbeats 4000000 in
theorem aX2_countCentral_b27 {X : gX} (ok : gOk X cX2_countCentral RX2 3 (some .int) rmX2_countCentral) {res : Int32 × gW} (hres : gRs X (some (.int res.1)) res.2) {F : Nat} (r : Nat → Int32 → Int32 → gW → Option (Int32 × gW)) (hr : ∀ (v0 : Nat) (v1 : Int32) (v2 : Int32) (w : gW), r v0 v1 v2 w = some res → Wx X w 0 0 4 [(0, .inr (.inr (some v0))), (1, .inl v1), (2, .inl v2)] []) : ∀ (v0 : Nat) (v1 : Int32) (v2 : Int32) (w : gW), mX2_countCentral_b27 F r v0 v1 v2 w = some res → Wx X w 0 0 27 [(0, .inr (.inr (some v0))), (1, .inl v1), (2, .inl v2)] [] := by
  intro v0 v1 v2 w h
  unfold mX2_countCentral_b27 at h
  refine Wx.run ok kX2_countCentral 15 1 (lv' := [(2, .inl (v2 + (1 : Int32))), (0, .inr (.inr (some v0))), (1, .inl v1)]) (st' := []) (pc' := 30) rfl ?_
  refine Wx.jump ok kX2_countCentral 16 (tgt := 4) rfl (by decide) ?_
  refine Wx.sub [1, 2, 0] rfl ?_
  exact hr _ _ _ _ h
set_option maxRecDepth 100000 in
set_option maxHeartbeats 4000000 in
theorem aX2_countCentral_h4 {X : gX} (ok : gOk X cX2_countCentral RX2 3 (some .int) rmX2_countCentral) {res : Int32 × gW} (hres : gRs X (some (.int res.1)) res.2) {F : Nat} (r : Nat → Int32 → Int32 → gW → Option (Int32 × gW)) (hr : ∀ (v0 : Nat) (v1 : Int32) (v2 : Int32) (w : gW), r v0 v1 v2 w = some res → Wx X w 0 0 4 [(0, .inr (.inr (some v0))), (1, .inl v1), (2, .inl v2)] []) : ∀ (v0 : Nat) (v1 : Int32) (v2 : Int32) (w : gW), mX2_countCentral_h4 F r v0 v1 v2 w = some res → Wx X w 0 0 4 [(0, .inr (.inr (some v0))), (1, .inl v1), (2, .inl v2)] [] := by
  intro v0 v1 v2 w h
  unfold mX2_countCentral_h4 at h
  refine Wx.run ok kX2_countCentral 4 2 (lv' := [(0, .inr (.inr (some v0))), (1, .inl v1), (2, .inl v2)]) (st' := [.inr (.inr (some v0)), .inl v2]) (pc' := 6) rfl ?_
  refine Wx.getI ok kX2_countCentral 6 rfl lk_RX2_30_0 h (fun t6 h => ?_)
  refine Wx.icmp_ge ok kX2_countCentral 7 (tgt := 33) rfl (by decide) h (fun hc9 h => ?_) (fun hc9 h => ?_)
  · refine Wx.run ok kX2_countCentral 17 1 (lv' := [(0, .inr (.inr (some v0))), (1, .inl v1), (2, .inl v2)]) (st' := [.inl v1]) (pc' := 34) rfl ?_
    exact Wx.ireturn ok kX2_countCentral 18 rfl hres h (by decide)
  · refine Wx.run ok kX2_countCentral 8 2 (lv' := [(0, .inr (.inr (some v0))), (1, .inl v1), (2, .inl v2)]) (st' := [.inl v2, .inr (.inr (some v0))]) (pc' := 14) rfl ?_
    obtain ⟨a14, ha14, h⟩ := gob h
    obtain ⟨q14, hq14, h⟩ := gob h
    refine Wx.callV ok kX2_countCentral 10 rfl lm_RX2_104 cd_X2_countCommuting ha14 [.inl v2] (some (.inl q14.1)) (aX2_countCommuting _ _ hq14) (by decide) rfl (Nat.le_of_ble_eq_true rfl) rfl rfl ?_
    refine Wx.run ok kX2_countCentral 11 1 (lv' := [(0, .inr (.inr (some v0))), (1, .inl v1), (2, .inl v2)]) (st' := [.inr (.inr (some v0)), .inl q14.1]) (pc' := 18) rfl ?_
    refine Wx.getI ok kX2_countCentral 12 rfl lk_RX2_30_0 h (fun t18 h => ?_)
    refine Wx.icmp_ne ok kX2_countCentral 13 (tgt := 27) rfl (by decide) h (fun hc21 h => ?_) (fun hc21 h => ?_)
    · refine Wx.run ok kX2_countCentral 14 1 (lv' := [(1, .inl (v1 + (1 : Int32))), (0, .inr (.inr (some v0))), (2, .inl v2)]) (st' := []) (pc' := 27) rfl ?_
      refine Wx.sub [1, 0, 2] rfl ?_
      exact aX2_countCentral_b27 ok hres (F := F) r hr _ _ _ _ h
    · exact aX2_countCentral_b27 ok hres (F := F) r hr _ _ _ _ h
set_option maxRecDepth 100000 in
set_option maxHeartbeats 4000000 in
theorem aX2_countCentral_l4 {X : gX} (ok : gOk X cX2_countCentral RX2 3 (some .int) rmX2_countCentral) {res : Int32 × gW} (hres : gRs X (some (.int res.1)) res.2) {F : Nat} : ∀ (n : Nat) (v0 : Nat) (v1 : Int32) (v2 : Int32) (w : gW), mX2_countCentral_l4 F n v0 v1 v2 w = some res → Wx X w 0 0 4 [(0, .inr (.inr (some v0))), (1, .inl v1), (2, .inl v2)] [] := by
  intro n
  induction n with
  | zero => intro v0 v1 v2 w h; cases (show (none : Option (Int32 × gW)) = some res from h)
  | succ n ih =>
    intro v0 v1 v2 w h
    exact aX2_countCentral_h4 ok hres (F := F) (mX2_countCentral_l4 F n) ih v0 v1 v2 w h
set_option maxRecDepth 100000 in
set_option maxHeartbeats 4000000 in
theorem aX2_countCentral (l : Launch) (G : gG) {F : Nat} {v0 : Nat} {w : gW} {res : Int32 × gW} (h : mX2_countCentral F v0 w = some res) : gM l yX2_countCentral cX2_countCentral 3 (some .int) rmX2_countCentral G w (gTs [.inr (.inr (some v0))]) (some (.int res.1)) res.2 := by
  refine gM_of (y := yX2_countCentral) (by decide +kernel) (Nat.le_of_ble_eq_true rfl) ?_
  intro X ok hl hG hres hnm
  subst hl; subst hG
  unfold mX2_countCentral at h
  show Wx X w 0 0 0 [(0, .inr (.inr (some v0)))] []
  refine Wx.run ok kX2_countCentral 0 4 (lv' := [(2, .inl (0 : Int32)), (1, .inl (0 : Int32)), (0, .inr (.inr (some v0)))]) (st' := []) (pc' := 4) rfl ?_
  refine Wx.sub [2, 1, 0] rfl ?_
  refine aX2_countCentral_l4 ok hres (F := F) F _ _ _ _ h
set_option maxRecDepth 100000 in
set_option maxHeartbeats 4000000 in
theorem aX2_countDerived_b89 {X : gX} (ok : gOk X cX2_countDerived RX2 7 (some .int) rmX2_countDerived) {res : Int32 × gW} (hres : gRs X (some (.int res.1)) res.2) {F : Nat} (r : Nat → Int64 → Int32 → Int32 → Int32 → gW → Option (Int32 × gW)) (k95 : Nat → Int64 → Int32 → Int32 → gW → Option (Int32 × gW)) (hr : ∀ (v0 : Nat) (v1 : Int64) (v3 : Int32) (v4 : Int32) (v5 : Int32) (w : gW), r v0 v1 v3 v4 v5 w = some res → Wx X w 0 0 19 [(0, .inr (.inr (some v0))), (1, .inr (.inl v1)), (3, .inl v3), (4, .inl v4), (5, .inl v5)] []) (hk95 : ∀ (v0 : Nat) (v1 : Int64) (v3 : Int32) (v4 : Int32) (w : gW), k95 v0 v1 v3 v4 w = some res → Wx X w 0 0 95 [(0, .inr (.inr (some v0))), (1, .inr (.inl v1)), (3, .inl v3), (4, .inl v4)] []) : ∀ (v0 : Nat) (v1 : Int64) (v3 : Int32) (v4 : Int32) (v5 : Int32) (w : gW), mX2_countDerived_b89 F r k95 v0 v1 v3 v4 v5 w = some res → Wx X w 0 0 89 [(0, .inr (.inr (some v0))), (1, .inr (.inl v1)), (3, .inl v3), (4, .inl v4), (5, .inl v5)] [] := by
  intro v0 v1 v3 v4 v5 w h
  unfold mX2_countDerived_b89 at h
  refine Wx.run ok kX2_countDerived 53 1 (lv' := [(5, .inl (v5 + (1 : Int32))), (0, .inr (.inr (some v0))), (1, .inr (.inl v1)), (3, .inl v3), (4, .inl v4)]) (st' := []) (pc' := 92) rfl ?_
  refine Wx.jump ok kX2_countDerived 54 (tgt := 19) rfl (by decide) ?_
  refine Wx.sub [1, 2, 3, 4, 0] rfl ?_
  exact hr _ _ _ _ _ _ h
set_option maxRecDepth 100000 in
set_option maxHeartbeats 4000000 in
theorem aX2_countDerived_h19 {X : gX} (ok : gOk X cX2_countDerived RX2 7 (some .int) rmX2_countDerived) {res : Int32 × gW} (hres : gRs X (some (.int res.1)) res.2) {F : Nat} (r : Nat → Int64 → Int32 → Int32 → Int32 → gW → Option (Int32 × gW)) (k95 : Nat → Int64 → Int32 → Int32 → gW → Option (Int32 × gW)) (hr : ∀ (v0 : Nat) (v1 : Int64) (v3 : Int32) (v4 : Int32) (v5 : Int32) (w : gW), r v0 v1 v3 v4 v5 w = some res → Wx X w 0 0 19 [(0, .inr (.inr (some v0))), (1, .inr (.inl v1)), (3, .inl v3), (4, .inl v4), (5, .inl v5)] []) (hk95 : ∀ (v0 : Nat) (v1 : Int64) (v3 : Int32) (v4 : Int32) (w : gW), k95 v0 v1 v3 v4 w = some res → Wx X w 0 0 95 [(0, .inr (.inr (some v0))), (1, .inr (.inl v1)), (3, .inl v3), (4, .inl v4)] []) : ∀ (v0 : Nat) (v1 : Int64) (v3 : Int32) (v4 : Int32) (v5 : Int32) (w : gW), mX2_countDerived_h19 F r k95 v0 v1 v3 v4 v5 w = some res → Wx X w 0 0 19 [(0, .inr (.inr (some v0))), (1, .inr (.inl v1)), (3, .inl v3), (4, .inl v4), (5, .inl v5)] [] := by
  intro v0 v1 v3 v4 v5 w h
  unfold mX2_countDerived_h19 at h
  refine Wx.run ok kX2_countDerived 12 2 (lv' := [(0, .inr (.inr (some v0))), (1, .inr (.inl v1)), (3, .inl v3), (4, .inl v4), (5, .inl v5)]) (st' := [.inr (.inr (some v0)), .inl v5]) (pc' := 22) rfl ?_
  refine Wx.getI ok kX2_countDerived 14 rfl lk_RX2_30_0 h (fun t22 h => ?_)
  refine Wx.icmp_ge ok kX2_countDerived 15 (tgt := 95) rfl (by decide) h (fun hc25 h => ?_) (fun hc25 h => ?_)
  · refine Wx.sub [0, 1, 2, 3] rfl ?_
    exact hk95 _ _ _ _ _ h
  · refine Wx.run ok kX2_countDerived 16 5 (lv' := [(0, .inr (.inr (some v0))), (1, .inr (.inl v1)), (3, .inl v3), (4, .inl v4), (5, .inl v5)]) (st' := [.inl v5, .inl v4, .inr (.inr (some v0)), .inr (.inr (some v0)), .inr (.inr (some v0))]) (pc' := 35) rfl ?_
    obtain ⟨a35, ha35, h⟩ := gob h
    obtain ⟨q35, hq35, h⟩ := gob h
    refine Wx.callV ok kX2_countDerived 21 rfl lm_RX2_45 cd_X2_mul ha35 [.inl v4, .inl v5] (some (.inl q35.1)) (aX2_mul _ _ hq35) (by decide) rfl (Nat.le_of_ble_eq_true rfl) rfl rfl ?_
    refine Wx.run ok kX2_countDerived 22 1 (lv' := [(0, .inr (.inr (some v0))), (1, .inr (.inl v1)), (3, .inl v3), (4, .inl v4), (5, .inl v5)]) (st' := [.inr (.inr (some v0)), .inl q35.1, .inr (.inr (some v0)), .inr (.inr (some v0))]) (pc' := 39) rfl ?_
    refine Wx.getR ok kX2_countDerived 23 rfl lk_RX2_21_0 h (fun t39 h => ?_)
    refine Wx.run ok kX2_countDerived 24 1 (lv' := [(0, .inr (.inr (some v0))), (1, .inr (.inl v1)), (3, .inl v3), (4, .inl v4), (5, .inl v5)]) (st' := [.inl v4, .inr (.inr t39), .inl q35.1, .inr (.inr (some v0)), .inr (.inr (some v0))]) (pc' := 44) rfl ?_
    refine Wx.iald ok kX2_countDerived 25 rfl h (fun t44 h => ?_)
    obtain ⟨a45, ha45, h⟩ := gob h
    obtain ⟨q45, hq45, h⟩ := gob h
    refine Wx.callV ok kX2_countDerived 26 rfl lm_RX2_45 cd_X2_mul ha45 [.inl q35.1, .inl t44] (some (.inl q45.1)) (aX2_mul _ _ hq45) (by decide) rfl (Nat.le_of_ble_eq_true rfl) rfl rfl ?_
    refine Wx.run ok kX2_countDerived 27 1 (lv' := [(0, .inr (.inr (some v0))), (1, .inr (.inl v1)), (3, .inl v3), (4, .inl v4), (5, .inl v5)]) (st' := [.inr (.inr (some v0)), .inl q45.1, .inr (.inr (some v0))]) (pc' := 49) rfl ?_
    refine Wx.getR ok kX2_countDerived 28 rfl lk_RX2_21_0 h (fun t49 h => ?_)
    refine Wx.run ok kX2_countDerived 29 1 (lv' := [(0, .inr (.inr (some v0))), (1, .inr (.inl v1)), (3, .inl v3), (4, .inl v4), (5, .inl v5)]) (st' := [.inl v5, .inr (.inr t49), .inl q45.1, .inr (.inr (some v0))]) (pc' := 54) rfl ?_
    refine Wx.iald ok kX2_countDerived 30 rfl h (fun t54 h => ?_)
    obtain ⟨a55, ha55, h⟩ := gob h
    obtain ⟨q55, hq55, h⟩ := gob h
    refine Wx.callV ok kX2_countDerived 31 rfl lm_RX2_45 cd_X2_mul ha55 [.inl q45.1, .inl t54] (some (.inl q55.1)) (aX2_mul _ _ hq55) (by decide) rfl (Nat.le_of_ble_eq_true rfl) rfl rfl ?_
    refine Wx.run ok kX2_countDerived 32 8 (lv' := [(6, .inl q55.1), (0, .inr (.inr (some v0))), (1, .inr (.inl v1)), (3, .inl v3), (4, .inl v4), (5, .inl v5)]) (st' := [.inl (lg_cmp ((v1 >>> ((q55.1).toInt64 &&& 63)) &&& (1 : Int64)) (0 : Int64))]) (pc' := 68) rfl ?_
    refine Wx.if_ne ok kX2_countDerived 40 (tgt := 89) rfl (by decide) h (fun hc68 h => ?_) (fun hc68 h => ?_)
    · refine Wx.run ok kX2_countDerived 41 7 (lv' := [(1, .inr (.inl (v1 ||| ((1 : Int64) <<< ((q55.1).toInt64 &&& 63))))), (6, .inl q55.1), (0, .inr (.inr (some v0))), (3, .inl v3), (4, .inl v4), (5, .inl v5)]) (st' := [.inr (.inr (some v0))]) (pc' := 79) rfl ?_
      refine Wx.getR ok kX2_countDerived 48 rfl lk_RX2_18_0 h (fun t79 h => ?_)
      refine Wx.run ok kX2_countDerived 49 2 (lv' := [(1, .inr (.inl (v1 ||| ((1 : Int64) <<< ((q55.1).toInt64 &&& 63))))), (6, .inl q55.1), (0, .inr (.inr (some v0))), (3, .inl v3), (4, .inl v4), (5, .inl v5)]) (st' := [.inl q55.1, .inl v3, .inr (.inr t79)]) (pc' := 85) rfl ?_
      refine Wx.iast ok kX2_countDerived 51 rfl h (fun w85 h => ?_)
      refine Wx.run ok kX2_countDerived 52 1 (lv' := [(3, .inl (v3 + (1 : Int32))), (1, .inr (.inl (v1 ||| ((1 : Int64) <<< ((q55.1).toInt64 &&& 63))))), (6, .inl q55.1), (0, .inr (.inr (some v0))), (4, .inl v4), (5, .inl v5)]) (st' := []) (pc' := 89) rfl ?_
      refine Wx.sub [3, 1, 0, 4, 5] rfl ?_
      exact aX2_countDerived_b89 ok hres (F := F) r k95 hr hk95 _ _ _ _ _ _ h
    · refine Wx.sub [1, 2, 3, 4, 5] rfl ?_
      exact aX2_countDerived_b89 ok hres (F := F) r k95 hr hk95 _ _ _ _ _ _ h
set_option maxRecDepth 100000 in
set_option maxHeartbeats 4000000 in
theorem aX2_countDerived_l19 {X : gX} (ok : gOk X cX2_countDerived RX2 7 (some .int) rmX2_countDerived) {res : Int32 × gW} (hres : gRs X (some (.int res.1)) res.2) {F : Nat} (k95 : Nat → Int64 → Int32 → Int32 → gW → Option (Int32 × gW)) (hk95 : ∀ (v0 : Nat) (v1 : Int64) (v3 : Int32) (v4 : Int32) (w : gW), k95 v0 v1 v3 v4 w = some res → Wx X w 0 0 95 [(0, .inr (.inr (some v0))), (1, .inr (.inl v1)), (3, .inl v3), (4, .inl v4)] []) : ∀ (n : Nat) (v0 : Nat) (v1 : Int64) (v3 : Int32) (v4 : Int32) (v5 : Int32) (w : gW), mX2_countDerived_l19 F k95 n v0 v1 v3 v4 v5 w = some res → Wx X w 0 0 19 [(0, .inr (.inr (some v0))), (1, .inr (.inl v1)), (3, .inl v3), (4, .inl v4), (5, .inl v5)] [] := by
  intro n
  induction n with
  | zero => intro v0 v1 v3 v4 v5 w h; cases (show (none : Option (Int32 × gW)) = some res from h)
  | succ n ih =>
    intro v0 v1 v3 v4 v5 w h
    exact aX2_countDerived_h19 ok hres (F := F) (mX2_countDerived_l19 F k95 n) k95 ih hk95 v0 v1 v3 v4 v5 w h
set_option maxRecDepth 100000 in
set_option maxHeartbeats 4000000 in
theorem aX2_countDerived_h7 {X : gX} (ok : gOk X cX2_countDerived RX2 7 (some .int) rmX2_countDerived) {res : Int32 × gW} (hres : gRs X (some (.int res.1)) res.2) {F : Nat} (r : Nat → Int64 → Int32 → Int32 → gW → Option (Int32 × gW)) (k101 : Nat → Int32 → gW → Option (Int32 × gW)) (hr : ∀ (v0 : Nat) (v1 : Int64) (v3 : Int32) (v4 : Int32) (w : gW), r v0 v1 v3 v4 w = some res → Wx X w 0 0 7 [(0, .inr (.inr (some v0))), (1, .inr (.inl v1)), (3, .inl v3), (4, .inl v4)] []) (hk101 : ∀ (v0 : Nat) (v3 : Int32) (w : gW), k101 v0 v3 w = some res → Wx X w 0 0 101 [(0, .inr (.inr (some v0))), (3, .inl v3)] []) : ∀ (v0 : Nat) (v1 : Int64) (v3 : Int32) (v4 : Int32) (w : gW), mX2_countDerived_h7 F r k101 v0 v1 v3 v4 w = some res → Wx X w 0 0 7 [(0, .inr (.inr (some v0))), (1, .inr (.inl v1)), (3, .inl v3), (4, .inl v4)] [] := by
  intro v0 v1 v3 v4 w h
  unfold mX2_countDerived_h7 at h
  refine Wx.run ok kX2_countDerived 6 2 (lv' := [(0, .inr (.inr (some v0))), (1, .inr (.inl v1)), (3, .inl v3), (4, .inl v4)]) (st' := [.inr (.inr (some v0)), .inl v4]) (pc' := 10) rfl ?_
  refine Wx.getI ok kX2_countDerived 8 rfl lk_RX2_30_0 h (fun t10 h => ?_)
  refine Wx.icmp_ge ok kX2_countDerived 9 (tgt := 101) rfl (by decide) h (fun hc13 h => ?_) (fun hc13 h => ?_)
  · refine Wx.sub [0, 2] rfl ?_
    exact hk101 _ _ _ h
  · refine Wx.run ok kX2_countDerived 10 2 (lv' := [(5, .inl (0 : Int32)), (0, .inr (.inr (some v0))), (1, .inr (.inl v1)), (3, .inl v3), (4, .inl v4)]) (st' := []) (pc' := 19) rfl ?_
    refine Wx.sub [1, 2, 3, 4, 0] rfl ?_
    refine aX2_countDerived_l19 ok hres (F := F) _ ?_ F _ _ _ _ _ _ h
    · intro v0 v1 v3 v4 w h
      refine Wx.run ok kX2_countDerived 55 1 (lv' := [(4, .inl (v4 + (1 : Int32))), (0, .inr (.inr (some v0))), (1, .inr (.inl v1)), (3, .inl v3)]) (st' := []) (pc' := 98) rfl ?_
      refine Wx.jump ok kX2_countDerived 56 (tgt := 7) rfl (by decide) ?_
      refine Wx.sub [1, 2, 3, 0] rfl ?_
      exact hr _ _ _ _ _ h
set_option maxRecDepth 100000 in
set_option maxHeartbeats 4000000 in
theorem aX2_countDerived_l7 {X : gX} (ok : gOk X cX2_countDerived RX2 7 (some .int) rmX2_countDerived) {res : Int32 × gW} (hres : gRs X (some (.int res.1)) res.2) {F : Nat} (k101 : Nat → Int32 → gW → Option (Int32 × gW)) (hk101 : ∀ (v0 : Nat) (v3 : Int32) (w : gW), k101 v0 v3 w = some res → Wx X w 0 0 101 [(0, .inr (.inr (some v0))), (3, .inl v3)] []) : ∀ (n : Nat) (v0 : Nat) (v1 : Int64) (v3 : Int32) (v4 : Int32) (w : gW), mX2_countDerived_l7 F k101 n v0 v1 v3 v4 w = some res → Wx X w 0 0 7 [(0, .inr (.inr (some v0))), (1, .inr (.inl v1)), (3, .inl v3), (4, .inl v4)] [] := by
  intro n
  induction n with
  | zero => intro v0 v1 v3 v4 w h; cases (show (none : Option (Int32 × gW)) = some res from h)
  | succ n ih =>
    intro v0 v1 v3 v4 w h
    exact aX2_countDerived_h7 ok hres (F := F) (mX2_countDerived_l7 F k101 n) k101 ih hk101 v0 v1 v3 v4 w h
set_option maxRecDepth 100000 in
set_option maxHeartbeats 4000000 in
theorem aX2_countDerived (l : Launch) (G : gG) {F : Nat} {v0 : Nat} {w : gW} {res : Int32 × gW} (h : mX2_countDerived F v0 w = some res) : gM l yX2_countDerived cX2_countDerived 7 (some .int) rmX2_countDerived G w (gTs [.inr (.inr (some v0))]) (some (.int res.1)) res.2 := by
  refine gM_of (y := yX2_countDerived) (by decide +kernel) (Nat.le_of_ble_eq_true rfl) ?_
  intro X ok hl hG hres hnm
  subst hl; subst hG
  unfold mX2_countDerived at h
  show Wx X w 0 0 0 [(0, .inr (.inr (some v0)))] []
  refine Wx.run ok kX2_countDerived 0 6 (lv' := [(4, .inl (0 : Int32)), (3, .inl (0 : Int32)), (1, .inr (.inl (0 : Int64))), (0, .inr (.inr (some v0)))]) (st' := []) (pc' := 7) rfl ?_
  refine Wx.sub [3, 2, 1, 0] rfl ?_
  refine aX2_countDerived_l7 ok hres (F := F) _ ?_ F _ _ _ _ _ h
  · intro v0 v3 w h
    refine Wx.run ok kX2_countDerived 57 2 (lv' := [(0, .inr (.inr (some v0))), (3, .inl v3)]) (st' := [.inr (.inr (some v0)), .inr (.inr (some v0))]) (pc' := 103) rfl ?_
    refine Wx.getR ok kX2_countDerived 59 rfl lk_RX2_18_0 h (fun t103 h => ?_)
    refine Wx.run ok kX2_countDerived 60 1 (lv' := [(0, .inr (.inr (some v0))), (3, .inl v3)]) (st' := [.inl v3, .inr (.inr t103), .inr (.inr (some v0))]) (pc' := 107) rfl ?_
    obtain ⟨a107, ha107, h⟩ := gob h
    obtain ⟨q107, hq107, h⟩ := gob h
    refine Wx.callV ok kX2_countDerived 61 rfl lm_RX2_110 cd_X2_span ha107 [.inr (.inr t103), .inl v3] (some (.inr (.inl q107.1))) (aX2_span _ _ hq107) (by decide) rfl (Nat.le_of_ble_eq_true rfl) rfl rfl ?_
    obtain ⟨q110, hq110, h⟩ := gob h
    refine Wx.callS ok kX2_countDerived 62 rfl lm_RX2_114 cd_J13_bitCount_95d88 [.inr (.inl q107.1)] (some (.inl q110.1)) (aJ13_bitCount_95d88 _ _ hq110) (by decide) rfl (Nat.le_of_ble_eq_true rfl) rfl rfl ?_
    exact Wx.ireturn ok kX2_countDerived 63 rfl hres h (by decide)
set_option maxRecDepth 100000 in
set_option maxHeartbeats 4000000 in
theorem aX2_countMade (l : Launch) (G : gG) {F : Nat} {v0 : Nat} {v1 : Int32} {v2 : Int32} {w : gW} {res : Int32 × gW} (h : mX2_countMade F v0 v1 v2 w = some res) : gM l yX2_countMade cX2_countMade 3 (some .int) rmX2_countMade G w (gTs [.inr (.inr (some v0)), .inl v1, .inl v2]) (some (.int res.1)) res.2 := by
  refine gM_of (y := yX2_countMade) (by decide +kernel) (Nat.le_of_ble_eq_true rfl) ?_
  intro X ok hl hG hres hnm
  subst hl; subst hG
  unfold mX2_countMade at h
  show Wx X w 0 0 0 [(0, .inr (.inr (some v0))), (1, .inl v1), (2, .inl v2)] []
  refine Wx.run ok kX2_countMade 0 1 (lv' := [(0, .inr (.inr (some v0))), (1, .inl v1), (2, .inl v2)]) (st' := [.inr (.inr (some v0))]) (pc' := 1) rfl ?_
  refine Wx.getR ok kX2_countMade 1 rfl lk_RX2_18_0 h (fun t1 h => ?_)
  refine Wx.run ok kX2_countMade 2 2 (lv' := [(0, .inr (.inr (some v0))), (1, .inl v1), (2, .inl v2)]) (st' := [.inl v1, .inl (0 : Int32), .inr (.inr t1)]) (pc' := 6) rfl ?_
  refine Wx.iast ok kX2_countMade 4 rfl h (fun w6 h => ?_)
  refine Wx.run ok kX2_countMade 5 1 (lv' := [(0, .inr (.inr (some v0))), (1, .inl v1), (2, .inl v2)]) (st' := [.inr (.inr (some v0))]) (pc' := 8) rfl ?_
  refine Wx.getR ok kX2_countMade 6 rfl lk_RX2_18_0 h (fun t8 h => ?_)
  refine Wx.run ok kX2_countMade 7 2 (lv' := [(0, .inr (.inr (some v0))), (1, .inl v1), (2, .inl v2)]) (st' := [.inl v2, .inl (1 : Int32), .inr (.inr t8)]) (pc' := 13) rfl ?_
  refine Wx.iast ok kX2_countMade 9 rfl h (fun w13 h => ?_)
  refine Wx.run ok kX2_countMade 10 2 (lv' := [(0, .inr (.inr (some v0))), (1, .inl v1), (2, .inl v2)]) (st' := [.inr (.inr (some v0)), .inr (.inr (some v0))]) (pc' := 16) rfl ?_
  refine Wx.getR ok kX2_countMade 12 rfl lk_RX2_18_0 h (fun t16 h => ?_)
  refine Wx.run ok kX2_countMade 13 1 (lv' := [(0, .inr (.inr (some v0))), (1, .inl v1), (2, .inl v2)]) (st' := [.inl (2 : Int32), .inr (.inr t16), .inr (.inr (some v0))]) (pc' := 20) rfl ?_
  obtain ⟨a20, ha20, h⟩ := gob h
  obtain ⟨q20, hq20, h⟩ := gob h
  refine Wx.callV ok kX2_countMade 14 rfl lm_RX2_110 cd_X2_span ha20 [.inr (.inr t16), .inl (2 : Int32)] (some (.inr (.inl q20.1))) (aX2_span _ _ hq20) (by decide) rfl (Nat.le_of_ble_eq_true rfl) rfl rfl ?_
  obtain ⟨q23, hq23, h⟩ := gob h
  refine Wx.callS ok kX2_countMade 15 rfl lm_RX2_114 cd_J13_bitCount_95d88 [.inr (.inl q20.1)] (some (.inl q23.1)) (aJ13_bitCount_95d88 _ _ hq23) (by decide) rfl (Nat.le_of_ble_eq_true rfl) rfl rfl ?_
  exact Wx.ireturn ok kX2_countMade 16 rfl hres h (by decide)
set_option maxRecDepth 100000 in
set_option maxHeartbeats 4000000 in
theorem aX2_countTurnClasses_b24 {X : gX} (ok : gOk X cX2_countTurnClasses RX2 3 (some .int) rmX2_countTurnClasses) {res : Int32 × gW} (hres : gRs X (some (.int res.1)) res.2) {F : Nat} (r : Nat → Int32 → Int32 → gW → Option (Int32 × gW)) (hr : ∀ (v0 : Nat) (v1 : Int32) (v2 : Int32) (w : gW), r v0 v1 v2 w = some res → Wx X w 0 0 4 [(0, .inr (.inr (some v0))), (1, .inl v1), (2, .inl v2)] []) : ∀ (v0 : Nat) (v1 : Int32) (v2 : Int32) (w : gW), mX2_countTurnClasses_b24 F r v0 v1 v2 w = some res → Wx X w 0 0 24 [(0, .inr (.inr (some v0))), (1, .inl v1), (2, .inl v2)] [] := by
  intro v0 v1 v2 w h
  unfold mX2_countTurnClasses_b24 at h
  refine Wx.run ok kX2_countTurnClasses 14 1 (lv' := [(2, .inl (v2 + (1 : Int32))), (0, .inr (.inr (some v0))), (1, .inl v1)]) (st' := []) (pc' := 27) rfl ?_
  refine Wx.jump ok kX2_countTurnClasses 15 (tgt := 4) rfl (by decide) ?_
  refine Wx.sub [1, 2, 0] rfl ?_
  exact hr _ _ _ _ h
set_option maxRecDepth 100000 in
set_option maxHeartbeats 4000000 in
theorem aX2_countTurnClasses_h4 {X : gX} (ok : gOk X cX2_countTurnClasses RX2 3 (some .int) rmX2_countTurnClasses) {res : Int32 × gW} (hres : gRs X (some (.int res.1)) res.2) {F : Nat} (r : Nat → Int32 → Int32 → gW → Option (Int32 × gW)) (hr : ∀ (v0 : Nat) (v1 : Int32) (v2 : Int32) (w : gW), r v0 v1 v2 w = some res → Wx X w 0 0 4 [(0, .inr (.inr (some v0))), (1, .inl v1), (2, .inl v2)] []) : ∀ (v0 : Nat) (v1 : Int32) (v2 : Int32) (w : gW), mX2_countTurnClasses_h4 F r v0 v1 v2 w = some res → Wx X w 0 0 4 [(0, .inr (.inr (some v0))), (1, .inl v1), (2, .inl v2)] [] := by
  intro v0 v1 v2 w h
  unfold mX2_countTurnClasses_h4 at h
  refine Wx.run ok kX2_countTurnClasses 4 2 (lv' := [(0, .inr (.inr (some v0))), (1, .inl v1), (2, .inl v2)]) (st' := [.inr (.inr (some v0)), .inl v2]) (pc' := 6) rfl ?_
  refine Wx.getI ok kX2_countTurnClasses 6 rfl lk_RX2_30_0 h (fun t6 h => ?_)
  refine Wx.icmp_ge ok kX2_countTurnClasses 7 (tgt := 30) rfl (by decide) h (fun hc9 h => ?_) (fun hc9 h => ?_)
  · refine Wx.run ok kX2_countTurnClasses 16 1 (lv' := [(0, .inr (.inr (some v0))), (1, .inl v1), (2, .inl v2)]) (st' := [.inl v1]) (pc' := 31) rfl ?_
    exact Wx.ireturn ok kX2_countTurnClasses 17 rfl hres h (by decide)
  · refine Wx.run ok kX2_countTurnClasses 8 2 (lv' := [(0, .inr (.inr (some v0))), (1, .inl v1), (2, .inl v2)]) (st' := [.inl v2, .inr (.inr (some v0))]) (pc' := 14) rfl ?_
    obtain ⟨a14, ha14, h⟩ := gob h
    obtain ⟨q14, hq14, h⟩ := gob h
    refine Wx.callV ok kX2_countTurnClasses 10 rfl lm_RX2_107 cd_X2_leastTurned ha14 [.inl v2] (some (.inl q14.1)) (aX2_leastTurned _ _ hq14) (by decide) rfl (Nat.le_of_ble_eq_true rfl) rfl rfl ?_
    refine Wx.run ok kX2_countTurnClasses 11 1 (lv' := [(0, .inr (.inr (some v0))), (1, .inl v1), (2, .inl v2)]) (st' := [.inl v2, .inl q14.1]) (pc' := 18) rfl ?_
    refine Wx.icmp_ne ok kX2_countTurnClasses 12 (tgt := 24) rfl (by decide) h (fun hc18 h => ?_) (fun hc18 h => ?_)
    · refine Wx.run ok kX2_countTurnClasses 13 1 (lv' := [(1, .inl (v1 + (1 : Int32))), (0, .inr (.inr (some v0))), (2, .inl v2)]) (st' := []) (pc' := 24) rfl ?_
      refine Wx.sub [1, 0, 2] rfl ?_
      exact aX2_countTurnClasses_b24 ok hres (F := F) r hr _ _ _ _ h
    · exact aX2_countTurnClasses_b24 ok hres (F := F) r hr _ _ _ _ h
set_option maxRecDepth 100000 in
set_option maxHeartbeats 4000000 in
theorem aX2_countTurnClasses_l4 {X : gX} (ok : gOk X cX2_countTurnClasses RX2 3 (some .int) rmX2_countTurnClasses) {res : Int32 × gW} (hres : gRs X (some (.int res.1)) res.2) {F : Nat} : ∀ (n : Nat) (v0 : Nat) (v1 : Int32) (v2 : Int32) (w : gW), mX2_countTurnClasses_l4 F n v0 v1 v2 w = some res → Wx X w 0 0 4 [(0, .inr (.inr (some v0))), (1, .inl v1), (2, .inl v2)] [] := by
  intro n
  induction n with
  | zero => intro v0 v1 v2 w h; cases (show (none : Option (Int32 × gW)) = some res from h)
  | succ n ih =>
    intro v0 v1 v2 w h
    exact aX2_countTurnClasses_h4 ok hres (F := F) (mX2_countTurnClasses_l4 F n) ih v0 v1 v2 w h
set_option maxRecDepth 100000 in
set_option maxHeartbeats 4000000 in
theorem aX2_countTurnClasses (l : Launch) (G : gG) {F : Nat} {v0 : Nat} {w : gW} {res : Int32 × gW} (h : mX2_countTurnClasses F v0 w = some res) : gM l yX2_countTurnClasses cX2_countTurnClasses 3 (some .int) rmX2_countTurnClasses G w (gTs [.inr (.inr (some v0))]) (some (.int res.1)) res.2 := by
  refine gM_of (y := yX2_countTurnClasses) (by decide +kernel) (Nat.le_of_ble_eq_true rfl) ?_
  intro X ok hl hG hres hnm
  subst hl; subst hG
  unfold mX2_countTurnClasses at h
  show Wx X w 0 0 0 [(0, .inr (.inr (some v0)))] []
  refine Wx.run ok kX2_countTurnClasses 0 4 (lv' := [(2, .inl (0 : Int32)), (1, .inl (0 : Int32)), (0, .inr (.inr (some v0)))]) (st' := []) (pc' := 4) rfl ?_
  refine Wx.sub [2, 1, 0] rfl ?_
  refine aX2_countTurnClasses_l4 ok hres (F := F) F _ _ _ _ h
set_option maxRecDepth 100000 in
set_option maxHeartbeats 4000000 in
theorem aX2_extendMakers_b10 {d : Nat} {X : gX} (ok : gOk X cX2_extendMakers RX2 11 (some .boolean) (rmX2_extendMakers (d + 1))) {res : Int32 × gW} (hres : gRs X (some (.int res.1)) res.2) {F : Nat} (self : (Option Nat) → Int32 → Int32 → Int64 → gW → Option (Int32 × gW)) (hself : ∀ {v0 : Option Nat} {v1 : Int32} {v2 : Int32} {v3 : Int64} {w : gW} {q : Int32 × gW} (h : self v0 v1 v2 v3 w = some q), gM X.1.2.1 yX2_extendMakers cX2_extendMakers 11 (some .boolean) (rmX2_extendMakers d) X.2.1 w (gTs [.inr (.inr v0), .inl v1, .inl v2, .inr (.inl v3)]) (some (.int q.1)) q.2) : ∀ (v0 : Option Nat) (v3 : Int64) (w : gW), mX2_extendMakers_b10 F self v0 v3 w = some res → Wx X w 0 0 10 [(0, .inr (.inr v0)), (3, .inr (.inl v3))] [] := by
  intro v0 v3 w h
  unfold mX2_extendMakers_b10 at h
  refine Wx.run ok kX2_extendMakers 6 1 (lv' := [(0, .inr (.inr v0)), (3, .inr (.inl v3))]) (st' := [.inr (.inl v3)]) (pc' := 11) rfl ?_
  obtain ⟨q11, hq11, h⟩ := gob h
  refine Wx.callS ok kX2_extendMakers 7 rfl lm_RX2_114 cd_J13_bitCount_95d88 [.inr (.inl v3)] (some (.inl q11.1)) (aJ13_bitCount_95d88 _ _ hq11) (by refine ⟨?_, ?_, ?_, ?_⟩ <;> simp only [rmJ13_bitCount_95d88, rmX2_extendMakers] <;> omega) rfl (Nat.le_of_ble_eq_true rfl) rfl rfl ?_
  refine Wx.run ok kX2_extendMakers 8 1 (lv' := [(0, .inr (.inr v0)), (3, .inr (.inl v3))]) (st' := [.inr (.inr v0), .inl q11.1]) (pc' := 15) rfl ?_
  refine Wx.getI ok kX2_extendMakers 9 rfl lk_RX2_30_0 h (fun t15 h => ?_)
  refine Wx.icmp_ne ok kX2_extendMakers 10 (tgt := 25) rfl (by decide) h (fun hc18 h => ?_) (fun hc18 h => ?_)
  · refine Wx.run ok kX2_extendMakers 11 1 (lv' := [(0, .inr (.inr v0)), (3, .inr (.inl v3))]) (st' := [.inl (1 : Int32)]) (pc' := 22) rfl ?_
    refine Wx.jump ok kX2_extendMakers 12 (tgt := 26) rfl (by decide) ?_
    exact Wx.zreturn ok kX2_extendMakers 14 rfl gNz1 hres h (by constructor <;> simp only [rmX2_extendMakers] <;> omega)
  · refine Wx.run ok kX2_extendMakers 13 1 (lv' := [(0, .inr (.inr v0)), (3, .inr (.inl v3))]) (st' := [.inl (0 : Int32)]) (pc' := 26) rfl ?_
    exact Wx.zreturn ok kX2_extendMakers 14 rfl gNz0 hres h (by constructor <;> simp only [rmX2_extendMakers] <;> omega)
set_option maxRecDepth 100000 in
set_option maxHeartbeats 4000000 in
theorem aX2_extendMakers_b118 {d : Nat} {X : gX} (ok : gOk X cX2_extendMakers RX2 11 (some .boolean) (rmX2_extendMakers (d + 1))) {res : Int32 × gW} (hres : gRs X (some (.int res.1)) res.2) {F : Nat} (self : (Option Nat) → Int32 → Int32 → Int64 → gW → Option (Int32 × gW)) (r : (Option Nat) → Int32 → Int32 → Int64 → Int32 → gW → Option (Int32 × gW)) (hself : ∀ {v0 : Option Nat} {v1 : Int32} {v2 : Int32} {v3 : Int64} {w : gW} {q : Int32 × gW} (h : self v0 v1 v2 v3 w = some q), gM X.1.2.1 yX2_extendMakers cX2_extendMakers 11 (some .boolean) (rmX2_extendMakers d) X.2.1 w (gTs [.inr (.inr v0), .inl v1, .inl v2, .inr (.inl v3)]) (some (.int q.1)) q.2) (hr : ∀ (v0 : Option Nat) (v1 : Int32) (v2 : Int32) (v5 : Int64) (v8 : Int32) (w : gW), r v0 v1 v2 v5 v8 w = some res → Wx X w 0 0 54 [(0, .inr (.inr v0)), (1, .inl v1), (2, .inl v2), (5, .inr (.inl v5)), (8, .inl v8)] []) : ∀ (v0 : Option Nat) (v1 : Int32) (v2 : Int32) (v5 : Int64) (v8 : Int32) (w : gW), mX2_extendMakers_b118 F self r v0 v1 v2 v5 v8 w = some res → Wx X w 0 0 118 [(0, .inr (.inr v0)), (1, .inl v1), (2, .inl v2), (5, .inr (.inl v5)), (8, .inl v8)] [] := by
  intro v0 v1 v2 v5 v8 w h
  unfold mX2_extendMakers_b118 at h
  refine Wx.run ok kX2_extendMakers 71 1 (lv' := [(8, .inl (v8 + (1 : Int32))), (0, .inr (.inr v0)), (1, .inl v1), (2, .inl v2), (5, .inr (.inl v5))]) (st' := []) (pc' := 121) rfl ?_
  refine Wx.jump ok kX2_extendMakers 72 (tgt := 54) rfl (by decide) ?_
  refine Wx.sub [1, 2, 3, 4, 0] rfl ?_
  exact hr _ _ _ _ _ _ h
set_option maxRecDepth 100000 in
set_option maxHeartbeats 4000000 in
theorem aX2_extendMakers_h54 {d : Nat} {X : gX} (ok : gOk X cX2_extendMakers RX2 11 (some .boolean) (rmX2_extendMakers (d + 1))) {res : Int32 × gW} (hres : gRs X (some (.int res.1)) res.2) {F : Nat} (self : (Option Nat) → Int32 → Int32 → Int64 → gW → Option (Int32 × gW)) (r : (Option Nat) → Int32 → Int32 → Int64 → Int32 → gW → Option (Int32 × gW)) (hself : ∀ {v0 : Option Nat} {v1 : Int32} {v2 : Int32} {v3 : Int64} {w : gW} {q : Int32 × gW} (h : self v0 v1 v2 v3 w = some q), gM X.1.2.1 yX2_extendMakers cX2_extendMakers 11 (some .boolean) (rmX2_extendMakers d) X.2.1 w (gTs [.inr (.inr v0), .inl v1, .inl v2, .inr (.inl v3)]) (some (.int q.1)) q.2) (hr : ∀ (v0 : Option Nat) (v1 : Int32) (v2 : Int32) (v5 : Int64) (v8 : Int32) (w : gW), r v0 v1 v2 v5 v8 w = some res → Wx X w 0 0 54 [(0, .inr (.inr v0)), (1, .inl v1), (2, .inl v2), (5, .inr (.inl v5)), (8, .inl v8)] []) : ∀ (v0 : Option Nat) (v1 : Int32) (v2 : Int32) (v5 : Int64) (v8 : Int32) (w : gW), mX2_extendMakers_h54 F self r v0 v1 v2 v5 v8 w = some res → Wx X w 0 0 54 [(0, .inr (.inr v0)), (1, .inl v1), (2, .inl v2), (5, .inr (.inl v5)), (8, .inl v8)] [] := by
  intro v0 v1 v2 v5 v8 w h
  unfold mX2_extendMakers_h54 at h
  refine Wx.run ok kX2_extendMakers 32 2 (lv' := [(0, .inr (.inr v0)), (1, .inl v1), (2, .inl v2), (5, .inr (.inl v5)), (8, .inl v8)]) (st' := [.inr (.inr v0), .inl v8]) (pc' := 57) rfl ?_
  refine Wx.getI ok kX2_extendMakers 34 rfl lk_RX2_30_0 h (fun t57 h => ?_)
  refine Wx.icmp_ge ok kX2_extendMakers 35 (tgt := 124) rfl (by decide) h (fun hc60 h => ?_) (fun hc60 h => ?_)
  · refine Wx.run ok kX2_extendMakers 73 1 (lv' := [(0, .inr (.inr v0)), (1, .inl v1), (2, .inl v2), (5, .inr (.inl v5)), (8, .inl v8)]) (st' := [.inl (0 : Int32)]) (pc' := 125) rfl ?_
    exact Wx.zreturn ok kX2_extendMakers 74 rfl gNz0 hres h (by constructor <;> simp only [rmX2_extendMakers] <;> omega)
  · refine Wx.run ok kX2_extendMakers 36 7 (lv' := [(0, .inr (.inr v0)), (1, .inl v1), (2, .inl v2), (5, .inr (.inl v5)), (8, .inl v8)]) (st' := [.inl (lg_cmp ((v5 >>> ((v8).toInt64 &&& 63)) &&& (1 : Int64)) (0 : Int64))]) (pc' := 72) rfl ?_
    refine Wx.if_ne ok kX2_extendMakers 43 (tgt := 118) rfl (by decide) h (fun hc72 h => ?_) (fun hc72 h => ?_)
    · refine Wx.run ok kX2_extendMakers 44 1 (lv' := [(0, .inr (.inr v0)), (1, .inl v1), (2, .inl v2), (5, .inr (.inl v5)), (8, .inl v8)]) (st' := [.inr (.inr v0)]) (pc' := 76) rfl ?_
      refine Wx.getR ok kX2_extendMakers 45 rfl lk_RX2_27_0 h (fun t76 h => ?_)
      refine Wx.run ok kX2_extendMakers 46 2 (lv' := [(0, .inr (.inr v0)), (1, .inl v1), (2, .inl v2), (5, .inr (.inl v5)), (8, .inl v8)]) (st' := [.inl v8, .inl v2, .inr (.inr t76)]) (pc' := 82) rfl ?_
      refine Wx.iast ok kX2_extendMakers 48 rfl h (fun w82 h => ?_)
      refine Wx.run ok kX2_extendMakers 49 2 (lv' := [(0, .inr (.inr v0)), (1, .inl v1), (2, .inl v2), (5, .inr (.inl v5)), (8, .inl v8)]) (st' := [.inr (.inr v0), .inr (.inr v0)]) (pc' := 85) rfl ?_
      refine Wx.getR ok kX2_extendMakers 51 rfl lk_RX2_27_0 h (fun t85 h => ?_)
      refine Wx.run ok kX2_extendMakers 52 3 (lv' := [(0, .inr (.inr v0)), (1, .inl v1), (2, .inl v2), (5, .inr (.inl v5)), (8, .inl v8)]) (st' := [.inl (v2 + (1 : Int32)), .inr (.inr t85), .inr (.inr v0)]) (pc' := 91) rfl ?_
      obtain ⟨a91, ha91, h⟩ := gob h
      obtain ⟨q91, hq91, h⟩ := gob h
      refine Wx.callV ok kX2_extendMakers 55 rfl lm_RX2_110 cd_X2_span ha91 [.inr (.inr t85), .inl (v2 + (1 : Int32))] (some (.inr (.inl q91.1))) (aX2_span _ _ hq91) (by refine ⟨?_, ?_, ?_, ?_⟩ <;> simp only [rmX2_span, rmX2_extendMakers] <;> omega) rfl (Nat.le_of_ble_eq_true rfl) rfl rfl ?_
      refine Wx.run ok kX2_extendMakers 56 7 (lv' := [(9, .inr (.inl q91.1)), (0, .inr (.inr v0)), (1, .inl v1), (2, .inl v2), (5, .inr (.inl v5)), (8, .inl v8)]) (st' := [.inr (.inl q91.1), .inl (v2 + (1 : Int32)), .inl v1, .inr (.inr v0)]) (pc' := 103) rfl ?_
      obtain ⟨q103, hq103, h⟩ := gob h
      refine Wx.callS ok kX2_extendMakers 63 rfl lm_RX2_123 cd_X2_extendMakers [.inr (.inr v0), .inl v1, .inl (v2 + (1 : Int32)), .inr (.inl q91.1)] (some (.inl q103.1)) (hself hq103) (by refine ⟨?_, ?_, ?_, ?_⟩ <;> simp only [rmX2_extendMakers, rmX2_extendMakers] <;> omega) rfl (Nat.le_of_ble_eq_true rfl) rfl rfl ?_
      refine Wx.if_eq ok kX2_extendMakers 64 (tgt := 111) rfl (by decide) h (fun hc106 h => ?_) (fun hc106 h => ?_)
      · refine Wx.run ok kX2_extendMakers 67 4 (lv' := [(5, .inr (.inl (v5 ||| q91.1))), (9, .inr (.inl q91.1)), (0, .inr (.inr v0)), (1, .inl v1), (2, .inl v2), (8, .inl v8)]) (st' := []) (pc' := 118) rfl ?_
        refine Wx.sub [2, 3, 4, 0, 5] rfl ?_
        exact aX2_extendMakers_b118 ok hres (F := F) self r hself hr _ _ _ _ _ _ h
      · refine Wx.run ok kX2_extendMakers 65 1 (lv' := [(9, .inr (.inl q91.1)), (0, .inr (.inr v0)), (1, .inl v1), (2, .inl v2), (5, .inr (.inl v5)), (8, .inl v8)]) (st' := [.inl (1 : Int32)]) (pc' := 110) rfl ?_
        exact Wx.zreturn ok kX2_extendMakers 66 rfl gNz1 hres h (by constructor <;> simp only [rmX2_extendMakers] <;> omega)
    · exact aX2_extendMakers_b118 ok hres (F := F) self r hself hr _ _ _ _ _ _ h
set_option maxRecDepth 100000 in
set_option maxHeartbeats 4000000 in
theorem aX2_extendMakers_l54 {d : Nat} {X : gX} (ok : gOk X cX2_extendMakers RX2 11 (some .boolean) (rmX2_extendMakers (d + 1))) {res : Int32 × gW} (hres : gRs X (some (.int res.1)) res.2) {F : Nat} (self : (Option Nat) → Int32 → Int32 → Int64 → gW → Option (Int32 × gW)) (hself : ∀ {v0 : Option Nat} {v1 : Int32} {v2 : Int32} {v3 : Int64} {w : gW} {q : Int32 × gW} (h : self v0 v1 v2 v3 w = some q), gM X.1.2.1 yX2_extendMakers cX2_extendMakers 11 (some .boolean) (rmX2_extendMakers d) X.2.1 w (gTs [.inr (.inr v0), .inl v1, .inl v2, .inr (.inl v3)]) (some (.int q.1)) q.2) : ∀ (n : Nat) (v0 : Option Nat) (v1 : Int32) (v2 : Int32) (v5 : Int64) (v8 : Int32) (w : gW), mX2_extendMakers_l54 F self n v0 v1 v2 v5 v8 w = some res → Wx X w 0 0 54 [(0, .inr (.inr v0)), (1, .inl v1), (2, .inl v2), (5, .inr (.inl v5)), (8, .inl v8)] [] := by
  intro n
  induction n with
  | zero => intro v0 v1 v2 v5 v8 w h; cases (show (none : Option (Int32 × gW)) = some res from h)
  | succ n ih =>
    intro v0 v1 v2 v5 v8 w h
    exact aX2_extendMakers_h54 ok hres (F := F) self (mX2_extendMakers_l54 F self n) hself ih v0 v1 v2 v5 v8 w h
set_option maxRecDepth 100000 in
set_option maxHeartbeats 4000000 in
theorem aX2_extendMakers_b48 {d : Nat} {X : gX} (ok : gOk X cX2_extendMakers RX2 11 (some .boolean) (rmX2_extendMakers (d + 1))) {res : Int32 × gW} (hres : gRs X (some (.int res.1)) res.2) {F : Nat} (self : (Option Nat) → Int32 → Int32 → Int64 → gW → Option (Int32 × gW)) (hself : ∀ {v0 : Option Nat} {v1 : Int32} {v2 : Int32} {v3 : Int64} {w : gW} {q : Int32 × gW} (h : self v0 v1 v2 v3 w = some q), gM X.1.2.1 yX2_extendMakers cX2_extendMakers 11 (some .boolean) (rmX2_extendMakers d) X.2.1 w (gTs [.inr (.inr v0), .inl v1, .inl v2, .inr (.inl v3)]) (some (.int q.1)) q.2) : ∀ (v0 : Option Nat) (v1 : Int32) (v2 : Int32) (v5 : Int64) (s0 : Int32) (w : gW), mX2_extendMakers_b48 F self v0 v1 v2 v5 s0 w = some res → Wx X w 0 0 48 [(0, .inr (.inr v0)), (1, .inl v1), (2, .inl v2), (5, .inr (.inl v5))] [.inl s0] := by
  intro v0 v1 v2 v5 s0 w h
  unfold mX2_extendMakers_b48 at h
  refine Wx.run ok kX2_extendMakers 29 3 (lv' := [(8, .inl s0), (7, .inl s0), (0, .inr (.inr v0)), (1, .inl v1), (2, .inl v2), (5, .inr (.inl v5))]) (st' := []) (pc' := 54) rfl ?_
  refine Wx.sub [2, 3, 4, 5, 0] rfl ?_
  refine aX2_extendMakers_l54 ok hres (F := F) self hself F _ _ _ _ _ _ h
set_option maxRecDepth 100000 in
set_option maxHeartbeats 4000000 in
theorem aX2_extendMakers (l : Launch) (G : gG) {F : Nat} : ∀ (d : Nat) {v0 : Option Nat} {v1 : Int32} {v2 : Int32} {v3 : Int64} {w : gW} {res : Int32 × gW} (h : mX2_extendMakers F d v0 v1 v2 v3 w = some res), gM l yX2_extendMakers cX2_extendMakers 11 (some .boolean) (rmX2_extendMakers d) G w (gTs [.inr (.inr v0), .inl v1, .inl v2, .inr (.inl v3)]) (some (.int res.1)) res.2 := by
  intro d
  induction d with
  | zero => intro v0 v1 v2 v3 w res h; cases (show (none : Option (Int32 × gW)) = some res from h)
  | succ d ihd =>
    intro v0 v1 v2 v3 w res h
    refine gM_of (y := yX2_extendMakers) (by decide +kernel) (Nat.le_of_ble_eq_true rfl) ?_
    intro X ok hl hG hres hnm
    subst hl; subst hG
    have h : mX2_extendMakers_body F (mX2_extendMakers F d) v0 v1 v2 v3 w = some res := h
    have hself : ∀ {v0 : Option Nat} {v1 : Int32} {v2 : Int32} {v3 : Int64} {w : gW} {q : Int32 × gW} (h : mX2_extendMakers F d v0 v1 v2 v3 w = some q), gM X.1.2.1 yX2_extendMakers cX2_extendMakers 11 (some .boolean) (rmX2_extendMakers d) X.2.1 w (gTs [.inr (.inr v0), .inl v1, .inl v2, .inr (.inl v3)]) (some (.int q.1)) q.2 := fun h => ihd h
    revert hself h
    generalize mX2_extendMakers F d = self
    intro h hself
    unfold mX2_extendMakers_body at h
    show Wx X w 0 0 0 [(0, .inr (.inr v0)), (1, .inl v1), (2, .inl v2), (3, .inr (.inl v3))] []
    refine Wx.run ok kX2_extendMakers 0 2 (lv' := [(0, .inr (.inr v0)), (1, .inl v1), (2, .inl v2), (3, .inr (.inl v3))]) (st' := [.inl v1, .inl v2]) (pc' := 2) rfl ?_
    refine Wx.icmp_ge ok kX2_extendMakers 2 (tgt := 10) rfl (by decide) h (fun hc2 h => ?_) (fun hc2 h => ?_)
    · refine Wx.sub [0, 3] rfl ?_
      exact aX2_extendMakers_b10 ok hres (F := F) self hself _ _ _ h
    · refine Wx.run ok kX2_extendMakers 3 2 (lv' := [(0, .inr (.inr v0)), (1, .inl v1), (2, .inl v2), (3, .inr (.inl v3))]) (st' := [.inl (5 : Int32), .inl v2]) (pc' := 7) rfl ?_
      refine Wx.icmp_lt ok kX2_extendMakers 5 (tgt := 27) rfl (by decide) h (fun hc7 h => ?_) (fun hc7 h => ?_)
      · refine Wx.run ok kX2_extendMakers 15 3 (lv' := [(5, .inr (.inl v3)), (0, .inr (.inr v0)), (1, .inl v1), (2, .inl v2), (3, .inr (.inl v3))]) (st' := [.inl v2]) (pc' := 31) rfl ?_
        refine Wx.if_ne ok kX2_extendMakers 18 (tgt := 38) rfl (by decide) h (fun hc31 h => ?_) (fun hc31 h => ?_)
        · refine Wx.run ok kX2_extendMakers 19 1 (lv' := [(5, .inr (.inl v3)), (0, .inr (.inr v0)), (1, .inl v1), (2, .inl v2), (3, .inr (.inl v3))]) (st' := [.inl (1 : Int32)]) (pc' := 35) rfl ?_
          refine Wx.jump ok kX2_extendMakers 20 (tgt := 48) rfl (by decide) ?_
          refine Wx.sub [1, 2, 3, 0] rfl ?_
          exact aX2_extendMakers_b48 ok hres (F := F) self hself _ _ _ _ _ _ h
        · refine Wx.run ok kX2_extendMakers 21 1 (lv' := [(5, .inr (.inl v3)), (0, .inr (.inr v0)), (1, .inl v1), (2, .inl v2), (3, .inr (.inl v3))]) (st' := [.inr (.inr v0)]) (pc' := 39) rfl ?_
          refine Wx.getR ok kX2_extendMakers 22 rfl lk_RX2_27_0 h (fun t39 h => ?_)
          refine Wx.run ok kX2_extendMakers 23 3 (lv' := [(5, .inr (.inl v3)), (0, .inr (.inr v0)), (1, .inl v1), (2, .inl v2), (3, .inr (.inl v3))]) (st' := [.inl (v2 - (1 : Int32)), .inr (.inr t39)]) (pc' := 45) rfl ?_
          refine Wx.iald ok kX2_extendMakers 26 rfl h (fun t45 h => ?_)
          refine Wx.run ok kX2_extendMakers 27 2 (lv' := [(5, .inr (.inl v3)), (0, .inr (.inr v0)), (1, .inl v1), (2, .inl v2), (3, .inr (.inl v3))]) (st' := [.inl (t45 + (1 : Int32))]) (pc' := 48) rfl ?_
          refine Wx.sub [1, 2, 3, 0] rfl ?_
          exact aX2_extendMakers_b48 ok hres (F := F) self hself _ _ _ _ _ _ h
      · refine Wx.sub [0, 3] rfl ?_
        exact aX2_extendMakers_b10 ok hres (F := F) self hself _ _ _ h
set_option maxRecDepth 100000 in
set_option maxHeartbeats 4000000 in
theorem aX2_fillTurns_h14 {X : gX} (ok : gOk X cX2_fillTurns RX2 4 none rmX2_fillTurns) {res : gW} (hres : gRs X none res) {F : Nat} (r : Nat → Int32 → Int32 → Int32 → gW → Option (gW)) (k38 : Nat → Int32 → Int32 → gW → Option (gW)) (hr : ∀ (v0 : Nat) (v1 : Int32) (v2 : Int32) (v3 : Int32) (w : gW), r v0 v1 v2 v3 w = some res → Wx X w 0 0 14 [(0, .inr (.inr (some v0))), (1, .inl v1), (2, .inl v2), (3, .inl v3)] []) (hk38 : ∀ (v0 : Nat) (v1 : Int32) (v2 : Int32) (w : gW), k38 v0 v1 v2 w = some res → Wx X w 0 0 38 [(0, .inr (.inr (some v0))), (1, .inl v1), (2, .inl v2)] []) : ∀ (v0 : Nat) (v1 : Int32) (v2 : Int32) (v3 : Int32) (w : gW), mX2_fillTurns_h14 F r k38 v0 v1 v2 v3 w = some res → Wx X w 0 0 14 [(0, .inr (.inr (some v0))), (1, .inl v1), (2, .inl v2), (3, .inl v3)] [] := by
  intro v0 v1 v2 v3 w h
  unfold mX2_fillTurns_h14 at h
  refine Wx.run ok kX2_fillTurns 10 2 (lv' := [(0, .inr (.inr (some v0))), (1, .inl v1), (2, .inl v2), (3, .inl v3)]) (st' := [.inl v1, .inl v3]) (pc' := 16) rfl ?_
  refine Wx.icmp_ge ok kX2_fillTurns 12 (tgt := 38) rfl (by decide) h (fun hc16 h => ?_) (fun hc16 h => ?_)
  · refine Wx.sub [0, 1, 2] rfl ?_
    exact hk38 _ _ _ _ h
  · refine Wx.run ok kX2_fillTurns 13 7 (lv' := [(0, .inr (.inr (some v0))), (1, .inl v1), (2, .inl v2), (3, .inl v3)]) (st' := [.inl v1, .inl (v2 + v3), .inl v3, .inl v2, .inr (.inr (some v0))]) (pc' := 26) rfl ?_
    obtain ⟨q26, hq26, h⟩ := gob h
    refine Wx.callSN ok kX2_fillTurns 20 rfl lm_RX2_34 cd_X6_mod [.inl (v2 + v3), .inl v1] (some (.inl q26.1)) (aX6_mod _ _ hq26) (by decide) rfl (Nat.le_of_ble_eq_true rfl) rfl rfl ?_
    obtain ⟨a29, ha29, h⟩ := gob h
    obtain ⟨q29, hq29, h⟩ := gob h
    refine Wx.callV ok kX2_fillTurns 21 rfl lm_RX2_38 cd_X2_set ha29 [.inl v2, .inl v3, .inl q26.1] none (aX2_set _ _ hq29) (by decide) rfl (Nat.le_of_ble_eq_true rfl) rfl rfl ?_
    refine Wx.run ok kX2_fillTurns 22 1 (lv' := [(3, .inl (v3 + (1 : Int32))), (0, .inr (.inr (some v0))), (1, .inl v1), (2, .inl v2)]) (st' := []) (pc' := 35) rfl ?_
    refine Wx.jump ok kX2_fillTurns 23 (tgt := 14) rfl (by decide) ?_
    refine Wx.sub [1, 2, 3, 0] rfl ?_
    exact hr _ _ _ _ _ h
set_option maxRecDepth 100000 in
set_option maxHeartbeats 4000000 in
theorem aX2_fillTurns_l14 {X : gX} (ok : gOk X cX2_fillTurns RX2 4 none rmX2_fillTurns) {res : gW} (hres : gRs X none res) {F : Nat} (k38 : Nat → Int32 → Int32 → gW → Option (gW)) (hk38 : ∀ (v0 : Nat) (v1 : Int32) (v2 : Int32) (w : gW), k38 v0 v1 v2 w = some res → Wx X w 0 0 38 [(0, .inr (.inr (some v0))), (1, .inl v1), (2, .inl v2)] []) : ∀ (n : Nat) (v0 : Nat) (v1 : Int32) (v2 : Int32) (v3 : Int32) (w : gW), mX2_fillTurns_l14 F k38 n v0 v1 v2 v3 w = some res → Wx X w 0 0 14 [(0, .inr (.inr (some v0))), (1, .inl v1), (2, .inl v2), (3, .inl v3)] [] := by
  intro n
  induction n with
  | zero => intro v0 v1 v2 v3 w h; cases (show (none : Option (gW)) = some res from h)
  | succ n ih =>
    intro v0 v1 v2 v3 w h
    exact aX2_fillTurns_h14 ok hres (F := F) (mX2_fillTurns_l14 F k38 n) k38 ih hk38 v0 v1 v2 v3 w h
set_option maxRecDepth 100000 in
set_option maxHeartbeats 4000000 in
theorem aX2_fillTurns_h7 {X : gX} (ok : gOk X cX2_fillTurns RX2 4 none rmX2_fillTurns) {res : gW} (hres : gRs X none res) {F : Nat} (r : Nat → Int32 → Int32 → gW → Option (gW)) (hr : ∀ (v0 : Nat) (v1 : Int32) (v2 : Int32) (w : gW), r v0 v1 v2 w = some res → Wx X w 0 0 7 [(0, .inr (.inr (some v0))), (1, .inl v1), (2, .inl v2)] []) : ∀ (v0 : Nat) (v1 : Int32) (v2 : Int32) (w : gW), mX2_fillTurns_h7 F r v0 v1 v2 w = some res → Wx X w 0 0 7 [(0, .inr (.inr (some v0))), (1, .inl v1), (2, .inl v2)] [] := by
  intro v0 v1 v2 w h
  unfold mX2_fillTurns_h7 at h
  refine Wx.run ok kX2_fillTurns 5 2 (lv' := [(0, .inr (.inr (some v0))), (1, .inl v1), (2, .inl v2)]) (st' := [.inl v1, .inl v2]) (pc' := 9) rfl ?_
  refine Wx.icmp_ge ok kX2_fillTurns 7 (tgt := 44) rfl (by decide) h (fun hc9 h => ?_) (fun hc9 h => ?_)
  · exact Wx.vreturn ok kX2_fillTurns 26 rfl hres h (by decide)
  · refine Wx.run ok kX2_fillTurns 8 2 (lv' := [(3, .inl (0 : Int32)), (0, .inr (.inr (some v0))), (1, .inl v1), (2, .inl v2)]) (st' := []) (pc' := 14) rfl ?_
    refine Wx.sub [1, 2, 3, 0] rfl ?_
    refine aX2_fillTurns_l14 ok hres (F := F) _ ?_ F _ _ _ _ _ h
    · intro v0 v1 v2 w h
      refine Wx.run ok kX2_fillTurns 24 1 (lv' := [(2, .inl (v2 + (1 : Int32))), (0, .inr (.inr (some v0))), (1, .inl v1)]) (st' := []) (pc' := 41) rfl ?_
      refine Wx.jump ok kX2_fillTurns 25 (tgt := 7) rfl (by decide) ?_
      refine Wx.sub [1, 2, 0] rfl ?_
      exact hr _ _ _ _ h
set_option maxRecDepth 100000 in
set_option maxHeartbeats 4000000 in
theorem aX2_fillTurns_l7 {X : gX} (ok : gOk X cX2_fillTurns RX2 4 none rmX2_fillTurns) {res : gW} (hres : gRs X none res) {F : Nat} : ∀ (n : Nat) (v0 : Nat) (v1 : Int32) (v2 : Int32) (w : gW), mX2_fillTurns_l7 F n v0 v1 v2 w = some res → Wx X w 0 0 7 [(0, .inr (.inr (some v0))), (1, .inl v1), (2, .inl v2)] [] := by
  intro n
  induction n with
  | zero => intro v0 v1 v2 w h; cases (show (none : Option (gW)) = some res from h)
  | succ n ih =>
    intro v0 v1 v2 w h
    exact aX2_fillTurns_h7 ok hres (F := F) (mX2_fillTurns_l7 F n) ih v0 v1 v2 w h
set_option maxRecDepth 100000 in
set_option maxHeartbeats 4000000 in
theorem aX2_fillTurns (l : Launch) (G : gG) {F : Nat} {v0 : Nat} {v1 : Int32} {w : gW} {res : gW} (h : mX2_fillTurns F v0 v1 w = some res) : gM l yX2_fillTurns cX2_fillTurns 4 none rmX2_fillTurns G w (gTs [.inr (.inr (some v0)), .inl v1]) none res := by
  refine gM_of (y := yX2_fillTurns) (by decide +kernel) (Nat.le_of_ble_eq_true rfl) ?_
  intro X ok hl hG hres hnm
  subst hl; subst hG
  unfold mX2_fillTurns at h
  show Wx X w 0 0 0 [(0, .inr (.inr (some v0))), (1, .inl v1)] []
  refine Wx.run ok kX2_fillTurns 0 2 (lv' := [(0, .inr (.inr (some v0))), (1, .inl v1)]) (st' := [.inl v1, .inr (.inr (some v0))]) (pc' := 2) rfl ?_
  refine Wx.put ok kX2_fillTurns 2 rfl lk_RX2_30_1 (gFit_i _) h (fun w2 h => ?_)
  refine Wx.run ok kX2_fillTurns 3 2 (lv' := [(2, .inl (0 : Int32)), (0, .inr (.inr (some v0))), (1, .inl v1)]) (st' := []) (pc' := 7) rfl ?_
  refine Wx.sub [1, 2, 0] rfl ?_
  refine aX2_fillTurns_l7 ok hres (F := F) F _ _ _ _ h
set_option maxRecDepth 100000 in
set_option maxHeartbeats 4000000 in
theorem aX2_fillTurnsAndFlips_b92 {X : gX} (ok : gOk X cX2_fillTurnsAndFlips RX2 6 none rmX2_fillTurnsAndFlips) {res : gW} (hres : gRs X none res) {F : Nat} (r : Nat → Int32 → Int32 → Int32 → gW → Option (gW)) (k102 : Nat → Int32 → Int32 → gW → Option (gW)) (hr : ∀ (v0 : Nat) (v1 : Int32) (v2 : Int32) (v3 : Int32) (w : gW), r v0 v1 v2 v3 w = some res → Wx X w 0 0 19 [(0, .inr (.inr (some v0))), (1, .inl v1), (2, .inl v2), (3, .inl v3)] []) (hk102 : ∀ (v0 : Nat) (v1 : Int32) (v2 : Int32) (w : gW), k102 v0 v1 v2 w = some res → Wx X w 0 0 102 [(0, .inr (.inr (some v0))), (1, .inl v1), (2, .inl v2)] []) : ∀ (v0 : Nat) (v1 : Int32) (v2 : Int32) (v3 : Int32) (s0 : Option Nat) (s1 : Int32) (s2 : Int32) (s3 : Int32) (s4 : Int32) (w : gW), mX2_fillTurnsAndFlips_b92 F r k102 v0 v1 v2 v3 s0 s1 s2 s3 s4 w = some res → Wx X w 0 0 92 [(0, .inr (.inr (some v0))), (1, .inl v1), (2, .inl v2), (3, .inl v3)] [.inl s4, .inl s3, .inl s2, .inl s1, .inr (.inr s0)] := by
  intro v0 v1 v2 v3 s0 s1 s2 s3 s4 w h
  unfold mX2_fillTurnsAndFlips_b92 at h
  refine Wx.run ok kX2_fillTurnsAndFlips 56 1 (lv' := [(0, .inr (.inr (some v0))), (1, .inl v1), (2, .inl v2), (3, .inl v3)]) (st' := [.inl (s3 + s4), .inl s2, .inl s1, .inr (.inr s0)]) (pc' := 93) rfl ?_
  obtain ⟨a93, ha93, h⟩ := gob h
  obtain ⟨q93, hq93, h⟩ := gob h
  refine Wx.callV ok kX2_fillTurnsAndFlips 57 rfl lm_RX2_38 cd_X2_set ha93 [.inl s1, .inl s2, .inl (s3 + s4)] none (aX2_set _ _ hq93) (by decide) rfl (Nat.le_of_ble_eq_true rfl) rfl rfl ?_
  refine Wx.run ok kX2_fillTurnsAndFlips 58 1 (lv' := [(3, .inl (v3 + (1 : Int32))), (0, .inr (.inr (some v0))), (1, .inl v1), (2, .inl v2)]) (st' := []) (pc' := 99) rfl ?_
  refine Wx.jump ok kX2_fillTurnsAndFlips 59 (tgt := 19) rfl (by decide) ?_
  refine Wx.sub [1, 2, 3, 0] rfl ?_
  exact hr _ _ _ _ _ h
set_option maxRecDepth 100000 in
set_option maxHeartbeats 4000000 in
theorem aX2_fillTurnsAndFlips_b71 {X : gX} (ok : gOk X cX2_fillTurnsAndFlips RX2 6 none rmX2_fillTurnsAndFlips) {res : gW} (hres : gRs X none res) {F : Nat} (r : Nat → Int32 → Int32 → Int32 → gW → Option (gW)) (k102 : Nat → Int32 → Int32 → gW → Option (gW)) (hr : ∀ (v0 : Nat) (v1 : Int32) (v2 : Int32) (v3 : Int32) (w : gW), r v0 v1 v2 v3 w = some res → Wx X w 0 0 19 [(0, .inr (.inr (some v0))), (1, .inl v1), (2, .inl v2), (3, .inl v3)] []) (hk102 : ∀ (v0 : Nat) (v1 : Int32) (v2 : Int32) (w : gW), k102 v0 v1 v2 w = some res → Wx X w 0 0 102 [(0, .inr (.inr (some v0))), (1, .inl v1), (2, .inl v2)] []) : ∀ (v0 : Nat) (v1 : Int32) (v2 : Int32) (v3 : Int32) (v4 : Int32) (s0 : Int32) (w : gW), mX2_fillTurnsAndFlips_b71 F r k102 v0 v1 v2 v3 v4 s0 w = some res → Wx X w 0 0 71 [(0, .inr (.inr (some v0))), (1, .inl v1), (2, .inl v2), (3, .inl v3), (4, .inl v4)] [.inl s0] := by
  intro v0 v1 v2 v3 v4 s0 w h
  unfold mX2_fillTurnsAndFlips_b71 at h
  refine Wx.run ok kX2_fillTurnsAndFlips 44 6 (lv' := [(5, .inl s0), (0, .inr (.inr (some v0))), (1, .inl v1), (2, .inl v2), (3, .inl v3), (4, .inl v4)]) (st' := [.inl v1, .inl v4, .inl v3, .inl v2, .inr (.inr (some v0))]) (pc' := 79) rfl ?_
  obtain ⟨q79, hq79, h⟩ := gob h
  refine Wx.callSN ok kX2_fillTurnsAndFlips 50 rfl lm_RX2_34 cd_X6_mod [.inl v4, .inl v1] (some (.inl q79.1)) (aX6_mod _ _ hq79) (by decide) rfl (Nat.le_of_ble_eq_true rfl) rfl rfl ?_
  refine Wx.run ok kX2_fillTurnsAndFlips 51 1 (lv' := [(5, .inl s0), (0, .inr (.inr (some v0))), (1, .inl v1), (2, .inl v2), (3, .inl v3), (4, .inl v4)]) (st' := [.inl s0, .inl q79.1, .inl v3, .inl v2, .inr (.inr (some v0))]) (pc' := 84) rfl ?_
  refine Wx.if_eq ok kX2_fillTurnsAndFlips 52 (tgt := 91) rfl (by decide) h (fun hc84 h => ?_) (fun hc84 h => ?_)
  · refine Wx.run ok kX2_fillTurnsAndFlips 55 1 (lv' := [(5, .inl s0), (0, .inr (.inr (some v0))), (1, .inl v1), (2, .inl v2), (3, .inl v3), (4, .inl v4)]) (st' := [.inl (0 : Int32), .inl q79.1, .inl v3, .inl v2, .inr (.inr (some v0))]) (pc' := 92) rfl ?_
    refine Wx.sub [1, 2, 3, 4] rfl ?_
    exact aX2_fillTurnsAndFlips_b92 ok hres (F := F) r k102 hr hk102 _ _ _ _ _ _ _ _ _ _ h
  · refine Wx.run ok kX2_fillTurnsAndFlips 53 1 (lv' := [(5, .inl s0), (0, .inr (.inr (some v0))), (1, .inl v1), (2, .inl v2), (3, .inl v3), (4, .inl v4)]) (st' := [.inl v1, .inl q79.1, .inl v3, .inl v2, .inr (.inr (some v0))]) (pc' := 88) rfl ?_
    refine Wx.jump ok kX2_fillTurnsAndFlips 54 (tgt := 92) rfl (by decide) ?_
    refine Wx.sub [1, 2, 3, 4] rfl ?_
    exact aX2_fillTurnsAndFlips_b92 ok hres (F := F) r k102 hr hk102 _ _ _ _ _ _ _ _ _ _ h
set_option maxRecDepth 100000 in
set_option maxHeartbeats 4000000 in
theorem aX2_fillTurnsAndFlips_b63 {X : gX} (ok : gOk X cX2_fillTurnsAndFlips RX2 6 none rmX2_fillTurnsAndFlips) {res : gW} (hres : gRs X none res) {F : Nat} (r : Nat → Int32 → Int32 → Int32 → gW → Option (gW)) (k102 : Nat → Int32 → Int32 → gW → Option (gW)) (hr : ∀ (v0 : Nat) (v1 : Int32) (v2 : Int32) (v3 : Int32) (w : gW), r v0 v1 v2 v3 w = some res → Wx X w 0 0 19 [(0, .inr (.inr (some v0))), (1, .inl v1), (2, .inl v2), (3, .inl v3)] []) (hk102 : ∀ (v0 : Nat) (v1 : Int32) (v2 : Int32) (w : gW), k102 v0 v1 v2 w = some res → Wx X w 0 0 102 [(0, .inr (.inr (some v0))), (1, .inl v1), (2, .inl v2)] []) : ∀ (v0 : Nat) (v1 : Int32) (v2 : Int32) (v3 : Int32) (v4 : Int32) (s0 : Int32) (s1 : Int32) (w : gW), mX2_fillTurnsAndFlips_b63 F r k102 v0 v1 v2 v3 v4 s0 s1 w = some res → Wx X w 0 0 63 [(0, .inr (.inr (some v0))), (1, .inl v1), (2, .inl v2), (3, .inl v3), (4, .inl v4)] [.inl s1, .inl s0] := by
  intro v0 v1 v2 v3 v4 s0 s1 w h
  unfold mX2_fillTurnsAndFlips_b63 at h
  refine Wx.icmp_eq ok kX2_fillTurnsAndFlips 40 (tgt := 70) rfl (by decide) h (fun hc63 h => ?_) (fun hc63 h => ?_)
  · refine Wx.run ok kX2_fillTurnsAndFlips 43 1 (lv' := [(0, .inr (.inr (some v0))), (1, .inl v1), (2, .inl v2), (3, .inl v3), (4, .inl v4)]) (st' := [.inl (0 : Int32)]) (pc' := 71) rfl ?_
    exact aX2_fillTurnsAndFlips_b71 ok hres (F := F) r k102 hr hk102 _ _ _ _ _ _ _ h
  · refine Wx.run ok kX2_fillTurnsAndFlips 41 1 (lv' := [(0, .inr (.inr (some v0))), (1, .inl v1), (2, .inl v2), (3, .inl v3), (4, .inl v4)]) (st' := [.inl (1 : Int32)]) (pc' := 67) rfl ?_
    refine Wx.jump ok kX2_fillTurnsAndFlips 42 (tgt := 71) rfl (by decide) ?_
    exact aX2_fillTurnsAndFlips_b71 ok hres (F := F) r k102 hr hk102 _ _ _ _ _ _ _ h
set_option maxRecDepth 100000 in
set_option maxHeartbeats 4000000 in
theorem aX2_fillTurnsAndFlips_b53 {X : gX} (ok : gOk X cX2_fillTurnsAndFlips RX2 6 none rmX2_fillTurnsAndFlips) {res : gW} (hres : gRs X none res) {F : Nat} (r : Nat → Int32 → Int32 → Int32 → gW → Option (gW)) (k102 : Nat → Int32 → Int32 → gW → Option (gW)) (hr : ∀ (v0 : Nat) (v1 : Int32) (v2 : Int32) (v3 : Int32) (w : gW), r v0 v1 v2 v3 w = some res → Wx X w 0 0 19 [(0, .inr (.inr (some v0))), (1, .inl v1), (2, .inl v2), (3, .inl v3)] []) (hk102 : ∀ (v0 : Nat) (v1 : Int32) (v2 : Int32) (w : gW), k102 v0 v1 v2 w = some res → Wx X w 0 0 102 [(0, .inr (.inr (some v0))), (1, .inl v1), (2, .inl v2)] []) : ∀ (v0 : Nat) (v1 : Int32) (v2 : Int32) (v3 : Int32) (v4 : Int32) (s0 : Int32) (w : gW), mX2_fillTurnsAndFlips_b53 F r k102 v0 v1 v2 v3 v4 s0 w = some res → Wx X w 0 0 53 [(0, .inr (.inr (some v0))), (1, .inl v1), (2, .inl v2), (3, .inl v3), (4, .inl v4)] [.inl s0] := by
  intro v0 v1 v2 v3 v4 s0 w h
  unfold mX2_fillTurnsAndFlips_b53 at h
  refine Wx.run ok kX2_fillTurnsAndFlips 34 2 (lv' := [(0, .inr (.inr (some v0))), (1, .inl v1), (2, .inl v2), (3, .inl v3), (4, .inl v4)]) (st' := [.inl v1, .inl v3, .inl s0]) (pc' := 55) rfl ?_
  refine Wx.icmp_ge ok kX2_fillTurnsAndFlips 36 (tgt := 62) rfl (by decide) h (fun hc55 h => ?_) (fun hc55 h => ?_)
  · refine Wx.run ok kX2_fillTurnsAndFlips 39 1 (lv' := [(0, .inr (.inr (some v0))), (1, .inl v1), (2, .inl v2), (3, .inl v3), (4, .inl v4)]) (st' := [.inl (0 : Int32), .inl s0]) (pc' := 63) rfl ?_
    exact aX2_fillTurnsAndFlips_b63 ok hres (F := F) r k102 hr hk102 _ _ _ _ _ _ _ _ h
  · refine Wx.run ok kX2_fillTurnsAndFlips 37 1 (lv' := [(0, .inr (.inr (some v0))), (1, .inl v1), (2, .inl v2), (3, .inl v3), (4, .inl v4)]) (st' := [.inl (1 : Int32), .inl s0]) (pc' := 59) rfl ?_
    refine Wx.jump ok kX2_fillTurnsAndFlips 38 (tgt := 63) rfl (by decide) ?_
    exact aX2_fillTurnsAndFlips_b63 ok hres (F := F) r k102 hr hk102 _ _ _ _ _ _ _ _ h
set_option maxRecDepth 100000 in
set_option maxHeartbeats 4000000 in
theorem aX2_fillTurnsAndFlips_b41 {X : gX} (ok : gOk X cX2_fillTurnsAndFlips RX2 6 none rmX2_fillTurnsAndFlips) {res : gW} (hres : gRs X none res) {F : Nat} (r : Nat → Int32 → Int32 → Int32 → gW → Option (gW)) (k102 : Nat → Int32 → Int32 → gW → Option (gW)) (hr : ∀ (v0 : Nat) (v1 : Int32) (v2 : Int32) (v3 : Int32) (w : gW), r v0 v1 v2 v3 w = some res → Wx X w 0 0 19 [(0, .inr (.inr (some v0))), (1, .inl v1), (2, .inl v2), (3, .inl v3)] []) (hk102 : ∀ (v0 : Nat) (v1 : Int32) (v2 : Int32) (w : gW), k102 v0 v1 v2 w = some res → Wx X w 0 0 102 [(0, .inr (.inr (some v0))), (1, .inl v1), (2, .inl v2)] []) : ∀ (v0 : Nat) (v1 : Int32) (v2 : Int32) (v3 : Int32) (s0 : Int32) (w : gW), mX2_fillTurnsAndFlips_b41 F r k102 v0 v1 v2 v3 s0 w = some res → Wx X w 0 0 41 [(0, .inr (.inr (some v0))), (1, .inl v1), (2, .inl v2), (3, .inl v3)] [.inl s0] := by
  intro v0 v1 v2 v3 s0 w h
  unfold mX2_fillTurnsAndFlips_b41 at h
  refine Wx.run ok kX2_fillTurnsAndFlips 27 3 (lv' := [(4, .inl s0), (0, .inr (.inr (some v0))), (1, .inl v1), (2, .inl v2), (3, .inl v3)]) (st' := [.inl v1, .inl v2]) (pc' := 45) rfl ?_
  refine Wx.icmp_ge ok kX2_fillTurnsAndFlips 30 (tgt := 52) rfl (by decide) h (fun hc45 h => ?_) (fun hc45 h => ?_)
  · refine Wx.run ok kX2_fillTurnsAndFlips 33 1 (lv' := [(4, .inl s0), (0, .inr (.inr (some v0))), (1, .inl v1), (2, .inl v2), (3, .inl v3)]) (st' := [.inl (0 : Int32)]) (pc' := 53) rfl ?_
    refine Wx.sub [1, 2, 3, 4, 0] rfl ?_
    exact aX2_fillTurnsAndFlips_b53 ok hres (F := F) r k102 hr hk102 _ _ _ _ _ _ _ h
  · refine Wx.run ok kX2_fillTurnsAndFlips 31 1 (lv' := [(4, .inl s0), (0, .inr (.inr (some v0))), (1, .inl v1), (2, .inl v2), (3, .inl v3)]) (st' := [.inl (1 : Int32)]) (pc' := 49) rfl ?_
    refine Wx.jump ok kX2_fillTurnsAndFlips 32 (tgt := 53) rfl (by decide) ?_
    refine Wx.sub [1, 2, 3, 4, 0] rfl ?_
    exact aX2_fillTurnsAndFlips_b53 ok hres (F := F) r k102 hr hk102 _ _ _ _ _ _ _ h
set_option maxRecDepth 100000 in
set_option maxHeartbeats 4000000 in
theorem aX2_fillTurnsAndFlips_h19 {X : gX} (ok : gOk X cX2_fillTurnsAndFlips RX2 6 none rmX2_fillTurnsAndFlips) {res : gW} (hres : gRs X none res) {F : Nat} (r : Nat → Int32 → Int32 → Int32 → gW → Option (gW)) (k102 : Nat → Int32 → Int32 → gW → Option (gW)) (hr : ∀ (v0 : Nat) (v1 : Int32) (v2 : Int32) (v3 : Int32) (w : gW), r v0 v1 v2 v3 w = some res → Wx X w 0 0 19 [(0, .inr (.inr (some v0))), (1, .inl v1), (2, .inl v2), (3, .inl v3)] []) (hk102 : ∀ (v0 : Nat) (v1 : Int32) (v2 : Int32) (w : gW), k102 v0 v1 v2 w = some res → Wx X w 0 0 102 [(0, .inr (.inr (some v0))), (1, .inl v1), (2, .inl v2)] []) : ∀ (v0 : Nat) (v1 : Int32) (v2 : Int32) (v3 : Int32) (w : gW), mX2_fillTurnsAndFlips_h19 F r k102 v0 v1 v2 v3 w = some res → Wx X w 0 0 19 [(0, .inr (.inr (some v0))), (1, .inl v1), (2, .inl v2), (3, .inl v3)] [] := by
  intro v0 v1 v2 v3 w h
  unfold mX2_fillTurnsAndFlips_h19 at h
  refine Wx.run ok kX2_fillTurnsAndFlips 13 2 (lv' := [(0, .inr (.inr (some v0))), (1, .inl v1), (2, .inl v2), (3, .inl v3)]) (st' := [.inr (.inr (some v0)), .inl v3]) (pc' := 21) rfl ?_
  refine Wx.getI ok kX2_fillTurnsAndFlips 15 rfl lk_RX2_30_0 h (fun t21 h => ?_)
  refine Wx.icmp_ge ok kX2_fillTurnsAndFlips 16 (tgt := 102) rfl (by decide) h (fun hc24 h => ?_) (fun hc24 h => ?_)
  · refine Wx.sub [0, 1, 2] rfl ?_
    exact hk102 _ _ _ _ h
  · refine Wx.run ok kX2_fillTurnsAndFlips 17 2 (lv' := [(0, .inr (.inr (some v0))), (1, .inl v1), (2, .inl v2), (3, .inl v3)]) (st' := [.inl v1, .inl v2]) (pc' := 29) rfl ?_
    refine Wx.icmp_ge ok kX2_fillTurnsAndFlips 19 (tgt := 38) rfl (by decide) h (fun hc29 h => ?_) (fun hc29 h => ?_)
    · refine Wx.run ok kX2_fillTurnsAndFlips 24 3 (lv' := [(0, .inr (.inr (some v0))), (1, .inl v1), (2, .inl v2), (3, .inl v3)]) (st' := [.inl (v2 - v3)]) (pc' := 41) rfl ?_
      exact aX2_fillTurnsAndFlips_b41 ok hres (F := F) r k102 hr hk102 _ _ _ _ _ _ h
    · refine Wx.run ok kX2_fillTurnsAndFlips 20 3 (lv' := [(0, .inr (.inr (some v0))), (1, .inl v1), (2, .inl v2), (3, .inl v3)]) (st' := [.inl (v2 + v3)]) (pc' := 35) rfl ?_
      refine Wx.jump ok kX2_fillTurnsAndFlips 23 (tgt := 41) rfl (by decide) ?_
      exact aX2_fillTurnsAndFlips_b41 ok hres (F := F) r k102 hr hk102 _ _ _ _ _ _ h
set_option maxRecDepth 100000 in
set_option maxHeartbeats 4000000 in
theorem aX2_fillTurnsAndFlips_l19 {X : gX} (ok : gOk X cX2_fillTurnsAndFlips RX2 6 none rmX2_fillTurnsAndFlips) {res : gW} (hres : gRs X none res) {F : Nat} (k102 : Nat → Int32 → Int32 → gW → Option (gW)) (hk102 : ∀ (v0 : Nat) (v1 : Int32) (v2 : Int32) (w : gW), k102 v0 v1 v2 w = some res → Wx X w 0 0 102 [(0, .inr (.inr (some v0))), (1, .inl v1), (2, .inl v2)] []) : ∀ (n : Nat) (v0 : Nat) (v1 : Int32) (v2 : Int32) (v3 : Int32) (w : gW), mX2_fillTurnsAndFlips_l19 F k102 n v0 v1 v2 v3 w = some res → Wx X w 0 0 19 [(0, .inr (.inr (some v0))), (1, .inl v1), (2, .inl v2), (3, .inl v3)] [] := by
  intro n
  induction n with
  | zero => intro v0 v1 v2 v3 w h; cases (show (none : Option (gW)) = some res from h)
  | succ n ih =>
    intro v0 v1 v2 v3 w h
    exact aX2_fillTurnsAndFlips_h19 ok hres (F := F) (mX2_fillTurnsAndFlips_l19 F k102 n) k102 ih hk102 v0 v1 v2 v3 w h
set_option maxRecDepth 100000 in
set_option maxHeartbeats 4000000 in
theorem aX2_fillTurnsAndFlips_h9 {X : gX} (ok : gOk X cX2_fillTurnsAndFlips RX2 6 none rmX2_fillTurnsAndFlips) {res : gW} (hres : gRs X none res) {F : Nat} (r : Nat → Int32 → Int32 → gW → Option (gW)) (hr : ∀ (v0 : Nat) (v1 : Int32) (v2 : Int32) (w : gW), r v0 v1 v2 w = some res → Wx X w 0 0 9 [(0, .inr (.inr (some v0))), (1, .inl v1), (2, .inl v2)] []) : ∀ (v0 : Nat) (v1 : Int32) (v2 : Int32) (w : gW), mX2_fillTurnsAndFlips_h9 F r v0 v1 v2 w = some res → Wx X w 0 0 9 [(0, .inr (.inr (some v0))), (1, .inl v1), (2, .inl v2)] [] := by
  intro v0 v1 v2 w h
  unfold mX2_fillTurnsAndFlips_h9 at h
  refine Wx.run ok kX2_fillTurnsAndFlips 7 2 (lv' := [(0, .inr (.inr (some v0))), (1, .inl v1), (2, .inl v2)]) (st' := [.inr (.inr (some v0)), .inl v2]) (pc' := 11) rfl ?_
  refine Wx.getI ok kX2_fillTurnsAndFlips 9 rfl lk_RX2_30_0 h (fun t11 h => ?_)
  refine Wx.icmp_ge ok kX2_fillTurnsAndFlips 10 (tgt := 108) rfl (by decide) h (fun hc14 h => ?_) (fun hc14 h => ?_)
  · exact Wx.vreturn ok kX2_fillTurnsAndFlips 62 rfl hres h (by decide)
  · refine Wx.run ok kX2_fillTurnsAndFlips 11 2 (lv' := [(3, .inl (0 : Int32)), (0, .inr (.inr (some v0))), (1, .inl v1), (2, .inl v2)]) (st' := []) (pc' := 19) rfl ?_
    refine Wx.sub [1, 2, 3, 0] rfl ?_
    refine aX2_fillTurnsAndFlips_l19 ok hres (F := F) _ ?_ F _ _ _ _ _ h
    · intro v0 v1 v2 w h
      refine Wx.run ok kX2_fillTurnsAndFlips 60 1 (lv' := [(2, .inl (v2 + (1 : Int32))), (0, .inr (.inr (some v0))), (1, .inl v1)]) (st' := []) (pc' := 105) rfl ?_
      refine Wx.jump ok kX2_fillTurnsAndFlips 61 (tgt := 9) rfl (by decide) ?_
      refine Wx.sub [1, 2, 0] rfl ?_
      exact hr _ _ _ _ h
set_option maxRecDepth 100000 in
set_option maxHeartbeats 4000000 in
theorem aX2_fillTurnsAndFlips_l9 {X : gX} (ok : gOk X cX2_fillTurnsAndFlips RX2 6 none rmX2_fillTurnsAndFlips) {res : gW} (hres : gRs X none res) {F : Nat} : ∀ (n : Nat) (v0 : Nat) (v1 : Int32) (v2 : Int32) (w : gW), mX2_fillTurnsAndFlips_l9 F n v0 v1 v2 w = some res → Wx X w 0 0 9 [(0, .inr (.inr (some v0))), (1, .inl v1), (2, .inl v2)] [] := by
  intro n
  induction n with
  | zero => intro v0 v1 v2 w h; cases (show (none : Option (gW)) = some res from h)
  | succ n ih =>
    intro v0 v1 v2 w h
    exact aX2_fillTurnsAndFlips_h9 ok hres (F := F) (mX2_fillTurnsAndFlips_l9 F n) ih v0 v1 v2 w h
set_option maxRecDepth 100000 in
set_option maxHeartbeats 4000000 in
theorem aX2_fillTurnsAndFlips (l : Launch) (G : gG) {F : Nat} {v0 : Nat} {v1 : Int32} {w : gW} {res : gW} (h : mX2_fillTurnsAndFlips F v0 v1 w = some res) : gM l yX2_fillTurnsAndFlips cX2_fillTurnsAndFlips 6 none rmX2_fillTurnsAndFlips G w (gTs [.inr (.inr (some v0)), .inl v1]) none res := by
  refine gM_of (y := yX2_fillTurnsAndFlips) (by decide +kernel) (Nat.le_of_ble_eq_true rfl) ?_
  intro X ok hl hG hres hnm
  subst hl; subst hG
  unfold mX2_fillTurnsAndFlips at h
  show Wx X w 0 0 0 [(0, .inr (.inr (some v0))), (1, .inl v1)] []
  refine Wx.run ok kX2_fillTurnsAndFlips 0 4 (lv' := [(0, .inr (.inr (some v0))), (1, .inl v1)]) (st' := [.inl ((2 : Int32) * v1), .inr (.inr (some v0))]) (pc' := 4) rfl ?_
  refine Wx.put ok kX2_fillTurnsAndFlips 4 rfl lk_RX2_30_1 (gFit_i _) h (fun w4 h => ?_)
  refine Wx.run ok kX2_fillTurnsAndFlips 5 2 (lv' := [(2, .inl (0 : Int32)), (0, .inr (.inr (some v0))), (1, .inl v1)]) (st' := []) (pc' := 9) rfl ?_
  refine Wx.sub [1, 2, 0] rfl ?_
  refine aX2_fillTurnsAndFlips_l9 ok hres (F := F) F _ _ _ _ h
set_option maxRecDepth 100000 in
set_option maxHeartbeats 4000000 in
theorem aX2_firstWithoutInverse_h2 {X : gX} (ok : gOk X cX2_firstWithoutInverse RX2 2 (some .int) rmX2_firstWithoutInverse) {res : Int32 × gW} (hres : gRs X (some (.int res.1)) res.2) {F : Nat} (r : Nat → Int32 → gW → Option (Int32 × gW)) (hr : ∀ (v0 : Nat) (v1 : Int32) (w : gW), r v0 v1 w = some res → Wx X w 0 0 2 [(0, .inr (.inr (some v0))), (1, .inl v1)] []) : ∀ (v0 : Nat) (v1 : Int32) (w : gW), mX2_firstWithoutInverse_h2 F r v0 v1 w = some res → Wx X w 0 0 2 [(0, .inr (.inr (some v0))), (1, .inl v1)] [] := by
  intro v0 v1 w h
  unfold mX2_firstWithoutInverse_h2 at h
  refine Wx.run ok kX2_firstWithoutInverse 2 2 (lv' := [(0, .inr (.inr (some v0))), (1, .inl v1)]) (st' := [.inr (.inr (some v0)), .inl v1]) (pc' := 4) rfl ?_
  refine Wx.getI ok kX2_firstWithoutInverse 4 rfl lk_RX2_30_0 h (fun t4 h => ?_)
  refine Wx.icmp_ge ok kX2_firstWithoutInverse 5 (tgt := 26) rfl (by decide) h (fun hc7 h => ?_) (fun hc7 h => ?_)
  · refine Wx.run ok kX2_firstWithoutInverse 14 1 (lv' := [(0, .inr (.inr (some v0))), (1, .inl v1)]) (st' := [.inl (-1 : Int32)]) (pc' := 27) rfl ?_
    exact Wx.ireturn ok kX2_firstWithoutInverse 15 rfl hres h (by decide)
  · refine Wx.run ok kX2_firstWithoutInverse 6 2 (lv' := [(0, .inr (.inr (some v0))), (1, .inl v1)]) (st' := [.inl v1, .inr (.inr (some v0))]) (pc' := 12) rfl ?_
    obtain ⟨a12, ha12, h⟩ := gob h
    obtain ⟨q12, hq12, h⟩ := gob h
    refine Wx.callV ok kX2_firstWithoutInverse 8 rfl lm_RX2_89 cd_X2_findInverse ha12 [.inl v1] (some (.inl q12.1)) (aX2_findInverse _ _ hq12) (by decide) rfl (Nat.le_of_ble_eq_true rfl) rfl rfl ?_
    refine Wx.if_ge ok kX2_firstWithoutInverse 9 (tgt := 20) rfl (by decide) h (fun hc15 h => ?_) (fun hc15 h => ?_)
    · refine Wx.run ok kX2_firstWithoutInverse 12 1 (lv' := [(1, .inl (v1 + (1 : Int32))), (0, .inr (.inr (some v0)))]) (st' := []) (pc' := 23) rfl ?_
      refine Wx.jump ok kX2_firstWithoutInverse 13 (tgt := 2) rfl (by decide) ?_
      refine Wx.sub [1, 0] rfl ?_
      exact hr _ _ _ h
    · refine Wx.run ok kX2_firstWithoutInverse 10 1 (lv' := [(0, .inr (.inr (some v0))), (1, .inl v1)]) (st' := [.inl v1]) (pc' := 19) rfl ?_
      exact Wx.ireturn ok kX2_firstWithoutInverse 11 rfl hres h (by decide)
set_option maxRecDepth 100000 in
set_option maxHeartbeats 4000000 in
theorem aX2_firstWithoutInverse_l2 {X : gX} (ok : gOk X cX2_firstWithoutInverse RX2 2 (some .int) rmX2_firstWithoutInverse) {res : Int32 × gW} (hres : gRs X (some (.int res.1)) res.2) {F : Nat} : ∀ (n : Nat) (v0 : Nat) (v1 : Int32) (w : gW), mX2_firstWithoutInverse_l2 F n v0 v1 w = some res → Wx X w 0 0 2 [(0, .inr (.inr (some v0))), (1, .inl v1)] [] := by
  intro n
  induction n with
  | zero => intro v0 v1 w h; cases (show (none : Option (Int32 × gW)) = some res from h)
  | succ n ih =>
    intro v0 v1 w h
    exact aX2_firstWithoutInverse_h2 ok hres (F := F) (mX2_firstWithoutInverse_l2 F n) ih v0 v1 w h
set_option maxRecDepth 100000 in
set_option maxHeartbeats 4000000 in
theorem aX2_firstWithoutInverse (l : Launch) (G : gG) {F : Nat} {v0 : Nat} {w : gW} {res : Int32 × gW} (h : mX2_firstWithoutInverse F v0 w = some res) : gM l yX2_firstWithoutInverse cX2_firstWithoutInverse 2 (some .int) rmX2_firstWithoutInverse G w (gTs [.inr (.inr (some v0))]) (some (.int res.1)) res.2 := by
  refine gM_of (y := yX2_firstWithoutInverse) (by decide +kernel) (Nat.le_of_ble_eq_true rfl) ?_
  intro X ok hl hG hres hnm
  subst hl; subst hG
  unfold mX2_firstWithoutInverse at h
  show Wx X w 0 0 0 [(0, .inr (.inr (some v0)))] []
  refine Wx.run ok kX2_firstWithoutInverse 0 2 (lv' := [(1, .inl (0 : Int32)), (0, .inr (.inr (some v0)))]) (st' := []) (pc' := 2) rfl ?_
  refine Wx.sub [1, 0] rfl ?_
  refine aX2_firstWithoutInverse_l2 ok hres (F := F) F _ _ _ h
set_option maxRecDepth 100000 in
set_option maxHeartbeats 4000000 in
theorem aX2_settle_h7 {X : gX} (ok : gOk X cX2_settle RX2 2 none rmX2_settle) {res : gW} (hres : gRs X none res) {F : Nat} (r : Nat → Int32 → gW → Option (gW)) (hr : ∀ (v0 : Nat) (v1 : Int32) (w : gW), r v0 v1 w = some res → Wx X w 0 0 7 [(0, .inr (.inr (some v0))), (1, .inl v1)] []) : ∀ (v0 : Nat) (v1 : Int32) (w : gW), mX2_settle_h7 F r v0 v1 w = some res → Wx X w 0 0 7 [(0, .inr (.inr (some v0))), (1, .inl v1)] [] := by
  intro v0 v1 w h
  unfold mX2_settle_h7 at h
  refine Wx.run ok kX2_settle 5 2 (lv' := [(0, .inr (.inr (some v0))), (1, .inl v1)]) (st' := [.inr (.inr (some v0)), .inl v1]) (pc' := 9) rfl ?_
  refine Wx.getI ok kX2_settle 7 rfl lk_RX2_30_0 h (fun t9 h => ?_)
  refine Wx.icmp_ge ok kX2_settle 8 (tgt := 43) rfl (by decide) h (fun hc12 h => ?_) (fun hc12 h => ?_)
  · exact Wx.vreturn ok kX2_settle 25 rfl hres h (by decide)
  · refine Wx.run ok kX2_settle 9 1 (lv' := [(0, .inr (.inr (some v0))), (1, .inl v1)]) (st' := [.inr (.inr (some v0))]) (pc' := 16) rfl ?_
    refine Wx.getR ok kX2_settle 10 rfl lk_RX2_21_0 h (fun t16 h => ?_)
    refine Wx.run ok kX2_settle 11 3 (lv' := [(0, .inr (.inr (some v0))), (1, .inl v1)]) (st' := [.inl v1, .inr (.inr (some v0)), .inl v1, .inr (.inr t16)]) (pc' := 22) rfl ?_
    obtain ⟨a22, ha22, h⟩ := gob h
    obtain ⟨q22, hq22, h⟩ := gob h
    refine Wx.callV ok kX2_settle 14 rfl lm_RX2_89 cd_X2_findInverse ha22 [.inl v1] (some (.inl q22.1)) (aX2_findInverse _ _ hq22) (by decide) rfl (Nat.le_of_ble_eq_true rfl) rfl rfl ?_
    refine Wx.iast ok kX2_settle 15 rfl h (fun w25 h => ?_)
    refine Wx.run ok kX2_settle 16 1 (lv' := [(0, .inr (.inr (some v0))), (1, .inl v1)]) (st' := [.inr (.inr (some v0))]) (pc' := 27) rfl ?_
    refine Wx.getR ok kX2_settle 17 rfl lk_RX2_24_0 h (fun t27 h => ?_)
    refine Wx.run ok kX2_settle 18 3 (lv' := [(0, .inr (.inr (some v0))), (1, .inl v1)]) (st' := [.inl v1, .inr (.inr (some v0)), .inl v1, .inr (.inr t27)]) (pc' := 33) rfl ?_
    obtain ⟨a33, ha33, h⟩ := gob h
    obtain ⟨q33, hq33, h⟩ := gob h
    refine Wx.callV ok kX2_settle 21 rfl lm_RX2_96 cd_X2_findPeriod ha33 [.inl v1] (some (.inl q33.1)) (aX2_findPeriod _ _ hq33) (by decide) rfl (Nat.le_of_ble_eq_true rfl) rfl rfl ?_
    refine Wx.iast ok kX2_settle 22 rfl h (fun w36 h => ?_)
    refine Wx.run ok kX2_settle 23 1 (lv' := [(1, .inl (v1 + (1 : Int32))), (0, .inr (.inr (some v0)))]) (st' := []) (pc' := 40) rfl ?_
    refine Wx.jump ok kX2_settle 24 (tgt := 7) rfl (by decide) ?_
    refine Wx.sub [1, 0] rfl ?_
    exact hr _ _ _ h
set_option maxRecDepth 100000 in
set_option maxHeartbeats 4000000 in
theorem aX2_settle_l7 {X : gX} (ok : gOk X cX2_settle RX2 2 none rmX2_settle) {res : gW} (hres : gRs X none res) {F : Nat} : ∀ (n : Nat) (v0 : Nat) (v1 : Int32) (w : gW), mX2_settle_l7 F n v0 v1 w = some res → Wx X w 0 0 7 [(0, .inr (.inr (some v0))), (1, .inl v1)] [] := by
  intro n
  induction n with
  | zero => intro v0 v1 w h; cases (show (none : Option (gW)) = some res from h)
  | succ n ih =>
    intro v0 v1 w h
    exact aX2_settle_h7 ok hres (F := F) (mX2_settle_l7 F n) ih v0 v1 w h
set_option maxRecDepth 100000 in
set_option maxHeartbeats 4000000 in
theorem aX2_settle (l : Launch) (G : gG) {F : Nat} {v0 : Nat} {w : gW} {res : gW} (h : mX2_settle F v0 w = some res) : gM l yX2_settle cX2_settle 2 none rmX2_settle G w (gTs [.inr (.inr (some v0))]) none res := by
  refine gM_of (y := yX2_settle) (by decide +kernel) (Nat.le_of_ble_eq_true rfl) ?_
  intro X ok hl hG hres hnm
  subst hl; subst hG
  unfold mX2_settle at h
  show Wx X w 0 0 0 [(0, .inr (.inr (some v0)))] []
  refine Wx.run ok kX2_settle 0 2 (lv' := [(0, .inr (.inr (some v0)))]) (st' := [.inl (-1 : Int32), .inr (.inr (some v0))]) (pc' := 2) rfl ?_
  refine Wx.put ok kX2_settle 2 rfl lk_RX2_93_1 (gFit_i _) h (fun w2 h => ?_)
  refine Wx.run ok kX2_settle 3 2 (lv' := [(1, .inl (0 : Int32)), (0, .inr (.inr (some v0)))]) (st' := []) (pc' := 7) rfl ?_
  refine Wx.sub [1, 0] rfl ?_
  refine aX2_settle_l7 ok hres (F := F) F _ _ _ h
set_option maxRecDepth 100000 in
set_option maxHeartbeats 4000000 in
theorem aX5_init (l : Launch) (G : gG) {F : Nat} {v0 : Nat} {w : gW} {res : gW} (h : mX5_init F v0 w = some res) : gM l yX5_init cX5_init 1 none rmX5_init G w (gTs [.inr (.inr (some v0))]) none res := by
  refine gM_of (y := yX5_init) (by decide +kernel) (Nat.le_of_ble_eq_true rfl) ?_
  intro X ok hl hG hres hnm
  subst hl; subst hG
  unfold mX5_init at h
  show Wx X w 0 0 0 [(0, .inr (.inr (some v0)))] []
  refine Wx.run ok kX5_init 0 1 (lv' := [(0, .inr (.inr (some v0)))]) (st' := [.inr (.inr (some v0))]) (pc' := 1) rfl ?_
  refine Wx.objInit ok kX5_init 1 rfl ⟨gw_385, gw_18, gw_19⟩ ⟨Nat.le_of_ble_eq_true rfl, Nat.le_of_ble_eq_true rfl⟩ ?_
  refine Wx.run ok kX5_init 2 2 (lv' := [(0, .inr (.inr (some v0)))]) (st' := [.inl (98 : Int32), .inr (.inr (some v0))]) (pc' := 7) rfl ?_
  refine Wx.newI ok kX5_init 4 rfl gw_45 h (by decide) (by decide) (fun w7 h => ?_)
  refine Wx.putF ok kX5_init 5 rfl lk_RX5_9_2 hnm (gFit_a _ _) h (fun w9 h => ?_)
  refine Wx.run ok kX5_init 6 1 (lv' := [(0, .inr (.inr (some v0)))]) (st' := [.inr (.inr (some v0))]) (pc' := 13) rfl ?_
  refine Wx.new ok kX5_init 7 rfl nw_RX5_15 (by decide) ?_
  refine Wx.run ok kX5_init 8 2 (lv' := [(0, .inr (.inr (some v0)))]) (st' := [.inl (14 : Int32), .inr (.inr (some w9.2)), .inr (.inr (some w9.2)), .inr (.inr (some v0))]) (pc' := 19) rfl ?_
  obtain ⟨q19, hq19, h⟩ := gob h
  refine Wx.callI ok kX5_init 10 rfl lm_RX5_17 cd_X1_init [.inl (14 : Int32)] (aX1_init _ _ (by decide) hq19) (by decide) rfl (Nat.le_of_ble_eq_true rfl) rfl ?_
  refine Wx.putF ok kX5_init 11 rfl lk_RX5_20_2 hnm (gFit_o _ _) h (fun w22 h => ?_)
  refine Wx.run ok kX5_init 12 1 (lv' := [(0, .inr (.inr (some v0)))]) (st' := [.inr (.inr (some v0))]) (pc' := 26) rfl ?_
  refine Wx.new ok kX5_init 13 rfl nw_RX5_15 (by decide) ?_
  refine Wx.run ok kX5_init 14 2 (lv' := [(0, .inr (.inr (some v0)))]) (st' := [.inl (12 : Int32), .inr (.inr (some w22.2)), .inr (.inr (some w22.2)), .inr (.inr (some v0))]) (pc' := 32) rfl ?_
  obtain ⟨q32, hq32, h⟩ := gob h
  refine Wx.callI ok kX5_init 16 rfl lm_RX5_17 cd_X1_init [.inl (12 : Int32)] (aX1_init _ _ (by decide) hq32) (by decide) rfl (Nat.le_of_ble_eq_true rfl) rfl ?_
  refine Wx.putF ok kX5_init 17 rfl lk_RX5_24_2 hnm (gFit_o _ _) h (fun w35 h => ?_)
  exact Wx.vreturn ok kX5_init 18 rfl hres h (by decide)
set_option maxRecDepth 100000 in
set_option maxHeartbeats 4000000 in
theorem aX5_numberOf_h31 {X : gX} (ok : gOk X cX5_numberOf RX5 10 (some .int) rmX5_numberOf) {res : Int32 × gW} (hres : gRs X (some (.int res.1)) res.2) {F : Nat} (r : Nat → (Option Nat) → Int32 → Int32 → Int32 → Int32 → gW → Option (Int32 × gW)) (k86 : (Option Nat) → Int32 → gW → Option (Int32 × gW)) (hr : ∀ (v0 : Nat) (v1 : Option Nat) (v6 : Int32) (v7 : Int32) (v8 : Int32) (v9 : Int32) (w : gW), r v0 v1 v6 v7 v8 v9 w = some res → Wx X w 0 0 31 [(0, .inr (.inr (some v0))), (1, .inr (.inr v1)), (6, .inl v6), (7, .inl v7), (8, .inl v8), (9, .inl v9)] []) (hk86 : ∀ (v1 : Option Nat) (v7 : Int32) (w : gW), k86 v1 v7 w = some res → Wx X w 0 0 86 [(1, .inr (.inr v1)), (7, .inl v7)] []) : ∀ (v0 : Nat) (v1 : Option Nat) (v6 : Int32) (v7 : Int32) (v8 : Int32) (v9 : Int32) (w : gW), mX5_numberOf_h31 F r k86 v0 v1 v6 v7 v8 v9 w = some res → Wx X w 0 0 31 [(0, .inr (.inr (some v0))), (1, .inr (.inr v1)), (6, .inl v6), (7, .inl v7), (8, .inl v8), (9, .inl v9)] [] := by
  intro v0 v1 v6 v7 v8 v9 w h
  unfold mX5_numberOf_h31 at h
  refine Wx.run ok kX5_numberOf 18 2 (lv' := [(0, .inr (.inr (some v0))), (1, .inr (.inr v1)), (6, .inl v6), (7, .inl v7), (8, .inl v8), (9, .inl v9)]) (st' := [.inr (.inr (some v0)), .inl v9]) (pc' := 34) rfl ?_
  refine Wx.getR ok kX5_numberOf 20 rfl lk_RX5_24_0 h (fun t34 h => ?_)
  refine Wx.getI ok kX5_numberOf 21 rfl lk_RX5_34_0 h (fun t37 h => ?_)
  refine Wx.icmp_ge ok kX5_numberOf 22 (tgt := 86) rfl (by decide) h (fun hc40 h => ?_) (fun hc40 h => ?_)
  · refine Wx.sub [1, 3] rfl ?_
    exact hk86 _ _ _ h
  · refine Wx.run ok kX5_numberOf 23 3 (lv' := [(0, .inr (.inr (some v0))), (1, .inr (.inr v1)), (6, .inl v6), (7, .inl v7), (8, .inl v8), (9, .inl v9)]) (st' := [.inr (.inr v1), .inl v8, .inl v7]) (pc' := 48) rfl ?_
    refine Wx.getI ok kX5_numberOf 26 rfl lk_RX5_45_0 h (fun t48 h => ?_)
    obtain ⟨q51, hq51, h⟩ := gob h
    refine Wx.callSN ok kX5_numberOf 27 rfl lm_RX5_121 cd_X6_mod [.inl v8, .inl t48] (some (.inl q51.1)) (aX6_mod _ _ hq51) (by decide) rfl (Nat.le_of_ble_eq_true rfl) rfl rfl ?_
    refine Wx.run ok kX5_numberOf 28 1 (lv' := [(0, .inr (.inr (some v0))), (1, .inr (.inr v1)), (6, .inl v6), (7, .inl v7), (8, .inl v8), (9, .inl v9)]) (st' := [.inr (.inr (some v0)), .inl q51.1, .inl v7]) (pc' := 55) rfl ?_
    refine Wx.getR ok kX5_numberOf 29 rfl lk_RX5_24_0 h (fun t55 h => ?_)
    refine Wx.run ok kX5_numberOf 30 2 (lv' := [(0, .inr (.inr (some v0))), (1, .inr (.inr v1)), (6, .inl v6), (7, .inl v7), (8, .inl v8), (9, .inl v9)]) (st' := [.inl v6, .inl v9, .inr (.inr t55), .inl q51.1, .inl v7]) (pc' := 62) rfl ?_
    obtain ⟨a62, ha62, h⟩ := gob h
    obtain ⟨q62, hq62, h⟩ := gob h
    refine Wx.callV ok kX5_numberOf 32 rfl lm_RX5_124 cd_X1_number ha62 [.inl v9, .inl v6] (some (.inl q62.1)) (aX1_number _ _ hq62) (by decide) rfl (Nat.le_of_ble_eq_true rfl) rfl rfl ?_
    refine Wx.run ok kX5_numberOf 33 5 (lv' := [(7, .inl (v7 + (q51.1 * q62.1))), (0, .inr (.inr (some v0))), (1, .inr (.inr v1)), (6, .inl v6), (8, .inl v8), (9, .inl v9)]) (st' := [.inr (.inr v1), .inl v8]) (pc' := 72) rfl ?_
    refine Wx.getI ok kX5_numberOf 38 rfl lk_RX5_45_0 h (fun t72 h => ?_)
    obtain ⟨q75, hq75, h⟩ := gob h
    refine Wx.callSN ok kX5_numberOf 39 rfl lm_RX5_127 cd_X6_quotient [.inl v8, .inl t72] (some (.inl q75.1)) (aX6_quotient _ _ hq75) (by decide) rfl (Nat.le_of_ble_eq_true rfl) rfl rfl ?_
    refine Wx.run ok kX5_numberOf 40 2 (lv' := [(9, .inl (v9 + (1 : Int32))), (8, .inl q75.1), (7, .inl (v7 + (q51.1 * q62.1))), (0, .inr (.inr (some v0))), (1, .inr (.inr v1)), (6, .inl v6)]) (st' := []) (pc' := 83) rfl ?_
    refine Wx.jump ok kX5_numberOf 42 (tgt := 31) rfl (by decide) ?_
    refine Wx.sub [3, 4, 5, 2, 1, 0] rfl ?_
    exact hr _ _ _ _ _ _ _ h
set_option maxRecDepth 100000 in
set_option maxHeartbeats 4000000 in
theorem aX5_numberOf_l31 {X : gX} (ok : gOk X cX5_numberOf RX5 10 (some .int) rmX5_numberOf) {res : Int32 × gW} (hres : gRs X (some (.int res.1)) res.2) {F : Nat} (k86 : (Option Nat) → Int32 → gW → Option (Int32 × gW)) (hk86 : ∀ (v1 : Option Nat) (v7 : Int32) (w : gW), k86 v1 v7 w = some res → Wx X w 0 0 86 [(1, .inr (.inr v1)), (7, .inl v7)] []) : ∀ (n : Nat) (v0 : Nat) (v1 : Option Nat) (v6 : Int32) (v7 : Int32) (v8 : Int32) (v9 : Int32) (w : gW), mX5_numberOf_l31 F k86 n v0 v1 v6 v7 v8 v9 w = some res → Wx X w 0 0 31 [(0, .inr (.inr (some v0))), (1, .inr (.inr v1)), (6, .inl v6), (7, .inl v7), (8, .inl v8), (9, .inl v9)] [] := by
  intro n
  induction n with
  | zero => intro v0 v1 v6 v7 v8 v9 w h; cases (show (none : Option (Int32 × gW)) = some res from h)
  | succ n ih =>
    intro v0 v1 v6 v7 v8 v9 w h
    exact aX5_numberOf_h31 ok hres (F := F) (mX5_numberOf_l31 F k86 n) k86 ih hk86 v0 v1 v6 v7 v8 v9 w h
set_option maxRecDepth 100000 in
set_option maxHeartbeats 4000000 in
theorem aX5_numberOf (l : Launch) (G : gG) {F : Nat} {v0 : Nat} {v1 : Option Nat} {v2 : Int32} {v3 : Int32} {v4 : Int32} {v5 : Int32} {w : gW} {res : Int32 × gW} (h : mX5_numberOf F v0 v1 v2 v3 v4 v5 w = some res) : gM l yX5_numberOf cX5_numberOf 10 (some .int) rmX5_numberOf G w (gTs [.inr (.inr (some v0)), .inr (.inr v1), .inl v2, .inl v3, .inl v4, .inl v5]) (some (.int res.1)) res.2 := by
  refine gM_of (y := yX5_numberOf) (by decide +kernel) (Nat.le_of_ble_eq_true rfl) ?_
  intro X ok hl hG hres hnm
  subst hl; subst hG
  unfold mX5_numberOf at h
  show Wx X w 0 0 0 [(0, .inr (.inr (some v0))), (1, .inr (.inr v1)), (2, .inl v2), (3, .inl v3), (4, .inl v4), (5, .inl v5)] []
  refine Wx.run ok kX5_numberOf 0 1 (lv' := [(0, .inr (.inr (some v0))), (1, .inr (.inr v1)), (2, .inl v2), (3, .inl v3), (4, .inl v4), (5, .inl v5)]) (st' := [.inl v3]) (pc' := 1) rfl ?_
  refine Wx.if_eq ok kX5_numberOf 1 (tgt := 9) rfl (by decide) h (fun hc1 h => ?_) (fun hc1 h => ?_)
  · refine Wx.run ok kX5_numberOf 4 1 (lv' := [(0, .inr (.inr (some v0))), (1, .inr (.inr v1)), (2, .inl v2), (3, .inl v3), (4, .inl v4), (5, .inl v5)]) (st' := [.inl (0 : Int32)]) (pc' := 10) rfl ?_
    exact Wx.ireturn ok kX5_numberOf 5 rfl hres h (by decide)
  · refine Wx.run ok kX5_numberOf 2 1 (lv' := [(0, .inr (.inr (some v0))), (1, .inr (.inr v1)), (2, .inl v2), (3, .inl v3), (4, .inl v4), (5, .inl v5)]) (st' := [.inl v4]) (pc' := 6) rfl ?_
    refine Wx.if_ne ok kX5_numberOf 3 (tgt := 11) rfl (by decide) h (fun hc6 h => ?_) (fun hc6 h => ?_)
    · refine Wx.run ok kX5_numberOf 4 1 (lv' := [(0, .inr (.inr (some v0))), (1, .inr (.inr v1)), (2, .inl v2), (3, .inl v3), (4, .inl v4), (5, .inl v5)]) (st' := [.inl (0 : Int32)]) (pc' := 10) rfl ?_
      exact Wx.ireturn ok kX5_numberOf 5 rfl hres h (by decide)
    · refine Wx.run ok kX5_numberOf 6 4 (lv' := [(0, .inr (.inr (some v0))), (1, .inr (.inr v1)), (2, .inl v2), (3, .inl v3), (4, .inl v4), (5, .inl v5)]) (st' := [.inl v5, .inl v4, .inl v3, .inr (.inr v1)]) (pc' := 17) rfl ?_
      obtain ⟨a17, ha17, h⟩ := gob h
      obtain ⟨q17, hq17, h⟩ := gob h
      refine Wx.callV ok kX5_numberOf 10 rfl lm_RX5_83 cd_X0_place ha17 [.inl v3, .inl v4, .inl v5] (some (.inl q17.1)) (aX0_place _ _ hq17) (by decide) rfl (Nat.le_of_ble_eq_true rfl) rfl rfl ?_
      refine Wx.run ok kX5_numberOf 11 7 (lv' := [(9, .inl (0 : Int32)), (8, .inl v2), (7, .inl (0 : Int32)), (6, .inl q17.1), (0, .inr (.inr (some v0))), (1, .inr (.inr v1)), (2, .inl v2), (3, .inl v3), (4, .inl v4), (5, .inl v5)]) (st' := []) (pc' := 31) rfl ?_
      refine Wx.sub [4, 5, 3, 2, 1, 0] rfl ?_
      refine aX5_numberOf_l31 ok hres (F := F) _ ?_ F _ _ _ _ _ _ _ h
      · intro v1 v7 w h
        refine Wx.run ok kX5_numberOf 43 2 (lv' := [(1, .inr (.inr v1)), (7, .inl v7)]) (st' := [.inr (.inr v1), .inl v7]) (pc' := 89) rfl ?_
        refine Wx.getI ok kX5_numberOf 45 rfl lk_RX5_45_0 h (fun t89 h => ?_)
        obtain ⟨q92, hq92, h⟩ := gob h
        refine Wx.callSN ok kX5_numberOf 46 rfl lm_RX5_121 cd_X6_mod [.inl v7, .inl t89] (some (.inl q92.1)) (aX6_mod _ _ hq92) (by decide) rfl (Nat.le_of_ble_eq_true rfl) rfl rfl ?_
        exact Wx.ireturn ok kX5_numberOf 47 rfl hres h (by decide)
set_option maxRecDepth 100000 in
set_option maxHeartbeats 4000000 in
theorem aX5_readPair_b104 {X : gX} (ok : gOk X cX5_readPair RX5 8 (some .boolean) rmX5_readPair) {res : Int32 × gW} (hres : gRs X (some (.int res.1)) res.2) {F : Nat} (r : Nat → (Option Nat) → (Option Nat) → Int32 → Int32 → Int32 → Int32 → gW → Option (Int32 × gW)) (k110 : Nat → (Option Nat) → (Option Nat) → Int32 → Int32 → Int32 → gW → Option (Int32 × gW)) (hr : ∀ (v0 : Nat) (v1 : Option Nat) (v2 : Option Nat) (v3 : Int32) (v4 : Int32) (v5 : Int32) (v6 : Int32) (w : gW), r v0 v1 v2 v3 v4 v5 v6 w = some res → Wx X w 0 0 29 [(0, .inr (.inr (some v0))), (1, .inr (.inr v1)), (2, .inr (.inr v2)), (3, .inl v3), (4, .inl v4), (5, .inl v5), (6, .inl v6)] []) (hk110 : ∀ (v0 : Nat) (v1 : Option Nat) (v2 : Option Nat) (v3 : Int32) (v4 : Int32) (v5 : Int32) (w : gW), k110 v0 v1 v2 v3 v4 v5 w = some res → Wx X w 0 0 110 [(0, .inr (.inr (some v0))), (1, .inr (.inr v1)), (2, .inr (.inr v2)), (3, .inl v3), (4, .inl v4), (5, .inl v5)] []) : ∀ (v0 : Nat) (v1 : Option Nat) (v2 : Option Nat) (v3 : Int32) (v4 : Int32) (v5 : Int32) (v6 : Int32) (w : gW), mX5_readPair_b104 F r k110 v0 v1 v2 v3 v4 v5 v6 w = some res → Wx X w 0 0 104 [(0, .inr (.inr (some v0))), (1, .inr (.inr v1)), (2, .inr (.inr v2)), (3, .inl v3), (4, .inl v4), (5, .inl v5), (6, .inl v6)] [] := by
  intro v0 v1 v2 v3 v4 v5 v6 w h
  unfold mX5_readPair_b104 at h
  refine Wx.run ok kX5_readPair 55 1 (lv' := [(6, .inl (v6 + (1 : Int32))), (0, .inr (.inr (some v0))), (1, .inr (.inr v1)), (2, .inr (.inr v2)), (3, .inl v3), (4, .inl v4), (5, .inl v5)]) (st' := []) (pc' := 107) rfl ?_
  refine Wx.jump ok kX5_readPair 56 (tgt := 29) rfl (by decide) ?_
  refine Wx.sub [1, 2, 3, 4, 5, 6, 0] rfl ?_
  exact hr _ _ _ _ _ _ _ _ h
set_option maxRecDepth 100000 in
set_option maxHeartbeats 4000000 in
theorem aX5_readPair_b97 {X : gX} (ok : gOk X cX5_readPair RX5 8 (some .boolean) rmX5_readPair) {res : Int32 × gW} (hres : gRs X (some (.int res.1)) res.2) {F : Nat} (r : Nat → (Option Nat) → (Option Nat) → Int32 → Int32 → Int32 → Int32 → gW → Option (Int32 × gW)) (k110 : Nat → (Option Nat) → (Option Nat) → Int32 → Int32 → Int32 → gW → Option (Int32 × gW)) (hr : ∀ (v0 : Nat) (v1 : Option Nat) (v2 : Option Nat) (v3 : Int32) (v4 : Int32) (v5 : Int32) (v6 : Int32) (w : gW), r v0 v1 v2 v3 v4 v5 v6 w = some res → Wx X w 0 0 29 [(0, .inr (.inr (some v0))), (1, .inr (.inr v1)), (2, .inr (.inr v2)), (3, .inl v3), (4, .inl v4), (5, .inl v5), (6, .inl v6)] []) (hk110 : ∀ (v0 : Nat) (v1 : Option Nat) (v2 : Option Nat) (v3 : Int32) (v4 : Int32) (v5 : Int32) (w : gW), k110 v0 v1 v2 v3 v4 v5 w = some res → Wx X w 0 0 110 [(0, .inr (.inr (some v0))), (1, .inr (.inr v1)), (2, .inr (.inr v2)), (3, .inl v3), (4, .inl v4), (5, .inl v5)] []) : ∀ (v0 : Nat) (v1 : Option Nat) (v2 : Option Nat) (v3 : Int32) (v4 : Int32) (v5 : Int32) (v6 : Int32) (v7 : Int32) (w : gW), mX5_readPair_b97 F r k110 v0 v1 v2 v3 v4 v5 v6 v7 w = some res → Wx X w 0 0 97 [(0, .inr (.inr (some v0))), (1, .inr (.inr v1)), (2, .inr (.inr v2)), (3, .inl v3), (4, .inl v4), (5, .inl v5), (6, .inl v6), (7, .inl v7)] [] := by
  intro v0 v1 v2 v3 v4 v5 v6 v7 w h
  unfold mX5_readPair_b97 at h
  refine Wx.run ok kX5_readPair 51 1 (lv' := [(0, .inr (.inr (some v0))), (1, .inr (.inr v1)), (2, .inr (.inr v2)), (3, .inl v3), (4, .inl v4), (5, .inl v5), (6, .inl v6), (7, .inl v7)]) (st' := [.inl v7]) (pc' := 99) rfl ?_
  refine Wx.if_eq ok kX5_readPair 52 (tgt := 104) rfl (by decide) h (fun hc99 h => ?_) (fun hc99 h => ?_)
  · refine Wx.sub [0, 1, 2, 3, 4, 5, 6] rfl ?_
    exact aX5_readPair_b104 ok hres (F := F) r k110 hr hk110 _ _ _ _ _ _ _ _ h
  · refine Wx.run ok kX5_readPair 53 1 (lv' := [(0, .inr (.inr (some v0))), (1, .inr (.inr v1)), (2, .inr (.inr v2)), (3, .inl v3), (4, .inl v4), (5, .inl v5), (6, .inl v6), (7, .inl v7)]) (st' := [.inl (0 : Int32)]) (pc' := 103) rfl ?_
    exact Wx.zreturn ok kX5_readPair 54 rfl gNz0 hres h (by decide)
set_option maxRecDepth 100000 in
set_option maxHeartbeats 4000000 in
theorem aX5_readPair_h29 {X : gX} (ok : gOk X cX5_readPair RX5 8 (some .boolean) rmX5_readPair) {res : Int32 × gW} (hres : gRs X (some (.int res.1)) res.2) {F : Nat} (r : Nat → (Option Nat) → (Option Nat) → Int32 → Int32 → Int32 → Int32 → gW → Option (Int32 × gW)) (k110 : Nat → (Option Nat) → (Option Nat) → Int32 → Int32 → Int32 → gW → Option (Int32 × gW)) (hr : ∀ (v0 : Nat) (v1 : Option Nat) (v2 : Option Nat) (v3 : Int32) (v4 : Int32) (v5 : Int32) (v6 : Int32) (w : gW), r v0 v1 v2 v3 v4 v5 v6 w = some res → Wx X w 0 0 29 [(0, .inr (.inr (some v0))), (1, .inr (.inr v1)), (2, .inr (.inr v2)), (3, .inl v3), (4, .inl v4), (5, .inl v5), (6, .inl v6)] []) (hk110 : ∀ (v0 : Nat) (v1 : Option Nat) (v2 : Option Nat) (v3 : Int32) (v4 : Int32) (v5 : Int32) (w : gW), k110 v0 v1 v2 v3 v4 v5 w = some res → Wx X w 0 0 110 [(0, .inr (.inr (some v0))), (1, .inr (.inr v1)), (2, .inr (.inr v2)), (3, .inl v3), (4, .inl v4), (5, .inl v5)] []) : ∀ (v0 : Nat) (v1 : Option Nat) (v2 : Option Nat) (v3 : Int32) (v4 : Int32) (v5 : Int32) (v6 : Int32) (w : gW), mX5_readPair_h29 F r k110 v0 v1 v2 v3 v4 v5 v6 w = some res → Wx X w 0 0 29 [(0, .inr (.inr (some v0))), (1, .inr (.inr v1)), (2, .inr (.inr v2)), (3, .inl v3), (4, .inl v4), (5, .inl v5), (6, .inl v6)] [] := by
  intro v0 v1 v2 v3 v4 v5 v6 w h
  unfold mX5_readPair_h29 at h
  refine Wx.run ok kX5_readPair 16 2 (lv' := [(0, .inr (.inr (some v0))), (1, .inr (.inr v1)), (2, .inr (.inr v2)), (3, .inl v3), (4, .inl v4), (5, .inl v5), (6, .inl v6)]) (st' := [.inr (.inr v1), .inl v6]) (pc' := 32) rfl ?_
  refine Wx.getI ok kX5_readPair 18 rfl lk_RX5_40_0 h (fun t32 h => ?_)
  refine Wx.icmp_ge ok kX5_readPair 19 (tgt := 110) rfl (by decide) h (fun hc35 h => ?_) (fun hc35 h => ?_)
  · refine Wx.sub [0, 1, 2, 3, 4, 5] rfl ?_
    exact hk110 _ _ _ _ _ _ _ h
  · refine Wx.run ok kX5_readPair 20 1 (lv' := [(0, .inr (.inr (some v0))), (1, .inr (.inr v1)), (2, .inr (.inr v2)), (3, .inl v3), (4, .inl v4), (5, .inl v5), (6, .inl v6)]) (st' := [.inr (.inr v2)]) (pc' := 39) rfl ?_
    refine Wx.getR ok kX5_readPair 21 rfl lk_RX5_145_0 h (fun t39 h => ?_)
    refine Wx.run ok kX5_readPair 22 1 (lv' := [(0, .inr (.inr (some v0))), (1, .inr (.inr v1)), (2, .inr (.inr v2)), (3, .inl v3), (4, .inl v4), (5, .inl v5), (6, .inl v6)]) (st' := [.inr (.inr v1), .inr (.inr t39)]) (pc' := 43) rfl ?_
    refine Wx.getI ok kX5_readPair 23 rfl lk_RX5_40_0 h (fun t43 h => ?_)
    refine Wx.run ok kX5_readPair 24 8 (lv' := [(0, .inr (.inr (some v0))), (1, .inr (.inr v1)), (2, .inr (.inr v2)), (3, .inl v3), (4, .inl v4), (5, .inl v5), (6, .inl v6)]) (st' := [.inl ((t43 * ((v3 * v4) + v5)) + v6), .inr (.inr t39)]) (pc' := 57) rfl ?_
    refine Wx.iald ok kX5_readPair 32 rfl h (fun t57 h => ?_)
    refine Wx.run ok kX5_readPair 33 1 (lv' := [(0, .inr (.inr (some v0))), (1, .inr (.inr v1)), (2, .inr (.inr v2)), (3, .inl v3), (4, .inl v4), (5, .inl v5), (6, .inl v6)]) (st' := [.inr (.inr v1), .inl t57]) (pc' := 59) rfl ?_
    refine Wx.getI ok kX5_readPair 34 rfl lk_RX5_45_0 h (fun t59 h => ?_)
    obtain ⟨q62, hq62, h⟩ := gob h
    refine Wx.callSN ok kX5_readPair 35 rfl lm_RX5_121 cd_X6_mod [.inl t57, .inl t59] (some (.inl q62.1)) (aX6_mod _ _ hq62) (by decide) rfl (Nat.le_of_ble_eq_true rfl) rfl rfl ?_
    refine Wx.run ok kX5_readPair 36 2 (lv' := [(7, .inl q62.1), (0, .inr (.inr (some v0))), (1, .inr (.inr v1)), (2, .inr (.inr v2)), (3, .inl v3), (4, .inl v4), (5, .inl v5), (6, .inl v6)]) (st' := [.inl v4]) (pc' := 69) rfl ?_
    refine Wx.if_eq ok kX5_readPair 38 (tgt := 97) rfl (by decide) h (fun hc69 h => ?_) (fun hc69 h => ?_)
    · refine Wx.sub [1, 2, 3, 4, 5, 6, 7, 0] rfl ?_
      exact aX5_readPair_b97 ok hres (F := F) r k110 hr hk110 _ _ _ _ _ _ _ _ _ h
    · refine Wx.run ok kX5_readPair 39 1 (lv' := [(7, .inl q62.1), (0, .inr (.inr (some v0))), (1, .inr (.inr v1)), (2, .inr (.inr v2)), (3, .inl v3), (4, .inl v4), (5, .inl v5), (6, .inl v6)]) (st' := [.inl v5]) (pc' := 74) rfl ?_
      refine Wx.if_eq ok kX5_readPair 40 (tgt := 97) rfl (by decide) h (fun hc74 h => ?_) (fun hc74 h => ?_)
      · refine Wx.sub [1, 2, 3, 4, 5, 6, 7, 0] rfl ?_
        exact aX5_readPair_b97 ok hres (F := F) r k110 hr hk110 _ _ _ _ _ _ _ _ _ h
      · refine Wx.run ok kX5_readPair 41 1 (lv' := [(7, .inl q62.1), (0, .inr (.inr (some v0))), (1, .inr (.inr v1)), (2, .inr (.inr v2)), (3, .inl v3), (4, .inl v4), (5, .inl v5), (6, .inl v6)]) (st' := [.inr (.inr (some v0))]) (pc' := 78) rfl ?_
        refine Wx.getR ok kX5_readPair 42 rfl lk_RX5_9_0 h (fun t78 h => ?_)
        refine Wx.run ok kX5_readPair 43 4 (lv' := [(7, .inl q62.1), (0, .inr (.inr (some v0))), (1, .inr (.inr v1)), (2, .inr (.inr v2)), (3, .inl v3), (4, .inl v4), (5, .inl v5), (6, .inl v6)]) (st' := [.inl v6, .inl v5, .inl v4, .inr (.inr v1), .inr (.inr t78)]) (pc' := 88) rfl ?_
        obtain ⟨a88, ha88, h⟩ := gob h
        obtain ⟨q88, hq88, h⟩ := gob h
        refine Wx.callV ok kX5_readPair 47 rfl lm_RX5_83 cd_X0_place ha88 [.inl v4, .inl v5, .inl v6] (some (.inl q88.1)) (aX0_place _ _ hq88) (by decide) rfl (Nat.le_of_ble_eq_true rfl) rfl rfl ?_
        refine Wx.run ok kX5_readPair 48 1 (lv' := [(7, .inl q62.1), (0, .inr (.inr (some v0))), (1, .inr (.inr v1)), (2, .inr (.inr v2)), (3, .inl v3), (4, .inl v4), (5, .inl v5), (6, .inl v6)]) (st' := [.inl q62.1, .inl q88.1, .inr (.inr t78)]) (pc' := 93) rfl ?_
        refine Wx.iast ok kX5_readPair 49 rfl h (fun w93 h => ?_)
        refine Wx.jump ok kX5_readPair 50 (tgt := 104) rfl (by decide) ?_
        refine Wx.sub [1, 2, 3, 4, 5, 6, 7] rfl ?_
        exact aX5_readPair_b104 ok hres (F := F) r k110 hr hk110 _ _ _ _ _ _ _ _ h
set_option maxRecDepth 100000 in
set_option maxHeartbeats 4000000 in
theorem aX5_readPair_l29 {X : gX} (ok : gOk X cX5_readPair RX5 8 (some .boolean) rmX5_readPair) {res : Int32 × gW} (hres : gRs X (some (.int res.1)) res.2) {F : Nat} (k110 : Nat → (Option Nat) → (Option Nat) → Int32 → Int32 → Int32 → gW → Option (Int32 × gW)) (hk110 : ∀ (v0 : Nat) (v1 : Option Nat) (v2 : Option Nat) (v3 : Int32) (v4 : Int32) (v5 : Int32) (w : gW), k110 v0 v1 v2 v3 v4 v5 w = some res → Wx X w 0 0 110 [(0, .inr (.inr (some v0))), (1, .inr (.inr v1)), (2, .inr (.inr v2)), (3, .inl v3), (4, .inl v4), (5, .inl v5)] []) : ∀ (n : Nat) (v0 : Nat) (v1 : Option Nat) (v2 : Option Nat) (v3 : Int32) (v4 : Int32) (v5 : Int32) (v6 : Int32) (w : gW), mX5_readPair_l29 F k110 n v0 v1 v2 v3 v4 v5 v6 w = some res → Wx X w 0 0 29 [(0, .inr (.inr (some v0))), (1, .inr (.inr v1)), (2, .inr (.inr v2)), (3, .inl v3), (4, .inl v4), (5, .inl v5), (6, .inl v6)] [] := by
  intro n
  induction n with
  | zero => intro v0 v1 v2 v3 v4 v5 v6 w h; cases (show (none : Option (Int32 × gW)) = some res from h)
  | succ n ih =>
    intro v0 v1 v2 v3 v4 v5 v6 w h
    exact aX5_readPair_h29 ok hres (F := F) (mX5_readPair_l29 F k110 n) k110 ih hk110 v0 v1 v2 v3 v4 v5 v6 w h
set_option maxRecDepth 100000 in
set_option maxHeartbeats 4000000 in
theorem aX5_readPair_h20 {X : gX} (ok : gOk X cX5_readPair RX5 8 (some .boolean) rmX5_readPair) {res : Int32 × gW} (hres : gRs X (some (.int res.1)) res.2) {F : Nat} (r : Nat → (Option Nat) → (Option Nat) → Int32 → Int32 → Int32 → gW → Option (Int32 × gW)) (k116 : Nat → (Option Nat) → (Option Nat) → Int32 → Int32 → gW → Option (Int32 × gW)) (hr : ∀ (v0 : Nat) (v1 : Option Nat) (v2 : Option Nat) (v3 : Int32) (v4 : Int32) (v5 : Int32) (w : gW), r v0 v1 v2 v3 v4 v5 w = some res → Wx X w 0 0 20 [(0, .inr (.inr (some v0))), (1, .inr (.inr v1)), (2, .inr (.inr v2)), (3, .inl v3), (4, .inl v4), (5, .inl v5)] []) (hk116 : ∀ (v0 : Nat) (v1 : Option Nat) (v2 : Option Nat) (v3 : Int32) (v4 : Int32) (w : gW), k116 v0 v1 v2 v3 v4 w = some res → Wx X w 0 0 116 [(0, .inr (.inr (some v0))), (1, .inr (.inr v1)), (2, .inr (.inr v2)), (3, .inl v3), (4, .inl v4)] []) : ∀ (v0 : Nat) (v1 : Option Nat) (v2 : Option Nat) (v3 : Int32) (v4 : Int32) (v5 : Int32) (w : gW), mX5_readPair_h20 F r k116 v0 v1 v2 v3 v4 v5 w = some res → Wx X w 0 0 20 [(0, .inr (.inr (some v0))), (1, .inr (.inr v1)), (2, .inr (.inr v2)), (3, .inl v3), (4, .inl v4), (5, .inl v5)] [] := by
  intro v0 v1 v2 v3 v4 v5 w h
  unfold mX5_readPair_h20 at h
  refine Wx.run ok kX5_readPair 11 2 (lv' := [(0, .inr (.inr (some v0))), (1, .inr (.inr v1)), (2, .inr (.inr v2)), (3, .inl v3), (4, .inl v4), (5, .inl v5)]) (st' := [.inl v3, .inl v5]) (pc' := 23) rfl ?_
  refine Wx.icmp_ge ok kX5_readPair 13 (tgt := 116) rfl (by decide) h (fun hc23 h => ?_) (fun hc23 h => ?_)
  · refine Wx.sub [0, 1, 2, 3, 4] rfl ?_
    exact hk116 _ _ _ _ _ _ h
  · refine Wx.run ok kX5_readPair 14 2 (lv' := [(6, .inl (0 : Int32)), (0, .inr (.inr (some v0))), (1, .inr (.inr v1)), (2, .inr (.inr v2)), (3, .inl v3), (4, .inl v4), (5, .inl v5)]) (st' := []) (pc' := 29) rfl ?_
    refine Wx.sub [1, 2, 3, 4, 5, 6, 0] rfl ?_
    refine aX5_readPair_l29 ok hres (F := F) _ ?_ F _ _ _ _ _ _ _ _ h
    · intro v0 v1 v2 v3 v4 v5 w h
      refine Wx.run ok kX5_readPair 57 1 (lv' := [(5, .inl (v5 + (1 : Int32))), (0, .inr (.inr (some v0))), (1, .inr (.inr v1)), (2, .inr (.inr v2)), (3, .inl v3), (4, .inl v4)]) (st' := []) (pc' := 113) rfl ?_
      refine Wx.jump ok kX5_readPair 58 (tgt := 20) rfl (by decide) ?_
      refine Wx.sub [1, 2, 3, 4, 5, 0] rfl ?_
      exact hr _ _ _ _ _ _ _ h
set_option maxRecDepth 100000 in
set_option maxHeartbeats 4000000 in
theorem aX5_readPair_l20 {X : gX} (ok : gOk X cX5_readPair RX5 8 (some .boolean) rmX5_readPair) {res : Int32 × gW} (hres : gRs X (some (.int res.1)) res.2) {F : Nat} (k116 : Nat → (Option Nat) → (Option Nat) → Int32 → Int32 → gW → Option (Int32 × gW)) (hk116 : ∀ (v0 : Nat) (v1 : Option Nat) (v2 : Option Nat) (v3 : Int32) (v4 : Int32) (w : gW), k116 v0 v1 v2 v3 v4 w = some res → Wx X w 0 0 116 [(0, .inr (.inr (some v0))), (1, .inr (.inr v1)), (2, .inr (.inr v2)), (3, .inl v3), (4, .inl v4)] []) : ∀ (n : Nat) (v0 : Nat) (v1 : Option Nat) (v2 : Option Nat) (v3 : Int32) (v4 : Int32) (v5 : Int32) (w : gW), mX5_readPair_l20 F k116 n v0 v1 v2 v3 v4 v5 w = some res → Wx X w 0 0 20 [(0, .inr (.inr (some v0))), (1, .inr (.inr v1)), (2, .inr (.inr v2)), (3, .inl v3), (4, .inl v4), (5, .inl v5)] [] := by
  intro n
  induction n with
  | zero => intro v0 v1 v2 v3 v4 v5 w h; cases (show (none : Option (Int32 × gW)) = some res from h)
  | succ n ih =>
    intro v0 v1 v2 v3 v4 v5 w h
    exact aX5_readPair_h20 ok hres (F := F) (mX5_readPair_l20 F k116 n) k116 ih hk116 v0 v1 v2 v3 v4 v5 w h
set_option maxRecDepth 100000 in
set_option maxHeartbeats 4000000 in
theorem aX5_readPair_h11 {X : gX} (ok : gOk X cX5_readPair RX5 8 (some .boolean) rmX5_readPair) {res : Int32 × gW} (hres : gRs X (some (.int res.1)) res.2) {F : Nat} (r : Nat → (Option Nat) → (Option Nat) → Int32 → Int32 → gW → Option (Int32 × gW)) (hr : ∀ (v0 : Nat) (v1 : Option Nat) (v2 : Option Nat) (v3 : Int32) (v4 : Int32) (w : gW), r v0 v1 v2 v3 v4 w = some res → Wx X w 0 0 11 [(0, .inr (.inr (some v0))), (1, .inr (.inr v1)), (2, .inr (.inr v2)), (3, .inl v3), (4, .inl v4)] []) : ∀ (v0 : Nat) (v1 : Option Nat) (v2 : Option Nat) (v3 : Int32) (v4 : Int32) (w : gW), mX5_readPair_h11 F r v0 v1 v2 v3 v4 w = some res → Wx X w 0 0 11 [(0, .inr (.inr (some v0))), (1, .inr (.inr v1)), (2, .inr (.inr v2)), (3, .inl v3), (4, .inl v4)] [] := by
  intro v0 v1 v2 v3 v4 w h
  unfold mX5_readPair_h11 at h
  refine Wx.run ok kX5_readPair 6 2 (lv' := [(0, .inr (.inr (some v0))), (1, .inr (.inr v1)), (2, .inr (.inr v2)), (3, .inl v3), (4, .inl v4)]) (st' := [.inl v3, .inl v4]) (pc' := 14) rfl ?_
  refine Wx.icmp_ge ok kX5_readPair 8 (tgt := 122) rfl (by decide) h (fun hc14 h => ?_) (fun hc14 h => ?_)
  · refine Wx.run ok kX5_readPair 61 1 (lv' := [(0, .inr (.inr (some v0))), (1, .inr (.inr v1)), (2, .inr (.inr v2)), (3, .inl v3), (4, .inl v4)]) (st' := [.inl (1 : Int32)]) (pc' := 123) rfl ?_
    exact Wx.zreturn ok kX5_readPair 62 rfl gNz1 hres h (by decide)
  · refine Wx.run ok kX5_readPair 9 2 (lv' := [(5, .inl (0 : Int32)), (0, .inr (.inr (some v0))), (1, .inr (.inr v1)), (2, .inr (.inr v2)), (3, .inl v3), (4, .inl v4)]) (st' := []) (pc' := 20) rfl ?_
    refine Wx.sub [1, 2, 3, 4, 5, 0] rfl ?_
    refine aX5_readPair_l20 ok hres (F := F) _ ?_ F _ _ _ _ _ _ _ h
    · intro v0 v1 v2 v3 v4 w h
      refine Wx.run ok kX5_readPair 59 1 (lv' := [(4, .inl (v4 + (1 : Int32))), (0, .inr (.inr (some v0))), (1, .inr (.inr v1)), (2, .inr (.inr v2)), (3, .inl v3)]) (st' := []) (pc' := 119) rfl ?_
      refine Wx.jump ok kX5_readPair 60 (tgt := 11) rfl (by decide) ?_
      refine Wx.sub [1, 2, 3, 4, 0] rfl ?_
      exact hr _ _ _ _ _ _ h
set_option maxRecDepth 100000 in
set_option maxHeartbeats 4000000 in
theorem aX5_readPair_l11 {X : gX} (ok : gOk X cX5_readPair RX5 8 (some .boolean) rmX5_readPair) {res : Int32 × gW} (hres : gRs X (some (.int res.1)) res.2) {F : Nat} : ∀ (n : Nat) (v0 : Nat) (v1 : Option Nat) (v2 : Option Nat) (v3 : Int32) (v4 : Int32) (w : gW), mX5_readPair_l11 F n v0 v1 v2 v3 v4 w = some res → Wx X w 0 0 11 [(0, .inr (.inr (some v0))), (1, .inr (.inr v1)), (2, .inr (.inr v2)), (3, .inl v3), (4, .inl v4)] [] := by
  intro n
  induction n with
  | zero => intro v0 v1 v2 v3 v4 w h; cases (show (none : Option (Int32 × gW)) = some res from h)
  | succ n ih =>
    intro v0 v1 v2 v3 v4 w h
    exact aX5_readPair_h11 ok hres (F := F) (mX5_readPair_l11 F n) ih v0 v1 v2 v3 v4 w h
set_option maxRecDepth 100000 in
set_option maxHeartbeats 4000000 in
theorem aX5_readPair (l : Launch) (G : gG) {F : Nat} {v0 : Nat} {v1 : Option Nat} {v2 : Option Nat} {w : gW} {res : Int32 × gW} (h : mX5_readPair F v0 v1 v2 w = some res) : gM l yX5_readPair cX5_readPair 8 (some .boolean) rmX5_readPair G w (gTs [.inr (.inr (some v0)), .inr (.inr v1), .inr (.inr v2)]) (some (.int res.1)) res.2 := by
  refine gM_of (y := yX5_readPair) (by decide +kernel) (Nat.le_of_ble_eq_true rfl) ?_
  intro X ok hl hG hres hnm
  subst hl; subst hG
  unfold mX5_readPair at h
  show Wx X w 0 0 0 [(0, .inr (.inr (some v0))), (1, .inr (.inr v1)), (2, .inr (.inr v2))] []
  refine Wx.run ok kX5_readPair 0 1 (lv' := [(0, .inr (.inr (some v0))), (1, .inr (.inr v1)), (2, .inr (.inr v2))]) (st' := [.inr (.inr v1)]) (pc' := 1) rfl ?_
  refine Wx.getR ok kX5_readPair 1 rfl lk_RX5_52_0 h (fun t1 h => ?_)
  refine Wx.getI ok kX5_readPair 2 rfl lk_RX5_56_0 h (fun t4 h => ?_)
  refine Wx.run ok kX5_readPair 3 3 (lv' := [(4, .inl (0 : Int32)), (3, .inl t4), (0, .inr (.inr (some v0))), (1, .inr (.inr v1)), (2, .inr (.inr v2))]) (st' := []) (pc' := 11) rfl ?_
  refine Wx.sub [2, 3, 4, 1, 0] rfl ?_
  refine aX5_readPair_l11 ok hres (F := F) F _ _ _ _ _ _ h
set_option maxRecDepth 100000 in
set_option maxHeartbeats 4000000 in
theorem aX5_writeStandard_b102 {X : gX} (ok : gOk X cX5_writeStandard RX5 9 none rmX5_writeStandard) {res : gW} (hres : gRs X none res) {F : Nat} (r : Nat → (Option Nat) → Int32 → Int32 → Int32 → Int32 → gW → Option (gW)) (hr : ∀ (v0 : Nat) (v1 : Option Nat) (v2 : Int32) (v3 : Int32) (v4 : Int32) (v5 : Int32) (w : gW), r v0 v1 v2 v3 v4 v5 w = some res → Wx X w 0 0 20 [(0, .inr (.inr (some v0))), (1, .inr (.inr v1)), (2, .inl v2), (3, .inl v3), (4, .inl v4), (5, .inl v5)] []) : ∀ (v0 : Nat) (v1 : Option Nat) (v2 : Int32) (v3 : Int32) (v4 : Int32) (v5 : Int32) (w : gW), mX5_writeStandard_b102 F r v0 v1 v2 v3 v4 v5 w = some res → Wx X w 0 0 102 [(0, .inr (.inr (some v0))), (1, .inr (.inr v1)), (2, .inl v2), (3, .inl v3), (4, .inl v4), (5, .inl v5)] [] := by
  intro v0 v1 v2 v3 v4 v5 w h
  unfold mX5_writeStandard_b102 at h
  refine Wx.run ok kX5_writeStandard 59 1 (lv' := [(5, .inl (v5 + (1 : Int32))), (0, .inr (.inr (some v0))), (1, .inr (.inr v1)), (2, .inl v2), (3, .inl v3), (4, .inl v4)]) (st' := []) (pc' := 105) rfl ?_
  refine Wx.jump ok kX5_writeStandard 60 (tgt := 20) rfl (by decide) ?_
  refine Wx.sub [1, 2, 3, 4, 5, 0] rfl ?_
  exact hr _ _ _ _ _ _ _ h
set_option maxRecDepth 100000 in
set_option maxHeartbeats 4000000 in
theorem aX5_writeStandard_h49 {X : gX} (ok : gOk X cX5_writeStandard RX5 9 none rmX5_writeStandard) {res : gW} (hres : gRs X none res) {F : Nat} (r : Nat → (Option Nat) → Int32 → Int32 → Int32 → Int32 → Int32 → Int32 → Int32 → gW → Option (gW)) (k87 : Nat → (Option Nat) → Int32 → Int32 → Int32 → Int32 → Int32 → gW → Option (gW)) (hr : ∀ (v0 : Nat) (v1 : Option Nat) (v2 : Int32) (v3 : Int32) (v4 : Int32) (v5 : Int32) (v6 : Int32) (v7 : Int32) (v8 : Int32) (w : gW), r v0 v1 v2 v3 v4 v5 v6 v7 v8 w = some res → Wx X w 0 0 49 [(0, .inr (.inr (some v0))), (1, .inr (.inr v1)), (2, .inl v2), (3, .inl v3), (4, .inl v4), (5, .inl v5), (6, .inl v6), (7, .inl v7), (8, .inl v8)] []) (hk87 : ∀ (v0 : Nat) (v1 : Option Nat) (v2 : Int32) (v3 : Int32) (v4 : Int32) (v5 : Int32) (v7 : Int32) (w : gW), k87 v0 v1 v2 v3 v4 v5 v7 w = some res → Wx X w 0 0 87 [(0, .inr (.inr (some v0))), (1, .inr (.inr v1)), (2, .inl v2), (3, .inl v3), (4, .inl v4), (5, .inl v5), (7, .inl v7)] []) : ∀ (v0 : Nat) (v1 : Option Nat) (v2 : Int32) (v3 : Int32) (v4 : Int32) (v5 : Int32) (v6 : Int32) (v7 : Int32) (v8 : Int32) (w : gW), mX5_writeStandard_h49 F r k87 v0 v1 v2 v3 v4 v5 v6 v7 v8 w = some res → Wx X w 0 0 49 [(0, .inr (.inr (some v0))), (1, .inr (.inr v1)), (2, .inl v2), (3, .inl v3), (4, .inl v4), (5, .inl v5), (6, .inl v6), (7, .inl v7), (8, .inl v8)] [] := by
  intro v0 v1 v2 v3 v4 v5 v6 v7 v8 w h
  unfold mX5_writeStandard_h49 at h
  refine Wx.run ok kX5_writeStandard 30 2 (lv' := [(0, .inr (.inr (some v0))), (1, .inr (.inr v1)), (2, .inl v2), (3, .inl v3), (4, .inl v4), (5, .inl v5), (6, .inl v6), (7, .inl v7), (8, .inl v8)]) (st' := [.inl v5, .inl v8]) (pc' := 53) rfl ?_
  refine Wx.icmp_ge ok kX5_writeStandard 32 (tgt := 87) rfl (by decide) h (fun hc53 h => ?_) (fun hc53 h => ?_)
  · refine Wx.sub [0, 1, 2, 3, 4, 5, 7] rfl ?_
    exact hk87 _ _ _ _ _ _ _ _ h
  · refine Wx.run ok kX5_writeStandard 33 2 (lv' := [(0, .inr (.inr (some v0))), (1, .inr (.inr v1)), (2, .inl v2), (3, .inl v3), (4, .inl v4), (5, .inl v5), (6, .inl v6), (7, .inl v7), (8, .inl v8)]) (st' := [.inr (.inr (some v0)), .inl v7]) (pc' := 59) rfl ?_
    refine Wx.getR ok kX5_writeStandard 35 rfl lk_RX5_9_0 h (fun t59 h => ?_)
    refine Wx.run ok kX5_writeStandard 36 1 (lv' := [(0, .inr (.inr (some v0))), (1, .inr (.inr v1)), (2, .inl v2), (3, .inl v3), (4, .inl v4), (5, .inl v5), (6, .inl v6), (7, .inl v7), (8, .inl v8)]) (st' := [.inl v8, .inr (.inr t59), .inl v7]) (pc' := 64) rfl ?_
    refine Wx.iald ok kX5_writeStandard 37 rfl h (fun t64 h => ?_)
    refine Wx.run ok kX5_writeStandard 38 7 (lv' := [(0, .inr (.inr (some v0))), (1, .inr (.inr v1)), (2, .inl v2), (3, .inl v3), (4, .inl v4), (5, .inl v5), (6, .inl v6), (7, .inl v7), (8, .inl v8)]) (st' := [.inl ((v3 - (1 : Int32)) - v8), .inl v6, .inr (.inr v1), .inl t64, .inl v7]) (pc' := 74) rfl ?_
    obtain ⟨a74, ha74, h⟩ := gob h
    obtain ⟨q74, hq74, h⟩ := gob h
    refine Wx.callV ok kX5_writeStandard 45 rfl lm_RX5_118 cd_X1_leadingNumber ha74 [.inl v6, .inl ((v3 - (1 : Int32)) - v8)] (some (.inl q74.1)) (aX1_leadingNumber _ _ hq74) (by decide) rfl (Nat.le_of_ble_eq_true rfl) rfl rfl ?_
    refine Wx.run ok kX5_writeStandard 46 4 (lv' := [(8, .inl (v8 + (1 : Int32))), (7, .inl (v7 + (t64 * q74.1))), (0, .inr (.inr (some v0))), (1, .inr (.inr v1)), (2, .inl v2), (3, .inl v3), (4, .inl v4), (5, .inl v5), (6, .inl v6)]) (st' := []) (pc' := 84) rfl ?_
    refine Wx.jump ok kX5_writeStandard 50 (tgt := 49) rfl (by decide) ?_
    refine Wx.sub [2, 3, 4, 5, 6, 7, 8, 1, 0] rfl ?_
    exact hr _ _ _ _ _ _ _ _ _ _ h
set_option maxRecDepth 100000 in
set_option maxHeartbeats 4000000 in
theorem aX5_writeStandard_l49 {X : gX} (ok : gOk X cX5_writeStandard RX5 9 none rmX5_writeStandard) {res : gW} (hres : gRs X none res) {F : Nat} (k87 : Nat → (Option Nat) → Int32 → Int32 → Int32 → Int32 → Int32 → gW → Option (gW)) (hk87 : ∀ (v0 : Nat) (v1 : Option Nat) (v2 : Int32) (v3 : Int32) (v4 : Int32) (v5 : Int32) (v7 : Int32) (w : gW), k87 v0 v1 v2 v3 v4 v5 v7 w = some res → Wx X w 0 0 87 [(0, .inr (.inr (some v0))), (1, .inr (.inr v1)), (2, .inl v2), (3, .inl v3), (4, .inl v4), (5, .inl v5), (7, .inl v7)] []) : ∀ (n : Nat) (v0 : Nat) (v1 : Option Nat) (v2 : Int32) (v3 : Int32) (v4 : Int32) (v5 : Int32) (v6 : Int32) (v7 : Int32) (v8 : Int32) (w : gW), mX5_writeStandard_l49 F k87 n v0 v1 v2 v3 v4 v5 v6 v7 v8 w = some res → Wx X w 0 0 49 [(0, .inr (.inr (some v0))), (1, .inr (.inr v1)), (2, .inl v2), (3, .inl v3), (4, .inl v4), (5, .inl v5), (6, .inl v6), (7, .inl v7), (8, .inl v8)] [] := by
  intro n
  induction n with
  | zero => intro v0 v1 v2 v3 v4 v5 v6 v7 v8 w h; cases (show (none : Option (gW)) = some res from h)
  | succ n ih =>
    intro v0 v1 v2 v3 v4 v5 v6 v7 v8 w h
    exact aX5_writeStandard_h49 ok hres (F := F) (mX5_writeStandard_l49 F k87 n) k87 ih hk87 v0 v1 v2 v3 v4 v5 v6 v7 v8 w h
set_option maxRecDepth 100000 in
set_option maxHeartbeats 4000000 in
theorem aX5_writeStandard_h20 {X : gX} (ok : gOk X cX5_writeStandard RX5 9 none rmX5_writeStandard) {res : gW} (hres : gRs X none res) {F : Nat} (r : Nat → (Option Nat) → Int32 → Int32 → Int32 → Int32 → gW → Option (gW)) (hr : ∀ (v0 : Nat) (v1 : Option Nat) (v2 : Int32) (v3 : Int32) (v4 : Int32) (v5 : Int32) (w : gW), r v0 v1 v2 v3 v4 v5 w = some res → Wx X w 0 0 20 [(0, .inr (.inr (some v0))), (1, .inr (.inr v1)), (2, .inl v2), (3, .inl v3), (4, .inl v4), (5, .inl v5)] []) : ∀ (v0 : Nat) (v1 : Option Nat) (v2 : Int32) (v3 : Int32) (v4 : Int32) (v5 : Int32) (w : gW), mX5_writeStandard_h20 F r v0 v1 v2 v3 v4 v5 w = some res → Wx X w 0 0 20 [(0, .inr (.inr (some v0))), (1, .inr (.inr v1)), (2, .inl v2), (3, .inl v3), (4, .inl v4), (5, .inl v5)] [] := by
  intro v0 v1 v2 v3 v4 v5 w h
  unfold mX5_writeStandard_h20 at h
  refine Wx.run ok kX5_writeStandard 13 2 (lv' := [(0, .inr (.inr (some v0))), (1, .inr (.inr v1)), (2, .inl v2), (3, .inl v3), (4, .inl v4), (5, .inl v5)]) (st' := [.inl v3, .inl v5]) (pc' := 23) rfl ?_
  refine Wx.icmp_ge ok kX5_writeStandard 15 (tgt := 108) rfl (by decide) h (fun hc23 h => ?_) (fun hc23 h => ?_)
  · exact Wx.vreturn ok kX5_writeStandard 61 rfl hres h (by decide)
  · refine Wx.run ok kX5_writeStandard 16 8 (lv' := [(6, .inl ((v3 - (1 : Int32)) - v5)), (0, .inr (.inr (some v0))), (1, .inr (.inr v1)), (2, .inl v2), (3, .inl v3), (4, .inl v4), (5, .inl v5)]) (st' := [.inl ((v3 - (1 : Int32)) - v5), .inr (.inr v1)]) (pc' := 37) rfl ?_
    obtain ⟨a37, ha37, h⟩ := gob h
    obtain ⟨q37, hq37, h⟩ := gob h
    refine Wx.callV ok kX5_writeStandard 24 rfl lm_RX5_104 cd_X1_leadsAt ha37 [.inl ((v3 - (1 : Int32)) - v5)] (some (.inl q37.1)) (aX1_leadsAt _ _ hq37) (by decide) rfl (Nat.le_of_ble_eq_true rfl) rfl rfl ?_
    refine Wx.if_eq ok kX5_writeStandard 25 (tgt := 102) rfl (by decide) h (fun hc40 h => ?_) (fun hc40 h => ?_)
    · refine Wx.sub [1, 2, 3, 4, 5, 6] rfl ?_
      exact aX5_writeStandard_b102 ok hres (F := F) r hr _ _ _ _ _ _ _ h
    · refine Wx.run ok kX5_writeStandard 26 4 (lv' := [(8, .inl v2), (7, .inl (0 : Int32)), (6, .inl ((v3 - (1 : Int32)) - v5)), (0, .inr (.inr (some v0))), (1, .inr (.inr v1)), (2, .inl v2), (3, .inl v3), (4, .inl v4), (5, .inl v5)]) (st' := []) (pc' := 49) rfl ?_
      refine Wx.sub [3, 4, 5, 6, 7, 8, 2, 1, 0] rfl ?_
      refine aX5_writeStandard_l49 ok hres (F := F) _ ?_ F _ _ _ _ _ _ _ _ _ _ h
      · intro v0 v1 v2 v3 v4 v5 v7 w h
        refine Wx.run ok kX5_writeStandard 51 1 (lv' := [(0, .inr (.inr (some v0))), (1, .inr (.inr v1)), (2, .inl v2), (3, .inl v3), (4, .inl v4), (5, .inl v5), (7, .inl v7)]) (st' := [.inr (.inr (some v0))]) (pc' := 88) rfl ?_
        refine Wx.getR ok kX5_writeStandard 52 rfl lk_RX5_9_0 h (fun t88 h => ?_)
        refine Wx.run ok kX5_writeStandard 53 4 (lv' := [(0, .inr (.inr (some v0))), (1, .inr (.inr v1)), (2, .inl v2), (3, .inl v3), (4, .inl v4), (5, .inl v5), (7, .inl v7)]) (st' := [.inl v4, .inl (-v7), .inl v5, .inr (.inr t88)]) (pc' := 98) rfl ?_
        obtain ⟨q98, hq98, h⟩ := gob h
        refine Wx.callSN ok kX5_writeStandard 57 rfl lm_RX5_121 cd_X6_mod [.inl (-v7), .inl v4] (some (.inl q98.1)) (aX6_mod _ _ hq98) (by decide) rfl (Nat.le_of_ble_eq_true rfl) rfl rfl ?_
        refine Wx.iast ok kX5_writeStandard 58 rfl h (fun w101 h => ?_)
        refine Wx.sub [0, 1, 2, 3, 4, 5] rfl ?_
        exact aX5_writeStandard_b102 ok hres (F := F) r hr _ _ _ _ _ _ _ h
set_option maxRecDepth 100000 in
set_option maxHeartbeats 4000000 in
theorem aX5_writeStandard_l20 {X : gX} (ok : gOk X cX5_writeStandard RX5 9 none rmX5_writeStandard) {res : gW} (hres : gRs X none res) {F : Nat} : ∀ (n : Nat) (v0 : Nat) (v1 : Option Nat) (v2 : Int32) (v3 : Int32) (v4 : Int32) (v5 : Int32) (w : gW), mX5_writeStandard_l20 F n v0 v1 v2 v3 v4 v5 w = some res → Wx X w 0 0 20 [(0, .inr (.inr (some v0))), (1, .inr (.inr v1)), (2, .inl v2), (3, .inl v3), (4, .inl v4), (5, .inl v5)] [] := by
  intro n
  induction n with
  | zero => intro v0 v1 v2 v3 v4 v5 w h; cases (show (none : Option (gW)) = some res from h)
  | succ n ih =>
    intro v0 v1 v2 v3 v4 v5 w h
    exact aX5_writeStandard_h20 ok hres (F := F) (mX5_writeStandard_l20 F n) ih v0 v1 v2 v3 v4 v5 w h
set_option maxRecDepth 100000 in
set_option maxHeartbeats 4000000 in
theorem aX5_writeStandard (l : Launch) (G : gG) {F : Nat} {v0 : Nat} {v1 : Option Nat} {v2 : Int32} {v3 : Int32} {v4 : Int32} {w : gW} {res : gW} (h : mX5_writeStandard F v0 v1 v2 v3 v4 w = some res) : gM l yX5_writeStandard cX5_writeStandard 9 none rmX5_writeStandard G w (gTs [.inr (.inr (some v0)), .inr (.inr v1), .inl v2, .inl v3, .inl v4]) none res := by
  refine gM_of (y := yX5_writeStandard) (by decide +kernel) (Nat.le_of_ble_eq_true rfl) ?_
  intro X ok hl hG hres hnm
  subst hl; subst hG
  unfold mX5_writeStandard at h
  show Wx X w 0 0 0 [(0, .inr (.inr (some v0))), (1, .inr (.inr v1)), (2, .inl v2), (3, .inl v3), (4, .inl v4)] []
  refine Wx.run ok kX5_writeStandard 0 1 (lv' := [(0, .inr (.inr (some v0))), (1, .inr (.inr v1)), (2, .inl v2), (3, .inl v3), (4, .inl v4)]) (st' := [.inr (.inr (some v0))]) (pc' := 1) rfl ?_
  refine Wx.getR ok kX5_writeStandard 1 rfl lk_RX5_9_0 h (fun t1 h => ?_)
  refine Wx.run ok kX5_writeStandard 2 1 (lv' := [(0, .inr (.inr (some v0))), (1, .inr (.inr v1)), (2, .inl v2), (3, .inl v3), (4, .inl v4)]) (st' := [.inl (0 : Int32), .inr (.inr t1)]) (pc' := 5) rfl ?_
  obtain ⟨q5, hq5, h⟩ := gob h
  refine Wx.callS ok kX5_writeStandard 3 rfl lm_RX5_77 cd_J7_fill_53178 [.inr (.inr t1), .inl (0 : Int32)] none (aJ7_fill_53178 _ _ hq5) (by decide) rfl (Nat.le_of_ble_eq_true rfl) rfl rfl ?_
  refine Wx.run ok kX5_writeStandard 4 1 (lv' := [(0, .inr (.inr (some v0))), (1, .inr (.inr v1)), (2, .inl v2), (3, .inl v3), (4, .inl v4)]) (st' := [.inr (.inr (some v0))]) (pc' := 9) rfl ?_
  refine Wx.getR ok kX5_writeStandard 5 rfl lk_RX5_9_0 h (fun t9 h => ?_)
  refine Wx.run ok kX5_writeStandard 6 2 (lv' := [(0, .inr (.inr (some v0))), (1, .inr (.inr v1)), (2, .inl v2), (3, .inl v3), (4, .inl v4)]) (st' := [.inl (1 : Int32), .inl v2, .inr (.inr t9)]) (pc' := 14) rfl ?_
  refine Wx.iast ok kX5_writeStandard 8 rfl h (fun w14 h => ?_)
  refine Wx.run ok kX5_writeStandard 9 4 (lv' := [(5, .inl (v2 + (1 : Int32))), (0, .inr (.inr (some v0))), (1, .inr (.inr v1)), (2, .inl v2), (3, .inl v3), (4, .inl v4)]) (st' := []) (pc' := 20) rfl ?_
  refine Wx.sub [1, 2, 3, 4, 5, 0] rfl ?_
  refine aX5_writeStandard_l20 ok hres (F := F) F _ _ _ _ _ _ _ h
set_option maxRecDepth 100000 in
set_option maxHeartbeats 4000000 in
theorem aX6_addDigits_h9 {X : gX} (ok : gOk X cX6_addDigits RX6 7 (some .int) rmX6_addDigits) {res : Int32 × gW} (hres : gRs X (some (.int res.1)) res.2) {F : Nat} (r : Int32 → Int32 → Int32 → Int32 → Int32 → Int32 → Int32 → gW → Option (Int32 × gW)) (hr : ∀ (v0 : Int32) (v1 : Int32) (v2 : Int32) (v3 : Int32) (v4 : Int32) (v5 : Int32) (v6 : Int32) (w : gW), r v0 v1 v2 v3 v4 v5 v6 w = some res → Wx X w 0 0 9 [(0, .inl v0), (1, .inl v1), (2, .inl v2), (3, .inl v3), (4, .inl v4), (5, .inl v5), (6, .inl v6)] []) : ∀ (v0 : Int32) (v1 : Int32) (v2 : Int32) (v3 : Int32) (v4 : Int32) (v5 : Int32) (v6 : Int32) (w : gW), mX6_addDigits_h9 F r v0 v1 v2 v3 v4 v5 v6 w = some res → Wx X w 0 0 9 [(0, .inl v0), (1, .inl v1), (2, .inl v2), (3, .inl v3), (4, .inl v4), (5, .inl v5), (6, .inl v6)] [] := by
  intro v0 v1 v2 v3 v4 v5 v6 w h
  unfold mX6_addDigits_h9 at h
  refine Wx.run ok kX6_addDigits 6 2 (lv' := [(0, .inl v0), (1, .inl v1), (2, .inl v2), (3, .inl v3), (4, .inl v4), (5, .inl v5), (6, .inl v6)]) (st' := [.inl v3, .inl v6]) (pc' := 12) rfl ?_
  refine Wx.icmp_ge ok kX6_addDigits 8 (tgt := 52) rfl (by decide) h (fun hc12 h => ?_) (fun hc12 h => ?_)
  · refine Wx.run ok kX6_addDigits 29 1 (lv' := [(0, .inl v0), (1, .inl v1), (2, .inl v2), (3, .inl v3), (4, .inl v4), (5, .inl v5), (6, .inl v6)]) (st' := [.inl v4]) (pc' := 54) rfl ?_
    exact Wx.ireturn ok kX6_addDigits 30 rfl hres h (by decide)
  · refine Wx.run ok kX6_addDigits 9 4 (lv' := [(0, .inl v0), (1, .inl v1), (2, .inl v2), (3, .inl v3), (4, .inl v4), (5, .inl v5), (6, .inl v6)]) (st' := [.inl v5, .inl v0, .inl v5, .inl v4]) (pc' := 22) rfl ?_
    obtain ⟨q22, hq22, h⟩ := gob h
    refine Wx.callS ok kX6_addDigits 13 rfl lm_RX6_253 cd_X6_quotient [.inl v0, .inl v5] (some (.inl q22.1)) (aX6_quotient _ _ hq22) (by decide) rfl (Nat.le_of_ble_eq_true rfl) rfl rfl ?_
    refine Wx.run ok kX6_addDigits 14 2 (lv' := [(0, .inl v0), (1, .inl v1), (2, .inl v2), (3, .inl v3), (4, .inl v4), (5, .inl v5), (6, .inl v6)]) (st' := [.inl v5, .inl v1, .inl q22.1, .inl v5, .inl v4]) (pc' := 28) rfl ?_
    obtain ⟨q28, hq28, h⟩ := gob h
    refine Wx.callS ok kX6_addDigits 16 rfl lm_RX6_253 cd_X6_quotient [.inl v1, .inl v5] (some (.inl q28.1)) (aX6_quotient _ _ hq28) (by decide) rfl (Nat.le_of_ble_eq_true rfl) rfl rfl ?_
    refine Wx.run ok kX6_addDigits 17 2 (lv' := [(0, .inl v0), (1, .inl v1), (2, .inl v2), (3, .inl v3), (4, .inl v4), (5, .inl v5), (6, .inl v6)]) (st' := [.inl v2, .inl (q22.1 + q28.1), .inl v5, .inl v4]) (pc' := 33) rfl ?_
    obtain ⟨q33, hq33, h⟩ := gob h
    refine Wx.callS ok kX6_addDigits 19 rfl lm_RX6_256 cd_X6_mod [.inl (q22.1 + q28.1), .inl v2] (some (.inl q33.1)) (aX6_mod _ _ hq33) (by decide) rfl (Nat.le_of_ble_eq_true rfl) rfl rfl ?_
    refine Wx.run ok kX6_addDigits 20 8 (lv' := [(6, .inl (v6 + (1 : Int32))), (5, .inl (v5 * v2)), (4, .inl (v4 + (v5 * q33.1))), (0, .inl v0), (1, .inl v1), (2, .inl v2), (3, .inl v3)]) (st' := []) (pc' := 49) rfl ?_
    refine Wx.jump ok kX6_addDigits 28 (tgt := 9) rfl (by decide) ?_
    refine Wx.sub [3, 4, 5, 6, 2, 1, 0] rfl ?_
    exact hr _ _ _ _ _ _ _ _ h
set_option maxRecDepth 100000 in
set_option maxHeartbeats 4000000 in
theorem aX6_addDigits_l9 {X : gX} (ok : gOk X cX6_addDigits RX6 7 (some .int) rmX6_addDigits) {res : Int32 × gW} (hres : gRs X (some (.int res.1)) res.2) {F : Nat} : ∀ (n : Nat) (v0 : Int32) (v1 : Int32) (v2 : Int32) (v3 : Int32) (v4 : Int32) (v5 : Int32) (v6 : Int32) (w : gW), mX6_addDigits_l9 F n v0 v1 v2 v3 v4 v5 v6 w = some res → Wx X w 0 0 9 [(0, .inl v0), (1, .inl v1), (2, .inl v2), (3, .inl v3), (4, .inl v4), (5, .inl v5), (6, .inl v6)] [] := by
  intro n
  induction n with
  | zero => intro v0 v1 v2 v3 v4 v5 v6 w h; cases (show (none : Option (Int32 × gW)) = some res from h)
  | succ n ih =>
    intro v0 v1 v2 v3 v4 v5 v6 w h
    exact aX6_addDigits_h9 ok hres (F := F) (mX6_addDigits_l9 F n) ih v0 v1 v2 v3 v4 v5 v6 w h
set_option maxRecDepth 100000 in
set_option maxHeartbeats 4000000 in
theorem aX6_addDigits (l : Launch) (G : gG) {F : Nat} {v0 : Int32} {v1 : Int32} {v2 : Int32} {v3 : Int32} {w : gW} {res : Int32 × gW} (h : mX6_addDigits F v0 v1 v2 v3 w = some res) : gM l yX6_addDigits cX6_addDigits 7 (some .int) rmX6_addDigits G w (gTs [.inl v0, .inl v1, .inl v2, .inl v3]) (some (.int res.1)) res.2 := by
  refine gM_of (y := yX6_addDigits) (by decide +kernel) (Nat.le_of_ble_eq_true rfl) ?_
  intro X ok hl hG hres hnm
  subst hl; subst hG
  unfold mX6_addDigits at h
  show Wx X w 0 0 0 [(0, .inl v0), (1, .inl v1), (2, .inl v2), (3, .inl v3)] []
  refine Wx.run ok kX6_addDigits 0 6 (lv' := [(6, .inl (0 : Int32)), (5, .inl (1 : Int32)), (4, .inl (0 : Int32)), (0, .inl v0), (1, .inl v1), (2, .inl v2), (3, .inl v3)]) (st' := []) (pc' := 9) rfl ?_
  refine Wx.sub [3, 4, 5, 6, 2, 1, 0] rfl ?_
  refine aX6_addDigits_l9 ok hres (F := F) F _ _ _ _ _ _ _ _ h
set_option maxRecDepth 100000 in
set_option maxHeartbeats 4000000 in
theorem aX6_element (l : Launch) (G : gG) {F : Nat} {v0 : Nat} {v1 : Int32} {v2 : Int32} {v3 : Int32} {w : gW} {res : Int32 × gW} (h : mX6_element F v0 v1 v2 v3 w = some res) : gM l yX6_element cX6_element 5 (some .int) rmX6_element G w (gTs [.inr (.inr (some v0)), .inl v1, .inl v2, .inl v3]) (some (.int res.1)) res.2 := by
  refine gM_of (y := yX6_element) (by decide +kernel) (Nat.le_of_ble_eq_true rfl) ?_
  intro X ok hl hG hres hnm
  subst hl; subst hG
  unfold mX6_element at h
  show Wx X w 0 0 0 [(0, .inr (.inr (some v0))), (1, .inl v1), (2, .inl v2), (3, .inl v3)] []
  refine Wx.run ok kX6_element 0 2 (lv' := [(0, .inr (.inr (some v0))), (1, .inl v1), (2, .inl v2), (3, .inl v3)]) (st' := [.inl v1, .inr (.inr (some v0))]) (pc' := 2) rfl ?_
  obtain ⟨a2, ha2, h⟩ := gob h
  obtain ⟨q2, hq2, h⟩ := gob h
  refine Wx.callV ok kX6_element 2 rfl lm_RX6_46 cd_X6_groupAt ha2 [.inl v1] (some (.inr (.inr q2.1))) (aX6_groupAt _ _ hq2) (by decide) rfl (Nat.le_of_ble_eq_true rfl) rfl rfl ?_
  refine Wx.run ok kX6_element 3 2 (lv' := [(4, .inr (.inr q2.1)), (0, .inr (.inr (some v0))), (1, .inl v1), (2, .inl v2), (3, .inl v3)]) (st' := [.inr (.inr q2.1)]) (pc' := 9) rfl ?_
  refine Wx.ifnull ok kX6_element 5 (tgt := 21) rfl (by decide) h (fun hc9 h => ?_) (fun hc9 h => ?_)
  · refine Wx.run ok kX6_element 10 1 (lv' := [(4, .inr (.inr q2.1)), (0, .inr (.inr (some v0))), (1, .inl v1), (2, .inl v2), (3, .inl v3)]) (st' := [.inl (-1 : Int32)]) (pc' := 22) rfl ?_
    exact Wx.ireturn ok kX6_element 11 rfl hres h (by decide)
  · refine Wx.run ok kX6_element 6 2 (lv' := [(4, .inr (.inr q2.1)), (0, .inr (.inr (some v0))), (1, .inl v1), (2, .inl v2), (3, .inl v3)]) (st' := [.inl v2, .inr (.inr q2.1)]) (pc' := 15) rfl ?_
    obtain ⟨a15, ha15, h⟩ := gob h
    obtain ⟨q15, hq15, h⟩ := gob h
    refine Wx.callV ok kX6_element 8 rfl lm_RX6_97 cd_X2_has ha15 [.inl v2] (some (.inl q15.1)) (aX2_has _ _ hq15) (by decide) rfl (Nat.le_of_ble_eq_true rfl) rfl rfl ?_
    refine Wx.if_ne ok kX6_element 9 (tgt := 23) rfl (by decide) h (fun hc18 h => ?_) (fun hc18 h => ?_)
    · refine Wx.run ok kX6_element 10 1 (lv' := [(4, .inr (.inr q2.1)), (0, .inr (.inr (some v0))), (1, .inl v1), (2, .inl v2), (3, .inl v3)]) (st' := [.inl (-1 : Int32)]) (pc' := 22) rfl ?_
      exact Wx.ireturn ok kX6_element 11 rfl hres h (by decide)
    · refine Wx.run ok kX6_element 12 1 (lv' := [(4, .inr (.inr q2.1)), (0, .inr (.inr (some v0))), (1, .inl v1), (2, .inl v2), (3, .inl v3)]) (st' := [.inl v3]) (pc' := 24) rfl ?_
      refine gIte h (fun hx h => ?_) (fun hx0 h => ?_)
      · refine Wx.swIn ok kX6_element 13 rfl (tgt := 56) (by rw [hx]; decide) (by rw [hx]; decide) (by rw [hx]; rfl) (by decide) ?_
        refine Wx.run ok kX6_element 14 1 (lv' := [(4, .inr (.inr q2.1)), (0, .inr (.inr (some v0))), (1, .inl v1), (2, .inl v2), (3, .inl v3)]) (st' := [.inr (.inr q2.1)]) (pc' := 58) rfl ?_
        refine Wx.getR ok kX6_element 15 rfl lk_RX6_103_0 h (fun t58 h => ?_)
        refine Wx.run ok kX6_element 16 1 (lv' := [(4, .inr (.inr q2.1)), (0, .inr (.inr (some v0))), (1, .inl v1), (2, .inl v2), (3, .inl v3)]) (st' := [.inl v2, .inr (.inr t58)]) (pc' := 62) rfl ?_
        refine Wx.iald ok kX6_element 17 rfl h (fun t62 h => ?_)
        exact Wx.ireturn ok kX6_element 18 rfl hres h (by decide)
      refine gIte h (fun hx h => ?_) (fun hx1 h => ?_)
      · refine Wx.swIn ok kX6_element 13 rfl (tgt := 64) (by rw [hx]; decide) (by rw [hx]; decide) (by rw [hx]; rfl) (by decide) ?_
        refine Wx.run ok kX6_element 19 1 (lv' := [(4, .inr (.inr q2.1)), (0, .inr (.inr (some v0))), (1, .inl v1), (2, .inl v2), (3, .inl v3)]) (st' := [.inr (.inr q2.1)]) (pc' := 66) rfl ?_
        refine Wx.getR ok kX6_element 20 rfl lk_RX6_107_0 h (fun t66 h => ?_)
        refine Wx.run ok kX6_element 21 1 (lv' := [(4, .inr (.inr q2.1)), (0, .inr (.inr (some v0))), (1, .inl v1), (2, .inl v2), (3, .inl v3)]) (st' := [.inl v2, .inr (.inr t66)]) (pc' := 70) rfl ?_
        refine Wx.iald ok kX6_element 22 rfl h (fun t70 h => ?_)
        exact Wx.ireturn ok kX6_element 23 rfl hres h (by decide)
      refine gIte h (fun hx h => ?_) (fun hx2 h => ?_)
      · refine Wx.swIn ok kX6_element 13 rfl (tgt := 72) (by rw [hx]; decide) (by rw [hx]; decide) (by rw [hx]; rfl) (by decide) ?_
        refine Wx.run ok kX6_element 24 2 (lv' := [(4, .inr (.inr q2.1)), (0, .inr (.inr (some v0))), (1, .inl v1), (2, .inl v2), (3, .inl v3)]) (st' := [.inl v2, .inr (.inr q2.1)]) (pc' := 75) rfl ?_
        obtain ⟨a75, ha75, h⟩ := gob h
        obtain ⟨q75, hq75, h⟩ := gob h
        refine Wx.callV ok kX6_element 26 rfl lm_RX6_110 cd_X2_countCommuting ha75 [.inl v2] (some (.inl q75.1)) (aX2_countCommuting _ _ hq75) (by decide) rfl (Nat.le_of_ble_eq_true rfl) rfl rfl ?_
        exact Wx.ireturn ok kX6_element 27 rfl hres h (by decide)
      refine gIte h (fun hx h => ?_) (fun hx3 h => ?_)
      · refine Wx.swIn ok kX6_element 13 rfl (tgt := 79) (by rw [hx]; decide) (by rw [hx]; decide) (by rw [hx]; rfl) (by decide) ?_
        refine Wx.run ok kX6_element 28 2 (lv' := [(4, .inr (.inr q2.1)), (0, .inr (.inr (some v0))), (1, .inl v1), (2, .inl v2), (3, .inl v3)]) (st' := [.inl v2, .inr (.inr q2.1)]) (pc' := 82) rfl ?_
        obtain ⟨a82, ha82, h⟩ := gob h
        obtain ⟨q82, hq82, h⟩ := gob h
        refine Wx.callV ok kX6_element 30 rfl lm_RX6_114 cd_X2_leastTurned ha82 [.inl v2] (some (.inl q82.1)) (aX2_leastTurned _ _ hq82) (by decide) rfl (Nat.le_of_ble_eq_true rfl) rfl rfl ?_
        exact Wx.ireturn ok kX6_element 31 rfl hres h (by decide)
      refine Wx.swOut ok kX6_element 13 rfl (tgt := 86) (gSw v3 0 3 (by decide) (by decide) (fun j hj => match j, hj with
        | 0, _ => hx0
        | 1, _ => hx1
        | 2, _ => hx2
        | 3, _ => hx3
        | j + 4, hj => absurd hj (by omega))) (by decide) ?_
      refine Wx.run ok kX6_element 32 1 (lv' := [(4, .inr (.inr q2.1)), (0, .inr (.inr (some v0))), (1, .inl v1), (2, .inl v2), (3, .inl v3)]) (st' := [.inl (-1 : Int32)]) (pc' := 87) rfl ?_
      exact Wx.ireturn ok kX6_element 33 rfl hres h (by decide)
set_option maxRecDepth 100000 in
set_option maxHeartbeats 4000000 in
theorem aX6_sheet (l : Launch) (G : gG) {F : Nat} {v0 : Nat} {v1 : Int32} {v2 : Int32} {v3 : Int32} {w : gW} {res : Int32 × gW} (h : mX6_sheet F v0 v1 v2 v3 w = some res) : gM l yX6_sheet cX6_sheet 5 (some .int) rmX6_sheet G w (gTs [.inr (.inr (some v0)), .inl v1, .inl v2, .inl v3]) (some (.int res.1)) res.2 := by
  refine gM_of (y := yX6_sheet) (by decide +kernel) (Nat.le_of_ble_eq_true rfl) ?_
  intro X ok hl hG hres hnm
  subst hl; subst hG
  unfold mX6_sheet at h
  show Wx X w 0 0 0 [(0, .inr (.inr (some v0))), (1, .inl v1), (2, .inl v2), (3, .inl v3)] []
  refine Wx.run ok kX6_sheet 0 2 (lv' := [(0, .inr (.inr (some v0))), (1, .inl v1), (2, .inl v2), (3, .inl v3)]) (st' := [.inl v1, .inr (.inr (some v0))]) (pc' := 2) rfl ?_
  obtain ⟨a2, ha2, h⟩ := gob h
  obtain ⟨q2, hq2, h⟩ := gob h
  refine Wx.callV ok kX6_sheet 2 rfl lm_RX6_58 cd_X6_sheetAt ha2 [.inl v1] (some (.inr (.inr q2.1))) (aX6_sheetAt _ _ hq2) (by decide) rfl (Nat.le_of_ble_eq_true rfl) rfl rfl ?_
  refine Wx.run ok kX6_sheet 3 2 (lv' := [(4, .inr (.inr q2.1)), (0, .inr (.inr (some v0))), (1, .inl v1), (2, .inl v2), (3, .inl v3)]) (st' := [.inr (.inr q2.1)]) (pc' := 9) rfl ?_
  refine Wx.ifnull ok kX6_sheet 5 (tgt := 26) rfl (by decide) h (fun hc9 h => ?_) (fun hc9 h => ?_)
  · refine Wx.run ok kX6_sheet 12 1 (lv' := [(4, .inr (.inr q2.1)), (0, .inr (.inr (some v0))), (1, .inl v1), (2, .inl v2), (3, .inl v3)]) (st' := [.inl (-1 : Int32)]) (pc' := 27) rfl ?_
    exact Wx.ireturn ok kX6_sheet 13 rfl hres h (by decide)
  · refine Wx.run ok kX6_sheet 6 1 (lv' := [(4, .inr (.inr q2.1)), (0, .inr (.inr (some v0))), (1, .inl v1), (2, .inl v2), (3, .inl v3)]) (st' := [.inl v2]) (pc' := 13) rfl ?_
    obtain ⟨q13, hq13, h⟩ := gob h
    refine Wx.callS ok kX6_sheet 7 rfl lm_RX6_62 cd_X6_isLane [.inl v2] (some (.inl q13.1)) (aX6_isLane _ _ hq13) (by decide) rfl (Nat.le_of_ble_eq_true rfl) rfl rfl ?_
    refine Wx.if_eq ok kX6_sheet 8 (tgt := 26) rfl (by decide) h (fun hc16 h => ?_) (fun hc16 h => ?_)
    · refine Wx.run ok kX6_sheet 12 1 (lv' := [(4, .inr (.inr q2.1)), (0, .inr (.inr (some v0))), (1, .inl v1), (2, .inl v2), (3, .inl v3)]) (st' := [.inl (-1 : Int32)]) (pc' := 27) rfl ?_
      exact Wx.ireturn ok kX6_sheet 13 rfl hres h (by decide)
    · refine Wx.run ok kX6_sheet 9 2 (lv' := [(4, .inr (.inr q2.1)), (0, .inr (.inr (some v0))), (1, .inl v1), (2, .inl v2), (3, .inl v3)]) (st' := [.inl (144 : Int32), .inl v3]) (pc' := 23) rfl ?_
      refine Wx.icmp_le ok kX6_sheet 11 (tgt := 28) rfl (by decide) h (fun hc23 h => ?_) (fun hc23 h => ?_)
      · refine Wx.run ok kX6_sheet 14 1 (lv' := [(4, .inr (.inr q2.1)), (0, .inr (.inr (some v0))), (1, .inl v1), (2, .inl v2), (3, .inl v3)]) (st' := [.inl v3]) (pc' := 29) rfl ?_
        refine Wx.if_ge ok kX6_sheet 15 (tgt := 35) rfl (by decide) h (fun hc29 h => ?_) (fun hc29 h => ?_)
        · refine Wx.run ok kX6_sheet 18 3 (lv' := [(4, .inr (.inr q2.1)), (0, .inr (.inr (some v0))), (1, .inl v1), (2, .inl v2), (3, .inl v3)]) (st' := [.inl v3, .inl v2, .inr (.inr q2.1)]) (pc' := 39) rfl ?_
          obtain ⟨a39, ha39, h⟩ := gob h
          obtain ⟨q39, hq39, h⟩ := gob h
          refine Wx.callV ok kX6_sheet 21 rfl lm_RX6_66 cd_X4_renew ha39 [.inl v2, .inl v3] none (aX4_renew _ _ hq39) (by decide) rfl (Nat.le_of_ble_eq_true rfl) rfl rfl ?_
          refine Wx.run ok kX6_sheet 22 1 (lv' := [(4, .inr (.inr q2.1)), (0, .inr (.inr (some v0))), (1, .inl v1), (2, .inl v2), (3, .inl v3)]) (st' := [.inl (1 : Int32)]) (pc' := 43) rfl ?_
          exact Wx.ireturn ok kX6_sheet 23 rfl hres h (by decide)
        · refine Wx.run ok kX6_sheet 16 1 (lv' := [(4, .inr (.inr q2.1)), (0, .inr (.inr (some v0))), (1, .inl v1), (2, .inl v2), (3, .inl v3)]) (st' := [.inl (-14 : Int32)]) (pc' := 34) rfl ?_
          exact Wx.ireturn ok kX6_sheet 17 rfl hres h (by decide)
      · refine Wx.run ok kX6_sheet 12 1 (lv' := [(4, .inr (.inr q2.1)), (0, .inr (.inr (some v0))), (1, .inl v1), (2, .inl v2), (3, .inl v3)]) (st' := [.inl (-1 : Int32)]) (pc' := 27) rfl ?_
        exact Wx.ireturn ok kX6_sheet 13 rfl hres h (by decide)
set_option maxRecDepth 100000 in
set_option maxHeartbeats 4000000 in
theorem aX7_bounds_b153 {X : gX} (ok : gOk X cX7_bounds RX7 7 none rmX7_bounds) {res : gW} (hres : gRs X none res) {F : Nat} (r : Nat → Int32 → Int32 → Int32 → Int32 → Int32 → gW → Option (gW)) (k162 : Nat → Int32 → Int32 → Int32 → Int32 → gW → Option (gW)) (hr : ∀ (v0 : Nat) (v1 : Int32) (v2 : Int32) (v3 : Int32) (v4 : Int32) (v5 : Int32) (w : gW), r v0 v1 v2 v3 v4 v5 w = some res → Wx X w 0 0 54 [(0, .inr (.inr (some v0))), (1, .inl v1), (2, .inl v2), (3, .inl v3), (4, .inl v4), (5, .inl v5)] []) (hk162 : ∀ (v0 : Nat) (v1 : Int32) (v2 : Int32) (v3 : Int32) (v4 : Int32) (w : gW), k162 v0 v1 v2 v3 v4 w = some res → Wx X w 0 0 162 [(0, .inr (.inr (some v0))), (1, .inl v1), (2, .inl v2), (3, .inl v3), (4, .inl v4)] []) : ∀ (v0 : Nat) (v1 : Int32) (v2 : Int32) (v3 : Int32) (v4 : Int32) (v5 : Int32) (s0 : Option Nat) (s1 : Int32) (s2 : Int32) (w : gW), mX7_bounds_b153 F r k162 v0 v1 v2 v3 v4 v5 s0 s1 s2 w = some res → Wx X w 0 0 153 [(0, .inr (.inr (some v0))), (1, .inl v1), (2, .inl v2), (3, .inl v3), (4, .inl v4), (5, .inl v5)] [.inl s2, .inl s1, .inr (.inr s0)] := by
  intro v0 v1 v2 v3 v4 v5 s0 s1 s2 w h
  unfold mX7_bounds_b153 at h
  obtain ⟨a153, ha153, h⟩ := gob h
  obtain ⟨q153, hq153, h⟩ := gob h
  refine Wx.callV ok kX7_bounds 84 rfl lm_RX7_223 cd_X7_addTo ha153 [.inl s1, .inl s2] none (aX7_addTo _ _ hq153) (by decide) rfl (Nat.le_of_ble_eq_true rfl) rfl rfl ?_
  refine Wx.run ok kX7_bounds 85 1 (lv' := [(5, .inl (v5 + (1 : Int32))), (0, .inr (.inr (some v0))), (1, .inl v1), (2, .inl v2), (3, .inl v3), (4, .inl v4)]) (st' := []) (pc' := 159) rfl ?_
  refine Wx.jump ok kX7_bounds 86 (tgt := 54) rfl (by decide) ?_
  refine Wx.sub [1, 2, 3, 4, 5, 0] rfl ?_
  exact hr _ _ _ _ _ _ _ h
set_option maxRecDepth 100000 in
set_option maxHeartbeats 4000000 in
theorem aX7_bounds_b152 {X : gX} (ok : gOk X cX7_bounds RX7 7 none rmX7_bounds) {res : gW} (hres : gRs X none res) {F : Nat} (r : Nat → Int32 → Int32 → Int32 → Int32 → Int32 → gW → Option (gW)) (k162 : Nat → Int32 → Int32 → Int32 → Int32 → gW → Option (gW)) (hr : ∀ (v0 : Nat) (v1 : Int32) (v2 : Int32) (v3 : Int32) (v4 : Int32) (v5 : Int32) (w : gW), r v0 v1 v2 v3 v4 v5 w = some res → Wx X w 0 0 54 [(0, .inr (.inr (some v0))), (1, .inl v1), (2, .inl v2), (3, .inl v3), (4, .inl v4), (5, .inl v5)] []) (hk162 : ∀ (v0 : Nat) (v1 : Int32) (v2 : Int32) (v3 : Int32) (v4 : Int32) (w : gW), k162 v0 v1 v2 v3 v4 w = some res → Wx X w 0 0 162 [(0, .inr (.inr (some v0))), (1, .inl v1), (2, .inl v2), (3, .inl v3), (4, .inl v4)] []) : ∀ (v0 : Nat) (v1 : Int32) (v2 : Int32) (v3 : Int32) (v4 : Int32) (v5 : Int32) (s0 : Option Nat) (s1 : Int32) (w : gW), mX7_bounds_b152 F r k162 v0 v1 v2 v3 v4 v5 s0 s1 w = some res → Wx X w 0 0 152 [(0, .inr (.inr (some v0))), (1, .inl v1), (2, .inl v2), (3, .inl v3), (4, .inl v4), (5, .inl v5)] [.inl s1, .inr (.inr s0)] := by
  intro v0 v1 v2 v3 v4 v5 s0 s1 w h
  unfold mX7_bounds_b152 at h
  refine Wx.run ok kX7_bounds 83 1 (lv' := [(0, .inr (.inr (some v0))), (1, .inl v1), (2, .inl v2), (3, .inl v3), (4, .inl v4), (5, .inl v5)]) (st' := [.inl (0 : Int32), .inl s1, .inr (.inr s0)]) (pc' := 153) rfl ?_
  exact aX7_bounds_b153 ok hres (F := F) r k162 hr hk162 _ _ _ _ _ _ _ _ _ _ h
set_option maxRecDepth 100000 in
set_option maxHeartbeats 4000000 in
theorem aX7_bounds_b121 {X : gX} (ok : gOk X cX7_bounds RX7 7 none rmX7_bounds) {res : gW} (hres : gRs X none res) {F : Nat} (r : Nat → Int32 → Int32 → Int32 → Int32 → Int32 → gW → Option (gW)) (k162 : Nat → Int32 → Int32 → Int32 → Int32 → gW → Option (gW)) (hr : ∀ (v0 : Nat) (v1 : Int32) (v2 : Int32) (v3 : Int32) (v4 : Int32) (v5 : Int32) (w : gW), r v0 v1 v2 v3 v4 v5 w = some res → Wx X w 0 0 54 [(0, .inr (.inr (some v0))), (1, .inl v1), (2, .inl v2), (3, .inl v3), (4, .inl v4), (5, .inl v5)] []) (hk162 : ∀ (v0 : Nat) (v1 : Int32) (v2 : Int32) (v3 : Int32) (v4 : Int32) (w : gW), k162 v0 v1 v2 v3 v4 w = some res → Wx X w 0 0 162 [(0, .inr (.inr (some v0))), (1, .inl v1), (2, .inl v2), (3, .inl v3), (4, .inl v4)] []) : ∀ (v0 : Nat) (v1 : Int32) (v2 : Int32) (v3 : Int32) (v4 : Int32) (v5 : Int32) (v6 : Int32) (s0 : Option Nat) (s1 : Int32) (s2 : Int32) (w : gW), mX7_bounds_b121 F r k162 v0 v1 v2 v3 v4 v5 v6 s0 s1 s2 w = some res → Wx X w 0 0 121 [(0, .inr (.inr (some v0))), (1, .inl v1), (2, .inl v2), (3, .inl v3), (4, .inl v4), (5, .inl v5), (6, .inl v6)] [.inl s2, .inl s1, .inr (.inr s0)] := by
  intro v0 v1 v2 v3 v4 v5 v6 s0 s1 s2 w h
  unfold mX7_bounds_b121 at h
  obtain ⟨a121, ha121, h⟩ := gob h
  obtain ⟨q121, hq121, h⟩ := gob h
  refine Wx.callV ok kX7_bounds 67 rfl lm_RX7_223 cd_X7_addTo ha121 [.inl s1, .inl s2] none (aX7_addTo _ _ hq121) (by decide) rfl (Nat.le_of_ble_eq_true rfl) rfl rfl ?_
  refine Wx.run ok kX7_bounds 68 4 (lv' := [(0, .inr (.inr (some v0))), (1, .inl v1), (2, .inl v2), (3, .inl v3), (4, .inl v4), (5, .inl v5), (6, .inl v6)]) (st' := [.inr (.inr (some v0)), .inr (.inr (some v0)), .inl v6, .inr (.inr (some v0))]) (pc' := 129) rfl ?_
  refine Wx.getI ok kX7_bounds 72 rfl lk_RX7_217_0 h (fun t129 h => ?_)
  refine Wx.run ok kX7_bounds 73 2 (lv' := [(0, .inr (.inr (some v0))), (1, .inl v1), (2, .inl v2), (3, .inl v3), (4, .inl v4), (5, .inl v5), (6, .inl v6)]) (st' := [.inl v4, .inl v3, .inl t129, .inr (.inr (some v0)), .inl v6, .inr (.inr (some v0))]) (pc' := 135) rfl ?_
  obtain ⟨a135, ha135, h⟩ := gob h
  obtain ⟨q135, hq135, h⟩ := gob h
  refine Wx.callV ok kX7_bounds 75 rfl lm_RX7_118 cd_X7_prod ha135 [.inl t129, .inl v3, .inl v4] (some (.inl q135.1)) (aX7_prod _ _ hq135) (by decide) rfl (Nat.le_of_ble_eq_true rfl) rfl rfl ?_
  refine Wx.run ok kX7_bounds 76 1 (lv' := [(0, .inr (.inr (some v0))), (1, .inl v1), (2, .inl v2), (3, .inl v3), (4, .inl v4), (5, .inl v5), (6, .inl v6)]) (st' := [.inl v1, .inl q135.1, .inl v6, .inr (.inr (some v0))]) (pc' := 139) rfl ?_
  refine Wx.icmp_ne ok kX7_bounds 77 (tgt := 152) rfl (by decide) h (fun hc139 h => ?_) (fun hc139 h => ?_)
  · refine Wx.run ok kX7_bounds 78 2 (lv' := [(0, .inr (.inr (some v0))), (1, .inl v1), (2, .inl v2), (3, .inl v3), (4, .inl v4), (5, .inl v5), (6, .inl v6)]) (st' := [.inl v2, .inl v5, .inl v6, .inr (.inr (some v0))]) (pc' := 145) rfl ?_
    refine Wx.icmp_ne ok kX7_bounds 80 (tgt := 152) rfl (by decide) h (fun hc145 h => ?_) (fun hc145 h => ?_)
    · refine Wx.run ok kX7_bounds 81 1 (lv' := [(0, .inr (.inr (some v0))), (1, .inl v1), (2, .inl v2), (3, .inl v3), (4, .inl v4), (5, .inl v5), (6, .inl v6)]) (st' := [.inl (-1 : Int32), .inl v6, .inr (.inr (some v0))]) (pc' := 149) rfl ?_
      refine Wx.jump ok kX7_bounds 82 (tgt := 153) rfl (by decide) ?_
      refine Wx.sub [0, 1, 2, 3, 4, 5] rfl ?_
      exact aX7_bounds_b153 ok hres (F := F) r k162 hr hk162 _ _ _ _ _ _ _ _ _ _ h
    · refine Wx.sub [0, 1, 2, 3, 4, 5] rfl ?_
      exact aX7_bounds_b152 ok hres (F := F) r k162 hr hk162 _ _ _ _ _ _ _ _ _ h
  · refine Wx.sub [0, 1, 2, 3, 4, 5] rfl ?_
    exact aX7_bounds_b152 ok hres (F := F) r k162 hr hk162 _ _ _ _ _ _ _ _ _ h
set_option maxRecDepth 100000 in
set_option maxHeartbeats 4000000 in
theorem aX7_bounds_b93 {X : gX} (ok : gOk X cX7_bounds RX7 7 none rmX7_bounds) {res : gW} (hres : gRs X none res) {F : Nat} (r : Nat → Int32 → Int32 → Int32 → Int32 → Int32 → gW → Option (gW)) (k162 : Nat → Int32 → Int32 → Int32 → Int32 → gW → Option (gW)) (hr : ∀ (v0 : Nat) (v1 : Int32) (v2 : Int32) (v3 : Int32) (v4 : Int32) (v5 : Int32) (w : gW), r v0 v1 v2 v3 v4 v5 w = some res → Wx X w 0 0 54 [(0, .inr (.inr (some v0))), (1, .inl v1), (2, .inl v2), (3, .inl v3), (4, .inl v4), (5, .inl v5)] []) (hk162 : ∀ (v0 : Nat) (v1 : Int32) (v2 : Int32) (v3 : Int32) (v4 : Int32) (w : gW), k162 v0 v1 v2 v3 v4 w = some res → Wx X w 0 0 162 [(0, .inr (.inr (some v0))), (1, .inl v1), (2, .inl v2), (3, .inl v3), (4, .inl v4)] []) : ∀ (v0 : Nat) (v1 : Int32) (v2 : Int32) (v3 : Int32) (v4 : Int32) (v5 : Int32) (v6 : Int32) (s0 : Option Nat) (s1 : Int32) (s2 : Int32) (w : gW), mX7_bounds_b93 F r k162 v0 v1 v2 v3 v4 v5 v6 s0 s1 s2 w = some res → Wx X w 0 0 93 [(0, .inr (.inr (some v0))), (1, .inl v1), (2, .inl v2), (3, .inl v3), (4, .inl v4), (5, .inl v5), (6, .inl v6)] [.inl s2, .inl s1, .inr (.inr s0)] := by
  intro v0 v1 v2 v3 v4 v5 v6 s0 s1 s2 w h
  unfold mX7_bounds_b93 at h
  obtain ⟨a93, ha93, h⟩ := gob h
  obtain ⟨q93, hq93, h⟩ := gob h
  refine Wx.callV ok kX7_bounds 52 rfl lm_RX7_223 cd_X7_addTo ha93 [.inl s1, .inl s2] none (aX7_addTo _ _ hq93) (by decide) rfl (Nat.le_of_ble_eq_true rfl) rfl rfl ?_
  refine Wx.run ok kX7_bounds 53 4 (lv' := [(0, .inr (.inr (some v0))), (1, .inl v1), (2, .inl v2), (3, .inl v3), (4, .inl v4), (5, .inl v5), (6, .inl v6)]) (st' := [.inl v1, .inl v4, .inl v6, .inr (.inr (some v0))]) (pc' := 102) rfl ?_
  refine Wx.icmp_ne ok kX7_bounds 57 (tgt := 120) rfl (by decide) h (fun hc102 h => ?_) (fun hc102 h => ?_)
  · refine Wx.run ok kX7_bounds 58 2 (lv' := [(0, .inr (.inr (some v0))), (1, .inl v1), (2, .inl v2), (3, .inl v3), (4, .inl v4), (5, .inl v5), (6, .inl v6)]) (st' := [.inr (.inr (some v0)), .inr (.inr (some v0)), .inl v6, .inr (.inr (some v0))]) (pc' := 107) rfl ?_
    refine Wx.getI ok kX7_bounds 60 rfl lk_RX7_214_0 h (fun t107 h => ?_)
    refine Wx.run ok kX7_bounds 61 3 (lv' := [(0, .inr (.inr (some v0))), (1, .inl v1), (2, .inl v2), (3, .inl v3), (4, .inl v4), (5, .inl v5), (6, .inl v6)]) (st' := [.inl v2, .inl v5, .inl v3, .inl t107, .inr (.inr (some v0)), .inl v6, .inr (.inr (some v0))]) (pc' := 114) rfl ?_
    obtain ⟨a114, ha114, h⟩ := gob h
    obtain ⟨q114, hq114, h⟩ := gob h
    refine Wx.callV ok kX7_bounds 64 rfl lm_RX7_193 cd_X7_matrix ha114 [.inl t107, .inl v3, .inl v5, .inl v2] (some (.inl q114.1)) (aX7_matrix _ _ hq114) (by decide) rfl (Nat.le_of_ble_eq_true rfl) rfl rfl ?_
    refine Wx.jump ok kX7_bounds 65 (tgt := 121) rfl (by decide) ?_
    exact aX7_bounds_b121 ok hres (F := F) r k162 hr hk162 _ _ _ _ _ _ _ _ _ _ _ h
  · refine Wx.run ok kX7_bounds 66 1 (lv' := [(0, .inr (.inr (some v0))), (1, .inl v1), (2, .inl v2), (3, .inl v3), (4, .inl v4), (5, .inl v5), (6, .inl v6)]) (st' := [.inl (0 : Int32), .inl v6, .inr (.inr (some v0))]) (pc' := 121) rfl ?_
    exact aX7_bounds_b121 ok hres (F := F) r k162 hr hk162 _ _ _ _ _ _ _ _ _ _ _ h
set_option maxRecDepth 100000 in
set_option maxHeartbeats 4000000 in
theorem aX7_bounds_b92 {X : gX} (ok : gOk X cX7_bounds RX7 7 none rmX7_bounds) {res : gW} (hres : gRs X none res) {F : Nat} (r : Nat → Int32 → Int32 → Int32 → Int32 → Int32 → gW → Option (gW)) (k162 : Nat → Int32 → Int32 → Int32 → Int32 → gW → Option (gW)) (hr : ∀ (v0 : Nat) (v1 : Int32) (v2 : Int32) (v3 : Int32) (v4 : Int32) (v5 : Int32) (w : gW), r v0 v1 v2 v3 v4 v5 w = some res → Wx X w 0 0 54 [(0, .inr (.inr (some v0))), (1, .inl v1), (2, .inl v2), (3, .inl v3), (4, .inl v4), (5, .inl v5)] []) (hk162 : ∀ (v0 : Nat) (v1 : Int32) (v2 : Int32) (v3 : Int32) (v4 : Int32) (w : gW), k162 v0 v1 v2 v3 v4 w = some res → Wx X w 0 0 162 [(0, .inr (.inr (some v0))), (1, .inl v1), (2, .inl v2), (3, .inl v3), (4, .inl v4)] []) : ∀ (v0 : Nat) (v1 : Int32) (v2 : Int32) (v3 : Int32) (v4 : Int32) (v5 : Int32) (v6 : Int32) (s0 : Option Nat) (s1 : Int32) (w : gW), mX7_bounds_b92 F r k162 v0 v1 v2 v3 v4 v5 v6 s0 s1 w = some res → Wx X w 0 0 92 [(0, .inr (.inr (some v0))), (1, .inl v1), (2, .inl v2), (3, .inl v3), (4, .inl v4), (5, .inl v5), (6, .inl v6)] [.inl s1, .inr (.inr s0)] := by
  intro v0 v1 v2 v3 v4 v5 v6 s0 s1 w h
  unfold mX7_bounds_b92 at h
  refine Wx.run ok kX7_bounds 51 1 (lv' := [(0, .inr (.inr (some v0))), (1, .inl v1), (2, .inl v2), (3, .inl v3), (4, .inl v4), (5, .inl v5), (6, .inl v6)]) (st' := [.inl (0 : Int32), .inl s1, .inr (.inr s0)]) (pc' := 93) rfl ?_
  exact aX7_bounds_b93 ok hres (F := F) r k162 hr hk162 _ _ _ _ _ _ _ _ _ _ _ h
set_option maxRecDepth 100000 in
set_option maxHeartbeats 4000000 in
theorem aX7_bounds_h54 {X : gX} (ok : gOk X cX7_bounds RX7 7 none rmX7_bounds) {res : gW} (hres : gRs X none res) {F : Nat} (r : Nat → Int32 → Int32 → Int32 → Int32 → Int32 → gW → Option (gW)) (k162 : Nat → Int32 → Int32 → Int32 → Int32 → gW → Option (gW)) (hr : ∀ (v0 : Nat) (v1 : Int32) (v2 : Int32) (v3 : Int32) (v4 : Int32) (v5 : Int32) (w : gW), r v0 v1 v2 v3 v4 v5 w = some res → Wx X w 0 0 54 [(0, .inr (.inr (some v0))), (1, .inl v1), (2, .inl v2), (3, .inl v3), (4, .inl v4), (5, .inl v5)] []) (hk162 : ∀ (v0 : Nat) (v1 : Int32) (v2 : Int32) (v3 : Int32) (v4 : Int32) (w : gW), k162 v0 v1 v2 v3 v4 w = some res → Wx X w 0 0 162 [(0, .inr (.inr (some v0))), (1, .inl v1), (2, .inl v2), (3, .inl v3), (4, .inl v4)] []) : ∀ (v0 : Nat) (v1 : Int32) (v2 : Int32) (v3 : Int32) (v4 : Int32) (v5 : Int32) (w : gW), mX7_bounds_h54 F r k162 v0 v1 v2 v3 v4 v5 w = some res → Wx X w 0 0 54 [(0, .inr (.inr (some v0))), (1, .inl v1), (2, .inl v2), (3, .inl v3), (4, .inl v4), (5, .inl v5)] [] := by
  intro v0 v1 v2 v3 v4 v5 w h
  unfold mX7_bounds_h54 at h
  refine Wx.run ok kX7_bounds 31 2 (lv' := [(0, .inr (.inr (some v0))), (1, .inl v1), (2, .inl v2), (3, .inl v3), (4, .inl v4), (5, .inl v5)]) (st' := [.inr (.inr (some v0)), .inl v5]) (pc' := 57) rfl ?_
  refine Wx.getI ok kX7_bounds 33 rfl lk_RX7_211_0 h (fun t57 h => ?_)
  refine Wx.icmp_ge ok kX7_bounds 34 (tgt := 162) rfl (by decide) h (fun hc60 h => ?_) (fun hc60 h => ?_)
  · refine Wx.sub [0, 1, 2, 3, 4] rfl ?_
    exact hk162 _ _ _ _ _ _ h
  · refine Wx.run ok kX7_bounds 35 4 (lv' := [(0, .inr (.inr (some v0))), (1, .inl v1), (2, .inl v2), (3, .inl v3), (4, .inl v4), (5, .inl v5)]) (st' := [.inl v5, .inl v4, .inl v3, .inr (.inr (some v0))]) (pc' := 69) rfl ?_
    obtain ⟨a69, ha69, h⟩ := gob h
    obtain ⟨q69, hq69, h⟩ := gob h
    refine Wx.callV ok kX7_bounds 39 rfl lm_RX7_233 cd_X7_placeOf ha69 [.inl v3, .inl v4, .inl v5] (some (.inl q69.1)) (aX7_placeOf _ _ hq69) (by decide) rfl (Nat.le_of_ble_eq_true rfl) rfl rfl ?_
    refine Wx.run ok kX7_bounds 40 5 (lv' := [(6, .inl q69.1), (0, .inr (.inr (some v0))), (1, .inl v1), (2, .inl v2), (3, .inl v3), (4, .inl v4), (5, .inl v5)]) (st' := [.inl v1, .inl v3, .inl q69.1, .inr (.inr (some v0))]) (pc' := 79) rfl ?_
    refine Wx.icmp_ne ok kX7_bounds 45 (tgt := 92) rfl (by decide) h (fun hc79 h => ?_) (fun hc79 h => ?_)
    · refine Wx.run ok kX7_bounds 46 2 (lv' := [(6, .inl q69.1), (0, .inr (.inr (some v0))), (1, .inl v1), (2, .inl v2), (3, .inl v3), (4, .inl v4), (5, .inl v5)]) (st' := [.inl v2, .inl v5, .inl q69.1, .inr (.inr (some v0))]) (pc' := 85) rfl ?_
      refine Wx.icmp_ne ok kX7_bounds 48 (tgt := 92) rfl (by decide) h (fun hc85 h => ?_) (fun hc85 h => ?_)
      · refine Wx.run ok kX7_bounds 49 1 (lv' := [(6, .inl q69.1), (0, .inr (.inr (some v0))), (1, .inl v1), (2, .inl v2), (3, .inl v3), (4, .inl v4), (5, .inl v5)]) (st' := [.inl (1 : Int32), .inl q69.1, .inr (.inr (some v0))]) (pc' := 89) rfl ?_
        refine Wx.jump ok kX7_bounds 50 (tgt := 93) rfl (by decide) ?_
        refine Wx.sub [1, 2, 3, 4, 5, 6, 0] rfl ?_
        exact aX7_bounds_b93 ok hres (F := F) r k162 hr hk162 _ _ _ _ _ _ _ _ _ _ _ h
      · refine Wx.sub [1, 2, 3, 4, 5, 6, 0] rfl ?_
        exact aX7_bounds_b92 ok hres (F := F) r k162 hr hk162 _ _ _ _ _ _ _ _ _ _ h
    · refine Wx.sub [1, 2, 3, 4, 5, 6, 0] rfl ?_
      exact aX7_bounds_b92 ok hres (F := F) r k162 hr hk162 _ _ _ _ _ _ _ _ _ _ h
set_option maxRecDepth 100000 in
set_option maxHeartbeats 4000000 in
theorem aX7_bounds_l54 {X : gX} (ok : gOk X cX7_bounds RX7 7 none rmX7_bounds) {res : gW} (hres : gRs X none res) {F : Nat} (k162 : Nat → Int32 → Int32 → Int32 → Int32 → gW → Option (gW)) (hk162 : ∀ (v0 : Nat) (v1 : Int32) (v2 : Int32) (v3 : Int32) (v4 : Int32) (w : gW), k162 v0 v1 v2 v3 v4 w = some res → Wx X w 0 0 162 [(0, .inr (.inr (some v0))), (1, .inl v1), (2, .inl v2), (3, .inl v3), (4, .inl v4)] []) : ∀ (n : Nat) (v0 : Nat) (v1 : Int32) (v2 : Int32) (v3 : Int32) (v4 : Int32) (v5 : Int32) (w : gW), mX7_bounds_l54 F k162 n v0 v1 v2 v3 v4 v5 w = some res → Wx X w 0 0 54 [(0, .inr (.inr (some v0))), (1, .inl v1), (2, .inl v2), (3, .inl v3), (4, .inl v4), (5, .inl v5)] [] := by
  intro n
  induction n with
  | zero => intro v0 v1 v2 v3 v4 v5 w h; cases (show (none : Option (gW)) = some res from h)
  | succ n ih =>
    intro v0 v1 v2 v3 v4 v5 w h
    exact aX7_bounds_h54 ok hres (F := F) (mX7_bounds_l54 F k162 n) k162 ih hk162 v0 v1 v2 v3 v4 v5 w h
set_option maxRecDepth 100000 in
set_option maxHeartbeats 4000000 in
theorem aX7_bounds_h42 {X : gX} (ok : gOk X cX7_bounds RX7 7 none rmX7_bounds) {res : gW} (hres : gRs X none res) {F : Nat} (r : Nat → Int32 → Int32 → Int32 → Int32 → gW → Option (gW)) (k168 : Nat → Int32 → Int32 → Int32 → gW → Option (gW)) (hr : ∀ (v0 : Nat) (v1 : Int32) (v2 : Int32) (v3 : Int32) (v4 : Int32) (w : gW), r v0 v1 v2 v3 v4 w = some res → Wx X w 0 0 42 [(0, .inr (.inr (some v0))), (1, .inl v1), (2, .inl v2), (3, .inl v3), (4, .inl v4)] []) (hk168 : ∀ (v0 : Nat) (v1 : Int32) (v2 : Int32) (v3 : Int32) (w : gW), k168 v0 v1 v2 v3 w = some res → Wx X w 0 0 168 [(0, .inr (.inr (some v0))), (1, .inl v1), (2, .inl v2), (3, .inl v3)] []) : ∀ (v0 : Nat) (v1 : Int32) (v2 : Int32) (v3 : Int32) (v4 : Int32) (w : gW), mX7_bounds_h42 F r k168 v0 v1 v2 v3 v4 w = some res → Wx X w 0 0 42 [(0, .inr (.inr (some v0))), (1, .inl v1), (2, .inl v2), (3, .inl v3), (4, .inl v4)] [] := by
  intro v0 v1 v2 v3 v4 w h
  unfold mX7_bounds_h42 at h
  refine Wx.run ok kX7_bounds 25 2 (lv' := [(0, .inr (.inr (some v0))), (1, .inl v1), (2, .inl v2), (3, .inl v3), (4, .inl v4)]) (st' := [.inr (.inr (some v0)), .inl v4]) (pc' := 45) rfl ?_
  refine Wx.getI ok kX7_bounds 27 rfl lk_RX7_208_0 h (fun t45 h => ?_)
  refine Wx.icmp_ge ok kX7_bounds 28 (tgt := 168) rfl (by decide) h (fun hc48 h => ?_) (fun hc48 h => ?_)
  · refine Wx.sub [0, 1, 2, 3] rfl ?_
    exact hk168 _ _ _ _ _ h
  · refine Wx.run ok kX7_bounds 29 2 (lv' := [(5, .inl (0 : Int32)), (0, .inr (.inr (some v0))), (1, .inl v1), (2, .inl v2), (3, .inl v3), (4, .inl v4)]) (st' := []) (pc' := 54) rfl ?_
    refine Wx.sub [1, 2, 3, 4, 5, 0] rfl ?_
    refine aX7_bounds_l54 ok hres (F := F) _ ?_ F _ _ _ _ _ _ _ h
    · intro v0 v1 v2 v3 v4 w h
      refine Wx.run ok kX7_bounds 87 1 (lv' := [(4, .inl (v4 + (1 : Int32))), (0, .inr (.inr (some v0))), (1, .inl v1), (2, .inl v2), (3, .inl v3)]) (st' := []) (pc' := 165) rfl ?_
      refine Wx.jump ok kX7_bounds 88 (tgt := 42) rfl (by decide) ?_
      refine Wx.sub [1, 2, 3, 4, 0] rfl ?_
      exact hr _ _ _ _ _ _ h
set_option maxRecDepth 100000 in
set_option maxHeartbeats 4000000 in
theorem aX7_bounds_l42 {X : gX} (ok : gOk X cX7_bounds RX7 7 none rmX7_bounds) {res : gW} (hres : gRs X none res) {F : Nat} (k168 : Nat → Int32 → Int32 → Int32 → gW → Option (gW)) (hk168 : ∀ (v0 : Nat) (v1 : Int32) (v2 : Int32) (v3 : Int32) (w : gW), k168 v0 v1 v2 v3 w = some res → Wx X w 0 0 168 [(0, .inr (.inr (some v0))), (1, .inl v1), (2, .inl v2), (3, .inl v3)] []) : ∀ (n : Nat) (v0 : Nat) (v1 : Int32) (v2 : Int32) (v3 : Int32) (v4 : Int32) (w : gW), mX7_bounds_l42 F k168 n v0 v1 v2 v3 v4 w = some res → Wx X w 0 0 42 [(0, .inr (.inr (some v0))), (1, .inl v1), (2, .inl v2), (3, .inl v3), (4, .inl v4)] [] := by
  intro n
  induction n with
  | zero => intro v0 v1 v2 v3 v4 w h; cases (show (none : Option (gW)) = some res from h)
  | succ n ih =>
    intro v0 v1 v2 v3 v4 w h
    exact aX7_bounds_h42 ok hres (F := F) (mX7_bounds_l42 F k168 n) k168 ih hk168 v0 v1 v2 v3 v4 w h
set_option maxRecDepth 100000 in
set_option maxHeartbeats 4000000 in
theorem aX7_bounds_h31 {X : gX} (ok : gOk X cX7_bounds RX7 7 none rmX7_bounds) {res : gW} (hres : gRs X none res) {F : Nat} (r : Nat → Int32 → Int32 → Int32 → gW → Option (gW)) (k174 : Nat → Int32 → Int32 → gW → Option (gW)) (hr : ∀ (v0 : Nat) (v1 : Int32) (v2 : Int32) (v3 : Int32) (w : gW), r v0 v1 v2 v3 w = some res → Wx X w 0 0 31 [(0, .inr (.inr (some v0))), (1, .inl v1), (2, .inl v2), (3, .inl v3)] []) (hk174 : ∀ (v0 : Nat) (v1 : Int32) (v2 : Int32) (w : gW), k174 v0 v1 v2 w = some res → Wx X w 0 0 174 [(0, .inr (.inr (some v0))), (1, .inl v1), (2, .inl v2)] []) : ∀ (v0 : Nat) (v1 : Int32) (v2 : Int32) (v3 : Int32) (w : gW), mX7_bounds_h31 F r k174 v0 v1 v2 v3 w = some res → Wx X w 0 0 31 [(0, .inr (.inr (some v0))), (1, .inl v1), (2, .inl v2), (3, .inl v3)] [] := by
  intro v0 v1 v2 v3 w h
  unfold mX7_bounds_h31 at h
  refine Wx.run ok kX7_bounds 19 2 (lv' := [(0, .inr (.inr (some v0))), (1, .inl v1), (2, .inl v2), (3, .inl v3)]) (st' := [.inr (.inr (some v0)), .inl v3]) (pc' := 33) rfl ?_
  refine Wx.getI ok kX7_bounds 21 rfl lk_RX7_208_0 h (fun t33 h => ?_)
  refine Wx.icmp_ge ok kX7_bounds 22 (tgt := 174) rfl (by decide) h (fun hc36 h => ?_) (fun hc36 h => ?_)
  · refine Wx.sub [0, 1, 2] rfl ?_
    exact hk174 _ _ _ _ h
  · refine Wx.run ok kX7_bounds 23 2 (lv' := [(4, .inl (1 : Int32)), (0, .inr (.inr (some v0))), (1, .inl v1), (2, .inl v2), (3, .inl v3)]) (st' := []) (pc' := 42) rfl ?_
    refine Wx.sub [1, 2, 3, 4, 0] rfl ?_
    refine aX7_bounds_l42 ok hres (F := F) _ ?_ F _ _ _ _ _ _ h
    · intro v0 v1 v2 v3 w h
      refine Wx.run ok kX7_bounds 89 1 (lv' := [(3, .inl (v3 + (1 : Int32))), (0, .inr (.inr (some v0))), (1, .inl v1), (2, .inl v2)]) (st' := []) (pc' := 171) rfl ?_
      refine Wx.jump ok kX7_bounds 90 (tgt := 31) rfl (by decide) ?_
      refine Wx.sub [1, 2, 3, 0] rfl ?_
      exact hr _ _ _ _ _ h
set_option maxRecDepth 100000 in
set_option maxHeartbeats 4000000 in
theorem aX7_bounds_l31 {X : gX} (ok : gOk X cX7_bounds RX7 7 none rmX7_bounds) {res : gW} (hres : gRs X none res) {F : Nat} (k174 : Nat → Int32 → Int32 → gW → Option (gW)) (hk174 : ∀ (v0 : Nat) (v1 : Int32) (v2 : Int32) (w : gW), k174 v0 v1 v2 w = some res → Wx X w 0 0 174 [(0, .inr (.inr (some v0))), (1, .inl v1), (2, .inl v2)] []) : ∀ (n : Nat) (v0 : Nat) (v1 : Int32) (v2 : Int32) (v3 : Int32) (w : gW), mX7_bounds_l31 F k174 n v0 v1 v2 v3 w = some res → Wx X w 0 0 31 [(0, .inr (.inr (some v0))), (1, .inl v1), (2, .inl v2), (3, .inl v3)] [] := by
  intro n
  induction n with
  | zero => intro v0 v1 v2 v3 w h; cases (show (none : Option (gW)) = some res from h)
  | succ n ih =>
    intro v0 v1 v2 v3 w h
    exact aX7_bounds_h31 ok hres (F := F) (mX7_bounds_l31 F k174 n) k174 ih hk174 v0 v1 v2 v3 w h
set_option maxRecDepth 100000 in
set_option maxHeartbeats 4000000 in
theorem aX7_bounds_h17 {X : gX} (ok : gOk X cX7_bounds RX7 7 none rmX7_bounds) {res : gW} (hres : gRs X none res) {F : Nat} (r : Nat → Int32 → Int32 → gW → Option (gW)) (k184 : Nat → Int32 → gW → Option (gW)) (hr : ∀ (v0 : Nat) (v1 : Int32) (v2 : Int32) (w : gW), r v0 v1 v2 w = some res → Wx X w 0 0 17 [(0, .inr (.inr (some v0))), (1, .inl v1), (2, .inl v2)] []) (hk184 : ∀ (v0 : Nat) (v1 : Int32) (w : gW), k184 v0 v1 w = some res → Wx X w 0 0 184 [(0, .inr (.inr (some v0))), (1, .inl v1)] []) : ∀ (v0 : Nat) (v1 : Int32) (v2 : Int32) (w : gW), mX7_bounds_h17 F r k184 v0 v1 v2 w = some res → Wx X w 0 0 17 [(0, .inr (.inr (some v0))), (1, .inl v1), (2, .inl v2)] [] := by
  intro v0 v1 v2 w h
  unfold mX7_bounds_h17 at h
  refine Wx.run ok kX7_bounds 11 2 (lv' := [(0, .inr (.inr (some v0))), (1, .inl v1), (2, .inl v2)]) (st' := [.inr (.inr (some v0)), .inl v2]) (pc' := 19) rfl ?_
  refine Wx.getI ok kX7_bounds 13 rfl lk_RX7_211_0 h (fun t19 h => ?_)
  refine Wx.icmp_ge ok kX7_bounds 14 (tgt := 184) rfl (by decide) h (fun hc22 h => ?_) (fun hc22 h => ?_)
  · refine Wx.sub [0, 1] rfl ?_
    exact hk184 _ _ _ h
  · refine Wx.run ok kX7_bounds 15 1 (lv' := [(0, .inr (.inr (some v0))), (1, .inl v1), (2, .inl v2)]) (st' := [.inr (.inr (some v0))]) (pc' := 26) rfl ?_
    obtain ⟨a26, ha26, h⟩ := gob h
    obtain ⟨q26, hq26, h⟩ := gob h
    refine Wx.callV ok kX7_bounds 16 rfl lm_RX7_220 cd_X7_clearLine ha26 [] none (aX7_clearLine _ _ hq26) (by decide) rfl (Nat.le_of_ble_eq_true rfl) rfl rfl ?_
    refine Wx.run ok kX7_bounds 17 2 (lv' := [(3, .inl (1 : Int32)), (0, .inr (.inr (some v0))), (1, .inl v1), (2, .inl v2)]) (st' := []) (pc' := 31) rfl ?_
    refine Wx.sub [1, 2, 3, 0] rfl ?_
    refine aX7_bounds_l31 ok hres (F := F) _ ?_ F _ _ _ _ _ h
    · intro v0 v1 v2 w h
      refine Wx.run ok kX7_bounds 91 1 (lv' := [(0, .inr (.inr (some v0))), (1, .inl v1), (2, .inl v2)]) (st' := [.inr (.inr (some v0))]) (pc' := 175) rfl ?_
      obtain ⟨a175, ha175, h⟩ := gob h
      obtain ⟨q175, hq175, h⟩ := gob h
      refine Wx.callV ok kX7_bounds 92 rfl lm_RX7_226 cd_X7_settles ha175 [] none (aX7_settles _ _ hq175) (by decide) rfl (Nat.le_of_ble_eq_true rfl) rfl rfl ?_
      refine Wx.run ok kX7_bounds 93 1 (lv' := [(2, .inl (v2 + (1 : Int32))), (0, .inr (.inr (some v0))), (1, .inl v1)]) (st' := []) (pc' := 181) rfl ?_
      refine Wx.jump ok kX7_bounds 94 (tgt := 17) rfl (by decide) ?_
      refine Wx.sub [1, 2, 0] rfl ?_
      exact hr _ _ _ _ h
set_option maxRecDepth 100000 in
set_option maxHeartbeats 4000000 in
theorem aX7_bounds_l17 {X : gX} (ok : gOk X cX7_bounds RX7 7 none rmX7_bounds) {res : gW} (hres : gRs X none res) {F : Nat} (k184 : Nat → Int32 → gW → Option (gW)) (hk184 : ∀ (v0 : Nat) (v1 : Int32) (w : gW), k184 v0 v1 w = some res → Wx X w 0 0 184 [(0, .inr (.inr (some v0))), (1, .inl v1)] []) : ∀ (n : Nat) (v0 : Nat) (v1 : Int32) (v2 : Int32) (w : gW), mX7_bounds_l17 F k184 n v0 v1 v2 w = some res → Wx X w 0 0 17 [(0, .inr (.inr (some v0))), (1, .inl v1), (2, .inl v2)] [] := by
  intro n
  induction n with
  | zero => intro v0 v1 v2 w h; cases (show (none : Option (gW)) = some res from h)
  | succ n ih =>
    intro v0 v1 v2 w h
    exact aX7_bounds_h17 ok hres (F := F) (mX7_bounds_l17 F k184 n) k184 ih hk184 v0 v1 v2 w h
set_option maxRecDepth 100000 in
set_option maxHeartbeats 4000000 in
theorem aX7_bounds_h7 {X : gX} (ok : gOk X cX7_bounds RX7 7 none rmX7_bounds) {res : gW} (hres : gRs X none res) {F : Nat} (r : Nat → Int32 → gW → Option (gW)) (k190 : Nat → gW → Option (gW)) (hr : ∀ (v0 : Nat) (v1 : Int32) (w : gW), r v0 v1 w = some res → Wx X w 0 0 7 [(0, .inr (.inr (some v0))), (1, .inl v1)] []) (hk190 : ∀ (v0 : Nat) (w : gW), k190 v0 w = some res → Wx X w 0 0 190 [(0, .inr (.inr (some v0)))] []) : ∀ (v0 : Nat) (v1 : Int32) (w : gW), mX7_bounds_h7 F r k190 v0 v1 w = some res → Wx X w 0 0 7 [(0, .inr (.inr (some v0))), (1, .inl v1)] [] := by
  intro v0 v1 w h
  unfold mX7_bounds_h7 at h
  refine Wx.run ok kX7_bounds 5 2 (lv' := [(0, .inr (.inr (some v0))), (1, .inl v1)]) (st' := [.inr (.inr (some v0)), .inl v1]) (pc' := 9) rfl ?_
  refine Wx.getI ok kX7_bounds 7 rfl lk_RX7_208_0 h (fun t9 h => ?_)
  refine Wx.icmp_ge ok kX7_bounds 8 (tgt := 190) rfl (by decide) h (fun hc12 h => ?_) (fun hc12 h => ?_)
  · refine Wx.sub [0] rfl ?_
    exact hk190 _ _ h
  · refine Wx.run ok kX7_bounds 9 2 (lv' := [(2, .inl (0 : Int32)), (0, .inr (.inr (some v0))), (1, .inl v1)]) (st' := []) (pc' := 17) rfl ?_
    refine Wx.sub [1, 2, 0] rfl ?_
    refine aX7_bounds_l17 ok hres (F := F) _ ?_ F _ _ _ _ h
    · intro v0 v1 w h
      refine Wx.run ok kX7_bounds 95 1 (lv' := [(1, .inl (v1 + (1 : Int32))), (0, .inr (.inr (some v0)))]) (st' := []) (pc' := 187) rfl ?_
      refine Wx.jump ok kX7_bounds 96 (tgt := 7) rfl (by decide) ?_
      refine Wx.sub [1, 0] rfl ?_
      exact hr _ _ _ h
set_option maxRecDepth 100000 in
set_option maxHeartbeats 4000000 in
theorem aX7_bounds_l7 {X : gX} (ok : gOk X cX7_bounds RX7 7 none rmX7_bounds) {res : gW} (hres : gRs X none res) {F : Nat} (k190 : Nat → gW → Option (gW)) (hk190 : ∀ (v0 : Nat) (w : gW), k190 v0 w = some res → Wx X w 0 0 190 [(0, .inr (.inr (some v0)))] []) : ∀ (n : Nat) (v0 : Nat) (v1 : Int32) (w : gW), mX7_bounds_l7 F k190 n v0 v1 w = some res → Wx X w 0 0 7 [(0, .inr (.inr (some v0))), (1, .inl v1)] [] := by
  intro n
  induction n with
  | zero => intro v0 v1 w h; cases (show (none : Option (gW)) = some res from h)
  | succ n ih =>
    intro v0 v1 w h
    exact aX7_bounds_h7 ok hres (F := F) (mX7_bounds_l7 F k190 n) k190 ih hk190 v0 v1 w h
set_option maxRecDepth 100000 in
set_option maxHeartbeats 4000000 in
theorem aX7_bounds_h224 {X : gX} (ok : gOk X cX7_bounds RX7 7 none rmX7_bounds) {res : gW} (hres : gRs X none res) {F : Nat} (r : Nat → Int32 → Int32 → gW → Option (gW)) (k260 : Nat → Int32 → gW → Option (gW)) (hr : ∀ (v0 : Nat) (v1 : Int32) (v2 : Int32) (w : gW), r v0 v1 v2 w = some res → Wx X w 0 0 224 [(0, .inr (.inr (some v0))), (1, .inl v1), (2, .inl v2)] []) (hk260 : ∀ (v0 : Nat) (v1 : Int32) (w : gW), k260 v0 v1 w = some res → Wx X w 0 0 260 [(0, .inr (.inr (some v0))), (1, .inl v1)] []) : ∀ (v0 : Nat) (v1 : Int32) (v2 : Int32) (w : gW), mX7_bounds_h224 F r k260 v0 v1 v2 w = some res → Wx X w 0 0 224 [(0, .inr (.inr (some v0))), (1, .inl v1), (2, .inl v2)] [] := by
  intro v0 v1 v2 w h
  unfold mX7_bounds_h224 at h
  refine Wx.run ok kX7_bounds 119 2 (lv' := [(0, .inr (.inr (some v0))), (1, .inl v1), (2, .inl v2)]) (st' := [.inr (.inr (some v0)), .inl v2]) (pc' := 226) rfl ?_
  refine Wx.getI ok kX7_bounds 121 rfl lk_RX7_202_0 h (fun t226 h => ?_)
  refine Wx.icmp_ge ok kX7_bounds 122 (tgt := 260) rfl (by decide) h (fun hc229 h => ?_) (fun hc229 h => ?_)
  · refine Wx.sub [0, 1] rfl ?_
    exact hk260 _ _ _ h
  · refine Wx.run ok kX7_bounds 123 1 (lv' := [(0, .inr (.inr (some v0))), (1, .inl v1), (2, .inl v2)]) (st' := [.inr (.inr (some v0))]) (pc' := 233) rfl ?_
    refine Wx.getR ok kX7_bounds 124 rfl lk_RX7_83_0 h (fun t233 h => ?_)
    refine Wx.run ok kX7_bounds 125 6 (lv' := [(0, .inr (.inr (some v0))), (1, .inl v1), (2, .inl v2)]) (st' := [.inr (.inr (some v0)), .inl (((98 : Int32) * v1) + v2), .inr (.inr t233)]) (pc' := 243) rfl ?_
    refine Wx.getR ok kX7_bounds 131 rfl lk_RX7_70_0 h (fun t243 h => ?_)
    refine Wx.run ok kX7_bounds 132 5 (lv' := [(0, .inr (.inr (some v0))), (1, .inl v1), (2, .inl v2)]) (st' := [.inl (((98 : Int32) * v1) + v2), .inr (.inr t243), .inl (((98 : Int32) * v1) + v2), .inr (.inr t233)]) (pc' := 252) rfl ?_
    refine Wx.iald ok kX7_bounds 137 rfl h (fun t252 h => ?_)
    refine Wx.iast ok kX7_bounds 138 rfl h (fun w253 h => ?_)
    refine Wx.run ok kX7_bounds 139 1 (lv' := [(2, .inl (v2 + (1 : Int32))), (0, .inr (.inr (some v0))), (1, .inl v1)]) (st' := []) (pc' := 257) rfl ?_
    refine Wx.jump ok kX7_bounds 140 (tgt := 224) rfl (by decide) ?_
    refine Wx.sub [1, 2, 0] rfl ?_
    exact hr _ _ _ _ h
set_option maxRecDepth 100000 in
set_option maxHeartbeats 4000000 in
theorem aX7_bounds_l224 {X : gX} (ok : gOk X cX7_bounds RX7 7 none rmX7_bounds) {res : gW} (hres : gRs X none res) {F : Nat} (k260 : Nat → Int32 → gW → Option (gW)) (hk260 : ∀ (v0 : Nat) (v1 : Int32) (w : gW), k260 v0 v1 w = some res → Wx X w 0 0 260 [(0, .inr (.inr (some v0))), (1, .inl v1)] []) : ∀ (n : Nat) (v0 : Nat) (v1 : Int32) (v2 : Int32) (w : gW), mX7_bounds_l224 F k260 n v0 v1 v2 w = some res → Wx X w 0 0 224 [(0, .inr (.inr (some v0))), (1, .inl v1), (2, .inl v2)] [] := by
  intro n
  induction n with
  | zero => intro v0 v1 v2 w h; cases (show (none : Option (gW)) = some res from h)
  | succ n ih =>
    intro v0 v1 v2 w h
    exact aX7_bounds_h224 ok hres (F := F) (mX7_bounds_l224 F k260 n) k260 ih hk260 v0 v1 v2 w h
set_option maxRecDepth 100000 in
set_option maxHeartbeats 4000000 in
theorem aX7_bounds_h202 {X : gX} (ok : gOk X cX7_bounds RX7 7 none rmX7_bounds) {res : gW} (hres : gRs X none res) {F : Nat} (r : Nat → Int32 → gW → Option (gW)) (hr : ∀ (v0 : Nat) (v1 : Int32) (w : gW), r v0 v1 w = some res → Wx X w 0 0 202 [(0, .inr (.inr (some v0))), (1, .inl v1)] []) : ∀ (v0 : Nat) (v1 : Int32) (w : gW), mX7_bounds_h202 F r v0 v1 w = some res → Wx X w 0 0 202 [(0, .inr (.inr (some v0))), (1, .inl v1)] [] := by
  intro v0 v1 w h
  unfold mX7_bounds_h202 at h
  refine Wx.run ok kX7_bounds 105 2 (lv' := [(0, .inr (.inr (some v0))), (1, .inl v1)]) (st' := [.inr (.inr (some v0)), .inl v1]) (pc' := 204) rfl ?_
  refine Wx.getI ok kX7_bounds 107 rfl lk_RX7_199_0 h (fun t204 h => ?_)
  refine Wx.icmp_ge ok kX7_bounds 108 (tgt := 266) rfl (by decide) h (fun hc207 h => ?_) (fun hc207 h => ?_)
  · exact Wx.vreturn ok kX7_bounds 143 rfl hres h (by decide)
  · refine Wx.run ok kX7_bounds 109 1 (lv' := [(0, .inr (.inr (some v0))), (1, .inl v1)]) (st' := [.inr (.inr (some v0))]) (pc' := 211) rfl ?_
    refine Wx.getR ok kX7_bounds 110 rfl lk_RX7_86_0 h (fun t211 h => ?_)
    refine Wx.run ok kX7_bounds 111 2 (lv' := [(0, .inr (.inr (some v0))), (1, .inl v1)]) (st' := [.inr (.inr (some v0)), .inl v1, .inr (.inr t211)]) (pc' := 216) rfl ?_
    refine Wx.getR ok kX7_bounds 113 rfl lk_RX7_73_0 h (fun t216 h => ?_)
    refine Wx.run ok kX7_bounds 114 1 (lv' := [(0, .inr (.inr (some v0))), (1, .inl v1)]) (st' := [.inl v1, .inr (.inr t216), .inl v1, .inr (.inr t211)]) (pc' := 220) rfl ?_
    refine Wx.iald ok kX7_bounds 115 rfl h (fun t220 h => ?_)
    refine Wx.iast ok kX7_bounds 116 rfl h (fun w221 h => ?_)
    refine Wx.run ok kX7_bounds 117 2 (lv' := [(2, .inl (0 : Int32)), (0, .inr (.inr (some v0))), (1, .inl v1)]) (st' := []) (pc' := 224) rfl ?_
    refine Wx.sub [1, 2, 0] rfl ?_
    refine aX7_bounds_l224 ok hres (F := F) _ ?_ F _ _ _ _ h
    · intro v0 v1 w h
      refine Wx.run ok kX7_bounds 141 1 (lv' := [(1, .inl (v1 + (1 : Int32))), (0, .inr (.inr (some v0)))]) (st' := []) (pc' := 263) rfl ?_
      refine Wx.jump ok kX7_bounds 142 (tgt := 202) rfl (by decide) ?_
      refine Wx.sub [1, 0] rfl ?_
      exact hr _ _ _ h
set_option maxRecDepth 100000 in
set_option maxHeartbeats 4000000 in
theorem aX7_bounds_l202 {X : gX} (ok : gOk X cX7_bounds RX7 7 none rmX7_bounds) {res : gW} (hres : gRs X none res) {F : Nat} : ∀ (n : Nat) (v0 : Nat) (v1 : Int32) (w : gW), mX7_bounds_l202 F n v0 v1 w = some res → Wx X w 0 0 202 [(0, .inr (.inr (some v0))), (1, .inl v1)] [] := by
  intro n
  induction n with
  | zero => intro v0 v1 w h; cases (show (none : Option (gW)) = some res from h)
  | succ n ih =>
    intro v0 v1 w h
    exact aX7_bounds_h202 ok hres (F := F) (mX7_bounds_l202 F n) ih v0 v1 w h
set_option maxRecDepth 100000 in
set_option maxHeartbeats 4000000 in
theorem aX7_bounds (l : Launch) (G : gG) {F : Nat} {v0 : Nat} {w : gW} {res : gW} (h : mX7_bounds F v0 w = some res) : gM l yX7_bounds cX7_bounds 7 none rmX7_bounds G w (gTs [.inr (.inr (some v0))]) none res := by
  refine gM_of (y := yX7_bounds) (by decide +kernel) (Nat.le_of_ble_eq_true rfl) ?_
  intro X ok hl hG hres hnm
  subst hl; subst hG
  unfold mX7_bounds at h
  show Wx X w 0 0 0 [(0, .inr (.inr (some v0)))] []
  refine Wx.run ok kX7_bounds 0 2 (lv' := [(0, .inr (.inr (some v0)))]) (st' := [.inl (0 : Int32), .inr (.inr (some v0))]) (pc' := 2) rfl ?_
  refine Wx.put ok kX7_bounds 2 rfl lk_RX7_199_1 (gFit_i _) h (fun w2 h => ?_)
  refine Wx.run ok kX7_bounds 3 2 (lv' := [(1, .inl (1 : Int32)), (0, .inr (.inr (some v0)))]) (st' := []) (pc' := 7) rfl ?_
  refine Wx.sub [1, 0] rfl ?_
  refine aX7_bounds_l7 ok hres (F := F) _ ?_ F _ _ _ h
  · intro v0 w h
    refine Wx.run ok kX7_bounds 97 1 (lv' := [(0, .inr (.inr (some v0)))]) (st' := [.inr (.inr (some v0))]) (pc' := 191) rfl ?_
    refine Wx.getR ok kX7_bounds 98 rfl lk_RX7_80_0 h (fun t191 h => ?_)
    refine Wx.run ok kX7_bounds 99 2 (lv' := [(0, .inr (.inr (some v0)))]) (st' := [.inr (.inr (some v0)), .inl (4 : Int32), .inr (.inr t191)]) (pc' := 196) rfl ?_
    refine Wx.getI ok kX7_bounds 101 rfl lk_RX7_199_0 h (fun t196 h => ?_)
    refine Wx.iast ok kX7_bounds 102 rfl h (fun w199 h => ?_)
    refine Wx.run ok kX7_bounds 103 2 (lv' := [(1, .inl (0 : Int32)), (0, .inr (.inr (some v0)))]) (st' := []) (pc' := 202) rfl ?_
    refine Wx.sub [1, 0] rfl ?_
    refine aX7_bounds_l202 ok hres (F := F) F _ _ _ h
