set_option maxRecDepth 100000 in
set_option maxHeartbeats 4000000 in
theorem aX2_fillUnits_h18 {X : gX} (ok : gOk X cX2_fillUnits RX2 3 none rmX2_fillUnits) {res : gW} (hres : gRs X none res) {F : Nat} (r : Nat → Int32 → Int32 → gW → Option (gW)) (k57 : Nat → Int32 → gW → Option (gW)) (hr : ∀ (v0 : Nat) (v1 : Int32) (v2 : Int32) (w : gW), r v0 v1 v2 w = some res → Wx X w 0 0 18 [(0, .inr (.inr (some v0))), (1, .inl v1), (2, .inl v2)] []) (hk57 : ∀ (v0 : Nat) (v1 : Int32) (w : gW), k57 v0 v1 w = some res → Wx X w 0 0 57 [(0, .inr (.inr (some v0))), (1, .inl v1)] []) : ∀ (v0 : Nat) (v1 : Int32) (v2 : Int32) (w : gW), mX2_fillUnits_h18 F r k57 v0 v1 v2 w = some res → Wx X w 0 0 18 [(0, .inr (.inr (some v0))), (1, .inl v1), (2, .inl v2)] [] := by
  intro v0 v1 v2 w h
  unfold mX2_fillUnits_h18 at h
  refine Wx.run ok kX2_fillUnits 11 2 (lv' := [(0, .inr (.inr (some v0))), (1, .inl v1), (2, .inl v2)]) (st' := [.inr (.inr (some v0)), .inl v2]) (pc' := 20) rfl ?_
  refine Wx.getI ok kX2_fillUnits 13 rfl lk_RX2_30_0 h (fun t20 h => ?_)
  refine Wx.icmp_ge ok kX2_fillUnits 14 (tgt := 57) rfl (by decide) h (fun hc23 h => ?_) (fun hc23 h => ?_)
  · refine Wx.sub [0, 1] rfl ?_
    exact hk57 _ _ _ h
  · refine Wx.run ok kX2_fillUnits 15 3 (lv' := [(0, .inr (.inr (some v0))), (1, .inl v1), (2, .inl v2)]) (st' := [.inl v2, .inl v1, .inr (.inr (some v0))]) (pc' := 29) rfl ?_
    refine Wx.units ok kX2_fillUnits 18 rfl gw_165 (fun u29 hu29 => ?_)
    refine Wx.run ok kX2_fillUnits 19 9 (lv' := [(0, .inr (.inr (some v0))), (1, .inl v1), (2, .inl v2)]) (st' := [.inl (((v1 &&& (3 : Int32)) * (4 : Int32)) + (v2 &&& (3 : Int32))), .inr (.inr (some u29)), .inl v2, .inl v1, .inr (.inr (some v0))]) (pc' := 41) rfl ?_
    refine Wx.unit ok kX2_fillUnits 28 rfl hu29 h (fun t41 h => ?_)
    refine Wx.run ok kX2_fillUnits 29 6 (lv' := [(0, .inr (.inr (some v0))), (1, .inl v1), (2, .inl v2)]) (st' := [.inl (t41 ^^^ ((v1 ^^^ v2) &&& (4 : Int32))), .inl v2, .inl v1, .inr (.inr (some v0))]) (pc' := 48) rfl ?_
    obtain ⟨a48, ha48, h⟩ := gob h
    obtain ⟨q48, hq48, h⟩ := gob h
    refine Wx.callV ok kX2_fillUnits 35 rfl lm_RX2_38 cd_X2_set ha48 [.inl v1, .inl v2, .inl (t41 ^^^ ((v1 ^^^ v2) &&& (4 : Int32)))] none (aX2_set _ _ hq48) (by decide) rfl (Nat.le_of_ble_eq_true rfl) rfl rfl ?_
    refine Wx.run ok kX2_fillUnits 36 1 (lv' := [(2, .inl (v2 + (1 : Int32))), (0, .inr (.inr (some v0))), (1, .inl v1)]) (st' := []) (pc' := 54) rfl ?_
    refine Wx.jump ok kX2_fillUnits 37 (tgt := 18) rfl (by decide) ?_
    refine Wx.sub [1, 2, 0] rfl ?_
    exact hr _ _ _ _ h
set_option maxRecDepth 100000 in
set_option maxHeartbeats 4000000 in
theorem aX2_fillUnits_l18 {X : gX} (ok : gOk X cX2_fillUnits RX2 3 none rmX2_fillUnits) {res : gW} (hres : gRs X none res) {F : Nat} (k57 : Nat → Int32 → gW → Option (gW)) (hk57 : ∀ (v0 : Nat) (v1 : Int32) (w : gW), k57 v0 v1 w = some res → Wx X w 0 0 57 [(0, .inr (.inr (some v0))), (1, .inl v1)] []) : ∀ (n : Nat) (v0 : Nat) (v1 : Int32) (v2 : Int32) (w : gW), mX2_fillUnits_l18 F k57 n v0 v1 v2 w = some res → Wx X w 0 0 18 [(0, .inr (.inr (some v0))), (1, .inl v1), (2, .inl v2)] [] := by
  intro n
  induction n with
  | zero => intro v0 v1 v2 w h; cases (show (none : Option (gW)) = some res from h)
  | succ n ih =>
    intro v0 v1 v2 w h
    exact aX2_fillUnits_h18 ok hres (F := F) (mX2_fillUnits_l18 F k57 n) k57 ih hk57 v0 v1 v2 w h
set_option maxRecDepth 100000 in
set_option maxHeartbeats 4000000 in
theorem aX2_fillUnits_h8 {X : gX} (ok : gOk X cX2_fillUnits RX2 3 none rmX2_fillUnits) {res : gW} (hres : gRs X none res) {F : Nat} (r : Nat → Int32 → gW → Option (gW)) (hr : ∀ (v0 : Nat) (v1 : Int32) (w : gW), r v0 v1 w = some res → Wx X w 0 0 8 [(0, .inr (.inr (some v0))), (1, .inl v1)] []) : ∀ (v0 : Nat) (v1 : Int32) (w : gW), mX2_fillUnits_h8 F r v0 v1 w = some res → Wx X w 0 0 8 [(0, .inr (.inr (some v0))), (1, .inl v1)] [] := by
  intro v0 v1 w h
  unfold mX2_fillUnits_h8 at h
  refine Wx.run ok kX2_fillUnits 5 2 (lv' := [(0, .inr (.inr (some v0))), (1, .inl v1)]) (st' := [.inr (.inr (some v0)), .inl v1]) (pc' := 10) rfl ?_
  refine Wx.getI ok kX2_fillUnits 7 rfl lk_RX2_30_0 h (fun t10 h => ?_)
  refine Wx.icmp_ge ok kX2_fillUnits 8 (tgt := 63) rfl (by decide) h (fun hc13 h => ?_) (fun hc13 h => ?_)
  · exact Wx.vreturn ok kX2_fillUnits 40 rfl hres h (by decide)
  · refine Wx.run ok kX2_fillUnits 9 2 (lv' := [(2, .inl (0 : Int32)), (0, .inr (.inr (some v0))), (1, .inl v1)]) (st' := []) (pc' := 18) rfl ?_
    refine Wx.sub [1, 2, 0] rfl ?_
    refine aX2_fillUnits_l18 ok hres (F := F) _ ?_ F _ _ _ _ h
    · intro v0 v1 w h
      refine Wx.run ok kX2_fillUnits 38 1 (lv' := [(1, .inl (v1 + (1 : Int32))), (0, .inr (.inr (some v0)))]) (st' := []) (pc' := 60) rfl ?_
      refine Wx.jump ok kX2_fillUnits 39 (tgt := 8) rfl (by decide) ?_
      refine Wx.sub [1, 0] rfl ?_
      exact hr _ _ _ h
set_option maxRecDepth 100000 in
set_option maxHeartbeats 4000000 in
theorem aX2_fillUnits_l8 {X : gX} (ok : gOk X cX2_fillUnits RX2 3 none rmX2_fillUnits) {res : gW} (hres : gRs X none res) {F : Nat} : ∀ (n : Nat) (v0 : Nat) (v1 : Int32) (w : gW), mX2_fillUnits_l8 F n v0 v1 w = some res → Wx X w 0 0 8 [(0, .inr (.inr (some v0))), (1, .inl v1)] [] := by
  intro n
  induction n with
  | zero => intro v0 v1 w h; cases (show (none : Option (gW)) = some res from h)
  | succ n ih =>
    intro v0 v1 w h
    exact aX2_fillUnits_h8 ok hres (F := F) (mX2_fillUnits_l8 F n) ih v0 v1 w h
set_option maxRecDepth 100000 in
set_option maxHeartbeats 4000000 in
theorem aX2_fillUnits (l : Launch) (G : gG) {F : Nat} {v0 : Nat} {w : gW} {res : gW} (h : mX2_fillUnits F v0 w = some res) : gM l yX2_fillUnits cX2_fillUnits 3 none rmX2_fillUnits G w (gTs [.inr (.inr (some v0))]) none res := by
  refine gM_of (y := yX2_fillUnits) (by decide +kernel) (Nat.le_of_ble_eq_true rfl) ?_
  intro X ok hl hG hres hnm
  subst hl; subst hG
  unfold mX2_fillUnits at h
  show Wx X w 0 0 0 [(0, .inr (.inr (some v0)))] []
  refine Wx.run ok kX2_fillUnits 0 2 (lv' := [(0, .inr (.inr (some v0)))]) (st' := [.inl (8 : Int32), .inr (.inr (some v0))]) (pc' := 3) rfl ?_
  refine Wx.put ok kX2_fillUnits 2 rfl lk_RX2_30_1 (gFit_i _) h (fun w3 h => ?_)
  refine Wx.run ok kX2_fillUnits 3 2 (lv' := [(1, .inl (0 : Int32)), (0, .inr (.inr (some v0)))]) (st' := []) (pc' := 8) rfl ?_
  refine Wx.sub [1, 0] rfl ?_
  refine aX2_fillUnits_l8 ok hres (F := F) F _ _ _ h
set_option maxRecDepth 100000 in
set_option maxHeartbeats 4000000 in
theorem aX2_findInverse_h2 {X : gX} (ok : gOk X cX2_findInverse RX2 3 (some .int) rmX2_findInverse) {res : Int32 × gW} (hres : gRs X (some (.int res.1)) res.2) {F : Nat} (r : Nat → Int32 → Int32 → gW → Option (Int32 × gW)) (hr : ∀ (v0 : Nat) (v1 : Int32) (v2 : Int32) (w : gW), r v0 v1 v2 w = some res → Wx X w 0 0 2 [(0, .inr (.inr (some v0))), (1, .inl v1), (2, .inl v2)] []) : ∀ (v0 : Nat) (v1 : Int32) (v2 : Int32) (w : gW), mX2_findInverse_h2 F r v0 v1 v2 w = some res → Wx X w 0 0 2 [(0, .inr (.inr (some v0))), (1, .inl v1), (2, .inl v2)] [] := by
  intro v0 v1 v2 w h
  unfold mX2_findInverse_h2 at h
  refine Wx.run ok kX2_findInverse 2 2 (lv' := [(0, .inr (.inr (some v0))), (1, .inl v1), (2, .inl v2)]) (st' := [.inr (.inr (some v0)), .inl v2]) (pc' := 4) rfl ?_
  refine Wx.getI ok kX2_findInverse 4 rfl lk_RX2_30_0 h (fun t4 h => ?_)
  refine Wx.icmp_ge ok kX2_findInverse 5 (tgt := 27) rfl (by decide) h (fun hc7 h => ?_) (fun hc7 h => ?_)
  · refine Wx.run ok kX2_findInverse 15 1 (lv' := [(0, .inr (.inr (some v0))), (1, .inl v1), (2, .inl v2)]) (st' := [.inl (-1 : Int32)]) (pc' := 28) rfl ?_
    exact Wx.ireturn ok kX2_findInverse 16 rfl hres h (by decide)
  · refine Wx.run ok kX2_findInverse 6 3 (lv' := [(0, .inr (.inr (some v0))), (1, .inl v1), (2, .inl v2)]) (st' := [.inl v2, .inl v1, .inr (.inr (some v0))]) (pc' := 13) rfl ?_
    obtain ⟨a13, ha13, h⟩ := gob h
    obtain ⟨q13, hq13, h⟩ := gob h
    refine Wx.callV ok kX2_findInverse 9 rfl lm_RX2_45 cd_X2_mul ha13 [.inl v1, .inl v2] (some (.inl q13.1)) (aX2_mul _ _ hq13) (by decide) rfl (Nat.le_of_ble_eq_true rfl) rfl rfl ?_
    refine Wx.if_ne ok kX2_findInverse 10 (tgt := 21) rfl (by decide) h (fun hc16 h => ?_) (fun hc16 h => ?_)
    · refine Wx.run ok kX2_findInverse 11 1 (lv' := [(0, .inr (.inr (some v0))), (1, .inl v1), (2, .inl v2)]) (st' := [.inl v2]) (pc' := 20) rfl ?_
      exact Wx.ireturn ok kX2_findInverse 12 rfl hres h (by decide)
    · refine Wx.run ok kX2_findInverse 13 1 (lv' := [(2, .inl (v2 + (1 : Int32))), (0, .inr (.inr (some v0))), (1, .inl v1)]) (st' := []) (pc' := 24) rfl ?_
      refine Wx.jump ok kX2_findInverse 14 (tgt := 2) rfl (by decide) ?_
      refine Wx.sub [1, 2, 0] rfl ?_
      exact hr _ _ _ _ h
set_option maxRecDepth 100000 in
set_option maxHeartbeats 4000000 in
theorem aX2_findInverse_l2 {X : gX} (ok : gOk X cX2_findInverse RX2 3 (some .int) rmX2_findInverse) {res : Int32 × gW} (hres : gRs X (some (.int res.1)) res.2) {F : Nat} : ∀ (n : Nat) (v0 : Nat) (v1 : Int32) (v2 : Int32) (w : gW), mX2_findInverse_l2 F n v0 v1 v2 w = some res → Wx X w 0 0 2 [(0, .inr (.inr (some v0))), (1, .inl v1), (2, .inl v2)] [] := by
  intro n
  induction n with
  | zero => intro v0 v1 v2 w h; cases (show (none : Option (Int32 × gW)) = some res from h)
  | succ n ih =>
    intro v0 v1 v2 w h
    exact aX2_findInverse_h2 ok hres (F := F) (mX2_findInverse_l2 F n) ih v0 v1 v2 w h
set_option maxRecDepth 100000 in
set_option maxHeartbeats 4000000 in
theorem aX2_findInverse (l : Launch) (G : gG) {F : Nat} {v0 : Nat} {v1 : Int32} {w : gW} {res : Int32 × gW} (h : mX2_findInverse F v0 v1 w = some res) : gM l yX2_findInverse cX2_findInverse 3 (some .int) rmX2_findInverse G w (gTs [.inr (.inr (some v0)), .inl v1]) (some (.int res.1)) res.2 := by
  refine gM_of (y := yX2_findInverse) (by decide +kernel) (Nat.le_of_ble_eq_true rfl) ?_
  intro X ok hl hG hres hnm
  subst hl; subst hG
  unfold mX2_findInverse at h
  show Wx X w 0 0 0 [(0, .inr (.inr (some v0))), (1, .inl v1)] []
  refine Wx.run ok kX2_findInverse 0 2 (lv' := [(2, .inl (0 : Int32)), (0, .inr (.inr (some v0))), (1, .inl v1)]) (st' := []) (pc' := 2) rfl ?_
  refine Wx.sub [1, 2, 0] rfl ?_
  refine aX2_findInverse_l2 ok hres (F := F) F _ _ _ _ h
set_option maxRecDepth 100000 in
set_option maxHeartbeats 4000000 in
theorem aX2_findPeriod_h4 {X : gX} (ok : gOk X cX2_findPeriod RX2 4 (some .int) rmX2_findPeriod) {res : Int32 × gW} (hres : gRs X (some (.int res.1)) res.2) {F : Nat} (r : Nat → Int32 → Int32 → Int32 → gW → Option (Int32 × gW)) (hr : ∀ (v0 : Nat) (v1 : Int32) (v2 : Int32) (v3 : Int32) (w : gW), r v0 v1 v2 v3 w = some res → Wx X w 0 0 4 [(0, .inr (.inr (some v0))), (1, .inl v1), (2, .inl v2), (3, .inl v3)] []) : ∀ (v0 : Nat) (v1 : Int32) (v2 : Int32) (v3 : Int32) (w : gW), mX2_findPeriod_h4 F r v0 v1 v2 v3 w = some res → Wx X w 0 0 4 [(0, .inr (.inr (some v0))), (1, .inl v1), (2, .inl v2), (3, .inl v3)] [] := by
  intro v0 v1 v2 v3 w h
  unfold mX2_findPeriod_h4 at h
  refine Wx.run ok kX2_findPeriod 4 1 (lv' := [(0, .inr (.inr (some v0))), (1, .inl v1), (2, .inl v2), (3, .inl v3)]) (st' := [.inl v3]) (pc' := 5) rfl ?_
  refine Wx.if_eq ok kX2_findPeriod 5 (tgt := 29) rfl (by decide) h (fun hc5 h => ?_) (fun hc5 h => ?_)
  · refine Wx.run ok kX2_findPeriod 17 1 (lv' := [(0, .inr (.inr (some v0))), (1, .inl v1), (2, .inl v2), (3, .inl v3)]) (st' := [.inl v2]) (pc' := 30) rfl ?_
    exact Wx.ireturn ok kX2_findPeriod 18 rfl hres h (by decide)
  · refine Wx.run ok kX2_findPeriod 6 2 (lv' := [(0, .inr (.inr (some v0))), (1, .inl v1), (2, .inl v2), (3, .inl v3)]) (st' := [.inr (.inr (some v0)), .inl v2]) (pc' := 10) rfl ?_
    refine Wx.getI ok kX2_findPeriod 8 rfl lk_RX2_30_0 h (fun t10 h => ?_)
    refine Wx.icmp_ge ok kX2_findPeriod 9 (tgt := 29) rfl (by decide) h (fun hc13 h => ?_) (fun hc13 h => ?_)
    · refine Wx.run ok kX2_findPeriod 17 1 (lv' := [(0, .inr (.inr (some v0))), (1, .inl v1), (2, .inl v2), (3, .inl v3)]) (st' := [.inl v2]) (pc' := 30) rfl ?_
      exact Wx.ireturn ok kX2_findPeriod 18 rfl hres h (by decide)
    · refine Wx.run ok kX2_findPeriod 10 4 (lv' := [(2, .inl (v2 + (1 : Int32))), (0, .inr (.inr (some v0))), (1, .inl v1), (3, .inl v3)]) (st' := [.inl v1, .inl v3, .inr (.inr (some v0))]) (pc' := 22) rfl ?_
      obtain ⟨a22, ha22, h⟩ := gob h
      obtain ⟨q22, hq22, h⟩ := gob h
      refine Wx.callV ok kX2_findPeriod 14 rfl lm_RX2_45 cd_X2_mul ha22 [.inl v3, .inl v1] (some (.inl q22.1)) (aX2_mul _ _ hq22) (by decide) rfl (Nat.le_of_ble_eq_true rfl) rfl rfl ?_
      refine Wx.run ok kX2_findPeriod 15 1 (lv' := [(3, .inl q22.1), (2, .inl (v2 + (1 : Int32))), (0, .inr (.inr (some v0))), (1, .inl v1)]) (st' := []) (pc' := 26) rfl ?_
      refine Wx.jump ok kX2_findPeriod 16 (tgt := 4) rfl (by decide) ?_
      refine Wx.sub [2, 3, 1, 0] rfl ?_
      exact hr _ _ _ _ _ h
set_option maxRecDepth 100000 in
set_option maxHeartbeats 4000000 in
theorem aX2_findPeriod_l4 {X : gX} (ok : gOk X cX2_findPeriod RX2 4 (some .int) rmX2_findPeriod) {res : Int32 × gW} (hres : gRs X (some (.int res.1)) res.2) {F : Nat} : ∀ (n : Nat) (v0 : Nat) (v1 : Int32) (v2 : Int32) (v3 : Int32) (w : gW), mX2_findPeriod_l4 F n v0 v1 v2 v3 w = some res → Wx X w 0 0 4 [(0, .inr (.inr (some v0))), (1, .inl v1), (2, .inl v2), (3, .inl v3)] [] := by
  intro n
  induction n with
  | zero => intro v0 v1 v2 v3 w h; cases (show (none : Option (Int32 × gW)) = some res from h)
  | succ n ih =>
    intro v0 v1 v2 v3 w h
    exact aX2_findPeriod_h4 ok hres (F := F) (mX2_findPeriod_l4 F n) ih v0 v1 v2 v3 w h
set_option maxRecDepth 100000 in
set_option maxHeartbeats 4000000 in
theorem aX2_findPeriod (l : Launch) (G : gG) {F : Nat} {v0 : Nat} {v1 : Int32} {w : gW} {res : Int32 × gW} (h : mX2_findPeriod F v0 v1 w = some res) : gM l yX2_findPeriod cX2_findPeriod 4 (some .int) rmX2_findPeriod G w (gTs [.inr (.inr (some v0)), .inl v1]) (some (.int res.1)) res.2 := by
  refine gM_of (y := yX2_findPeriod) (by decide +kernel) (Nat.le_of_ble_eq_true rfl) ?_
  intro X ok hl hG hres hnm
  subst hl; subst hG
  unfold mX2_findPeriod at h
  show Wx X w 0 0 0 [(0, .inr (.inr (some v0))), (1, .inl v1)] []
  refine Wx.run ok kX2_findPeriod 0 4 (lv' := [(3, .inl v1), (2, .inl (1 : Int32)), (0, .inr (.inr (some v0))), (1, .inl v1)]) (st' := []) (pc' := 4) rfl ?_
  refine Wx.sub [2, 3, 1, 0] rfl ?_
  refine aX2_findPeriod_l4 ok hres (F := F) F _ _ _ _ _ h
set_option maxRecDepth 100000 in
set_option maxHeartbeats 4000000 in
theorem aX2_firstUnlike_h22 {X : gX} (ok : gOk X cX2_firstUnlike RX2 4 (some .int) rmX2_firstUnlike) {res : Int32 × gW} (hres : gRs X (some (.int res.1)) res.2) {F : Nat} (r : Nat → Int32 → Int32 → Int32 → gW → Option (Int32 × gW)) (k82 : Nat → Int32 → Int32 → gW → Option (Int32 × gW)) (k55 : Nat → Int32 → Int32 → Int32 → gW → Option (Int32 × gW)) (hr : ∀ (v0 : Nat) (v1 : Int32) (v2 : Int32) (v3 : Int32) (w : gW), r v0 v1 v2 v3 w = some res → Wx X w 0 0 22 [(0, .inr (.inr (some v0))), (1, .inl v1), (2, .inl v2), (3, .inl v3)] []) (hk82 : ∀ (v0 : Nat) (v1 : Int32) (v2 : Int32) (w : gW), k82 v0 v1 v2 w = some res → Wx X w 0 0 82 [(0, .inr (.inr (some v0))), (1, .inl v1), (2, .inl v2)] []) (hk55 : ∀ (v0 : Nat) (v1 : Int32) (v2 : Int32) (v3 : Int32) (w : gW), k55 v0 v1 v2 v3 w = some res → Wx X w 0 0 55 [(0, .inr (.inr (some v0))), (1, .inl v1), (2, .inl v2), (3, .inl v3)] []) : ∀ (v0 : Nat) (v1 : Int32) (v2 : Int32) (v3 : Int32) (w : gW), mX2_firstUnlike_h22 F r k82 k55 v0 v1 v2 v3 w = some res → Wx X w 0 0 22 [(0, .inr (.inr (some v0))), (1, .inl v1), (2, .inl v2), (3, .inl v3)] [] := by
  intro v0 v1 v2 v3 w h
  unfold mX2_firstUnlike_h22 at h
  refine Wx.run ok kX2_firstUnlike 14 2 (lv' := [(0, .inr (.inr (some v0))), (1, .inl v1), (2, .inl v2), (3, .inl v3)]) (st' := [.inr (.inr (some v0)), .inl v3]) (pc' := 24) rfl ?_
  refine Wx.getI ok kX2_firstUnlike 16 rfl lk_RX2_30_0 h (fun t24 h => ?_)
  refine Wx.icmp_ge ok kX2_firstUnlike 17 (tgt := 82) rfl (by decide) h (fun hc27 h => ?_) (fun hc27 h => ?_)
  · refine Wx.sub [0, 1, 2] rfl ?_
    exact hk82 _ _ _ _ h
  · refine Wx.run ok kX2_firstUnlike 18 4 (lv' := [(0, .inr (.inr (some v0))), (1, .inl v1), (2, .inl v2), (3, .inl v3)]) (st' := [.inl v2, .inl v1, .inr (.inr (some v0)), .inr (.inr (some v0))]) (pc' := 34) rfl ?_
    obtain ⟨a34, ha34, h⟩ := gob h
    obtain ⟨q34, hq34, h⟩ := gob h
    refine Wx.callV ok kX2_firstUnlike 22 rfl lm_RX2_45 cd_X2_mul ha34 [.inl v1, .inl v2] (some (.inl q34.1)) (aX2_mul _ _ hq34) (by decide) rfl (Nat.le_of_ble_eq_true rfl) rfl rfl ?_
    refine Wx.run ok kX2_firstUnlike 23 1 (lv' := [(0, .inr (.inr (some v0))), (1, .inl v1), (2, .inl v2), (3, .inl v3)]) (st' := [.inl v3, .inl q34.1, .inr (.inr (some v0))]) (pc' := 38) rfl ?_
    obtain ⟨a38, ha38, h⟩ := gob h
    obtain ⟨q38, hq38, h⟩ := gob h
    refine Wx.callV ok kX2_firstUnlike 24 rfl lm_RX2_45 cd_X2_mul ha38 [.inl q34.1, .inl v3] (some (.inl q38.1)) (aX2_mul _ _ hq38) (by decide) rfl (Nat.le_of_ble_eq_true rfl) rfl rfl ?_
    refine Wx.run ok kX2_firstUnlike 25 5 (lv' := [(0, .inr (.inr (some v0))), (1, .inl v1), (2, .inl v2), (3, .inl v3)]) (st' := [.inl v3, .inl v2, .inr (.inr (some v0)), .inl v1, .inr (.inr (some v0)), .inl q38.1]) (pc' := 46) rfl ?_
    obtain ⟨a46, ha46, h⟩ := gob h
    obtain ⟨q46, hq46, h⟩ := gob h
    refine Wx.callV ok kX2_firstUnlike 30 rfl lm_RX2_45 cd_X2_mul ha46 [.inl v2, .inl v3] (some (.inl q46.1)) (aX2_mul _ _ hq46) (by decide) rfl (Nat.le_of_ble_eq_true rfl) rfl rfl ?_
    obtain ⟨a49, ha49, h⟩ := gob h
    obtain ⟨q49, hq49, h⟩ := gob h
    refine Wx.callV ok kX2_firstUnlike 31 rfl lm_RX2_45 cd_X2_mul ha49 [.inl v1, .inl q46.1] (some (.inl q49.1)) (aX2_mul _ _ hq49) (by decide) rfl (Nat.le_of_ble_eq_true rfl) rfl rfl ?_
    refine Wx.icmp_eq ok kX2_firstUnlike 32 (tgt := 76) rfl (by decide) h (fun hc52 h => ?_) (fun hc52 h => ?_)
    · refine Wx.run ok kX2_firstUnlike 48 1 (lv' := [(3, .inl (v3 + (1 : Int32))), (0, .inr (.inr (some v0))), (1, .inl v1), (2, .inl v2)]) (st' := []) (pc' := 79) rfl ?_
      refine Wx.jump ok kX2_firstUnlike 49 (tgt := 22) rfl (by decide) ?_
      refine Wx.sub [1, 2, 3, 0] rfl ?_
      exact hr _ _ _ _ _ h
    · exact hk55 _ _ _ _ _ h
set_option maxRecDepth 100000 in
set_option maxHeartbeats 4000000 in
theorem aX2_firstUnlike_l22 {X : gX} (ok : gOk X cX2_firstUnlike RX2 4 (some .int) rmX2_firstUnlike) {res : Int32 × gW} (hres : gRs X (some (.int res.1)) res.2) {F : Nat} (k82 : Nat → Int32 → Int32 → gW → Option (Int32 × gW)) (k55 : Nat → Int32 → Int32 → Int32 → gW → Option (Int32 × gW)) (hk82 : ∀ (v0 : Nat) (v1 : Int32) (v2 : Int32) (w : gW), k82 v0 v1 v2 w = some res → Wx X w 0 0 82 [(0, .inr (.inr (some v0))), (1, .inl v1), (2, .inl v2)] []) (hk55 : ∀ (v0 : Nat) (v1 : Int32) (v2 : Int32) (v3 : Int32) (w : gW), k55 v0 v1 v2 v3 w = some res → Wx X w 0 0 55 [(0, .inr (.inr (some v0))), (1, .inl v1), (2, .inl v2), (3, .inl v3)] []) : ∀ (n : Nat) (v0 : Nat) (v1 : Int32) (v2 : Int32) (v3 : Int32) (w : gW), mX2_firstUnlike_l22 F k82 k55 n v0 v1 v2 v3 w = some res → Wx X w 0 0 22 [(0, .inr (.inr (some v0))), (1, .inl v1), (2, .inl v2), (3, .inl v3)] [] := by
  intro n
  induction n with
  | zero => intro v0 v1 v2 v3 w h; cases (show (none : Option (Int32 × gW)) = some res from h)
  | succ n ih =>
    intro v0 v1 v2 v3 w h
    exact aX2_firstUnlike_h22 ok hres (F := F) (mX2_firstUnlike_l22 F k82 k55 n) k82 k55 ih hk82 hk55 v0 v1 v2 v3 w h
set_option maxRecDepth 100000 in
set_option maxHeartbeats 4000000 in
theorem aX2_firstUnlike_h12 {X : gX} (ok : gOk X cX2_firstUnlike RX2 4 (some .int) rmX2_firstUnlike) {res : Int32 × gW} (hres : gRs X (some (.int res.1)) res.2) {F : Nat} (r : Nat → Int32 → Int32 → gW → Option (Int32 × gW)) (k88 : Nat → Int32 → gW → Option (Int32 × gW)) (k55 : Nat → Int32 → Int32 → Int32 → gW → Option (Int32 × gW)) (hr : ∀ (v0 : Nat) (v1 : Int32) (v2 : Int32) (w : gW), r v0 v1 v2 w = some res → Wx X w 0 0 12 [(0, .inr (.inr (some v0))), (1, .inl v1), (2, .inl v2)] []) (hk88 : ∀ (v0 : Nat) (v1 : Int32) (w : gW), k88 v0 v1 w = some res → Wx X w 0 0 88 [(0, .inr (.inr (some v0))), (1, .inl v1)] []) (hk55 : ∀ (v0 : Nat) (v1 : Int32) (v2 : Int32) (v3 : Int32) (w : gW), k55 v0 v1 v2 v3 w = some res → Wx X w 0 0 55 [(0, .inr (.inr (some v0))), (1, .inl v1), (2, .inl v2), (3, .inl v3)] []) : ∀ (v0 : Nat) (v1 : Int32) (v2 : Int32) (w : gW), mX2_firstUnlike_h12 F r k88 k55 v0 v1 v2 w = some res → Wx X w 0 0 12 [(0, .inr (.inr (some v0))), (1, .inl v1), (2, .inl v2)] [] := by
  intro v0 v1 v2 w h
  unfold mX2_firstUnlike_h12 at h
  refine Wx.run ok kX2_firstUnlike 8 2 (lv' := [(0, .inr (.inr (some v0))), (1, .inl v1), (2, .inl v2)]) (st' := [.inr (.inr (some v0)), .inl v2]) (pc' := 14) rfl ?_
  refine Wx.getI ok kX2_firstUnlike 10 rfl lk_RX2_30_0 h (fun t14 h => ?_)
  refine Wx.icmp_ge ok kX2_firstUnlike 11 (tgt := 88) rfl (by decide) h (fun hc17 h => ?_) (fun hc17 h => ?_)
  · refine Wx.sub [0, 1] rfl ?_
    exact hk88 _ _ _ h
  · refine Wx.run ok kX2_firstUnlike 12 2 (lv' := [(3, .inl (0 : Int32)), (0, .inr (.inr (some v0))), (1, .inl v1), (2, .inl v2)]) (st' := []) (pc' := 22) rfl ?_
    refine Wx.sub [1, 2, 3, 0] rfl ?_
    refine aX2_firstUnlike_l22 ok hres (F := F) _ _ ?_ ?_ F _ _ _ _ _ h
    · intro v0 v1 v2 w h
      refine Wx.run ok kX2_firstUnlike 50 1 (lv' := [(2, .inl (v2 + (1 : Int32))), (0, .inr (.inr (some v0))), (1, .inl v1)]) (st' := []) (pc' := 85) rfl ?_
      refine Wx.jump ok kX2_firstUnlike 51 (tgt := 12) rfl (by decide) ?_
      refine Wx.sub [1, 2, 0] rfl ?_
      exact hr _ _ _ _ h
    · intro v0 v1 v2 v3 w h
      exact hk55 _ _ _ _ _ h
set_option maxRecDepth 100000 in
set_option maxHeartbeats 4000000 in
theorem aX2_firstUnlike_l12 {X : gX} (ok : gOk X cX2_firstUnlike RX2 4 (some .int) rmX2_firstUnlike) {res : Int32 × gW} (hres : gRs X (some (.int res.1)) res.2) {F : Nat} (k88 : Nat → Int32 → gW → Option (Int32 × gW)) (k55 : Nat → Int32 → Int32 → Int32 → gW → Option (Int32 × gW)) (hk88 : ∀ (v0 : Nat) (v1 : Int32) (w : gW), k88 v0 v1 w = some res → Wx X w 0 0 88 [(0, .inr (.inr (some v0))), (1, .inl v1)] []) (hk55 : ∀ (v0 : Nat) (v1 : Int32) (v2 : Int32) (v3 : Int32) (w : gW), k55 v0 v1 v2 v3 w = some res → Wx X w 0 0 55 [(0, .inr (.inr (some v0))), (1, .inl v1), (2, .inl v2), (3, .inl v3)] []) : ∀ (n : Nat) (v0 : Nat) (v1 : Int32) (v2 : Int32) (w : gW), mX2_firstUnlike_l12 F k88 k55 n v0 v1 v2 w = some res → Wx X w 0 0 12 [(0, .inr (.inr (some v0))), (1, .inl v1), (2, .inl v2)] [] := by
  intro n
  induction n with
  | zero => intro v0 v1 v2 w h; cases (show (none : Option (Int32 × gW)) = some res from h)
  | succ n ih =>
    intro v0 v1 v2 w h
    exact aX2_firstUnlike_h12 ok hres (F := F) (mX2_firstUnlike_l12 F k88 k55 n) k88 k55 ih hk88 hk55 v0 v1 v2 w h
set_option maxRecDepth 100000 in
set_option maxHeartbeats 4000000 in
theorem aX2_firstUnlike_h2 {X : gX} (ok : gOk X cX2_firstUnlike RX2 4 (some .int) rmX2_firstUnlike) {res : Int32 × gW} (hres : gRs X (some (.int res.1)) res.2) {F : Nat} (r : Nat → Int32 → gW → Option (Int32 × gW)) (k55 : Nat → Int32 → Int32 → Int32 → gW → Option (Int32 × gW)) (hr : ∀ (v0 : Nat) (v1 : Int32) (w : gW), r v0 v1 w = some res → Wx X w 0 0 2 [(0, .inr (.inr (some v0))), (1, .inl v1)] []) (hk55 : ∀ (v0 : Nat) (v1 : Int32) (v2 : Int32) (v3 : Int32) (w : gW), k55 v0 v1 v2 v3 w = some res → Wx X w 0 0 55 [(0, .inr (.inr (some v0))), (1, .inl v1), (2, .inl v2), (3, .inl v3)] []) : ∀ (v0 : Nat) (v1 : Int32) (w : gW), mX2_firstUnlike_h2 F r k55 v0 v1 w = some res → Wx X w 0 0 2 [(0, .inr (.inr (some v0))), (1, .inl v1)] [] := by
  intro v0 v1 w h
  unfold mX2_firstUnlike_h2 at h
  refine Wx.run ok kX2_firstUnlike 2 2 (lv' := [(0, .inr (.inr (some v0))), (1, .inl v1)]) (st' := [.inr (.inr (some v0)), .inl v1]) (pc' := 4) rfl ?_
  refine Wx.getI ok kX2_firstUnlike 4 rfl lk_RX2_30_0 h (fun t4 h => ?_)
  refine Wx.icmp_ge ok kX2_firstUnlike 5 (tgt := 94) rfl (by decide) h (fun hc7 h => ?_) (fun hc7 h => ?_)
  · refine Wx.run ok kX2_firstUnlike 54 1 (lv' := [(0, .inr (.inr (some v0))), (1, .inl v1)]) (st' := [.inl (-1 : Int32)]) (pc' := 95) rfl ?_
    exact Wx.ireturn ok kX2_firstUnlike 55 rfl hres h (by decide)
  · refine Wx.run ok kX2_firstUnlike 6 2 (lv' := [(2, .inl (0 : Int32)), (0, .inr (.inr (some v0))), (1, .inl v1)]) (st' := []) (pc' := 12) rfl ?_
    refine Wx.sub [1, 2, 0] rfl ?_
    refine aX2_firstUnlike_l12 ok hres (F := F) _ _ ?_ ?_ F _ _ _ _ h
    · intro v0 v1 w h
      refine Wx.run ok kX2_firstUnlike 52 1 (lv' := [(1, .inl (v1 + (1 : Int32))), (0, .inr (.inr (some v0)))]) (st' := []) (pc' := 91) rfl ?_
      refine Wx.jump ok kX2_firstUnlike 53 (tgt := 2) rfl (by decide) ?_
      refine Wx.sub [1, 0] rfl ?_
      exact hr _ _ _ h
    · intro v0 v1 v2 v3 w h
      exact hk55 _ _ _ _ _ h
set_option maxRecDepth 100000 in
set_option maxHeartbeats 4000000 in
theorem aX2_firstUnlike_l2 {X : gX} (ok : gOk X cX2_firstUnlike RX2 4 (some .int) rmX2_firstUnlike) {res : Int32 × gW} (hres : gRs X (some (.int res.1)) res.2) {F : Nat} (k55 : Nat → Int32 → Int32 → Int32 → gW → Option (Int32 × gW)) (hk55 : ∀ (v0 : Nat) (v1 : Int32) (v2 : Int32) (v3 : Int32) (w : gW), k55 v0 v1 v2 v3 w = some res → Wx X w 0 0 55 [(0, .inr (.inr (some v0))), (1, .inl v1), (2, .inl v2), (3, .inl v3)] []) : ∀ (n : Nat) (v0 : Nat) (v1 : Int32) (w : gW), mX2_firstUnlike_l2 F k55 n v0 v1 w = some res → Wx X w 0 0 2 [(0, .inr (.inr (some v0))), (1, .inl v1)] [] := by
  intro n
  induction n with
  | zero => intro v0 v1 w h; cases (show (none : Option (Int32 × gW)) = some res from h)
  | succ n ih =>
    intro v0 v1 w h
    exact aX2_firstUnlike_h2 ok hres (F := F) (mX2_firstUnlike_l2 F k55 n) k55 ih hk55 v0 v1 w h
set_option maxRecDepth 100000 in
set_option maxHeartbeats 4000000 in
theorem aX2_firstUnlike (l : Launch) (G : gG) {F : Nat} {v0 : Nat} {w : gW} {res : Int32 × gW} (h : mX2_firstUnlike F v0 w = some res) : gM l yX2_firstUnlike cX2_firstUnlike 4 (some .int) rmX2_firstUnlike G w (gTs [.inr (.inr (some v0))]) (some (.int res.1)) res.2 := by
  refine gM_of (y := yX2_firstUnlike) (by decide +kernel) (Nat.le_of_ble_eq_true rfl) ?_
  intro X ok hl hG hres hnm
  subst hl; subst hG
  unfold mX2_firstUnlike at h
  show Wx X w 0 0 0 [(0, .inr (.inr (some v0)))] []
  refine Wx.run ok kX2_firstUnlike 0 2 (lv' := [(1, .inl (0 : Int32)), (0, .inr (.inr (some v0)))]) (st' := []) (pc' := 2) rfl ?_
  refine Wx.sub [1, 0] rfl ?_
  refine aX2_firstUnlike_l2 ok hres (F := F) _ ?_ F _ _ _ h
  · intro v0 v1 v2 v3 w h
    refine Wx.run ok kX2_firstUnlike 33 1 (lv' := [(0, .inr (.inr (some v0))), (1, .inl v1), (2, .inl v2), (3, .inl v3)]) (st' := [.inr (.inr (some v0))]) (pc' := 56) rfl ?_
    refine Wx.getI ok kX2_firstUnlike 34 rfl lk_RX2_30_0 h (fun t56 h => ?_)
    refine Wx.run ok kX2_firstUnlike 35 1 (lv' := [(0, .inr (.inr (some v0))), (1, .inl v1), (2, .inl v2), (3, .inl v3)]) (st' := [.inr (.inr (some v0)), .inl t56]) (pc' := 60) rfl ?_
    refine Wx.getI ok kX2_firstUnlike 36 rfl lk_RX2_30_0 h (fun t60 h => ?_)
    refine Wx.run ok kX2_firstUnlike 37 4 (lv' := [(0, .inr (.inr (some v0))), (1, .inl v1), (2, .inl v2), (3, .inl v3)]) (st' := [.inr (.inr (some v0)), .inl ((t56 * t60) * v1)]) (pc' := 67) rfl ?_
    refine Wx.getI ok kX2_firstUnlike 41 rfl lk_RX2_30_0 h (fun t67 h => ?_)
    refine Wx.run ok kX2_firstUnlike 42 5 (lv' := [(0, .inr (.inr (some v0))), (1, .inl v1), (2, .inl v2), (3, .inl v3)]) (st' := [.inl ((((t56 * t60) * v1) + (t67 * v2)) + v3)]) (pc' := 75) rfl ?_
    exact Wx.ireturn ok kX2_firstUnlike 47 rfl hres h (by decide)
set_option maxRecDepth 100000 in
set_option maxHeartbeats 4000000 in
theorem aX2_leastTurned_h4 {X : gX} (ok : gOk X cX2_leastTurned RX2 4 (some .int) rmX2_leastTurned) {res : Int32 × gW} (hres : gRs X (some (.int res.1)) res.2) {F : Nat} (r : Nat → Int32 → Int32 → Int32 → gW → Option (Int32 × gW)) (hr : ∀ (v0 : Nat) (v1 : Int32) (v2 : Int32) (v3 : Int32) (w : gW), r v0 v1 v2 v3 w = some res → Wx X w 0 0 4 [(0, .inr (.inr (some v0))), (1, .inl v1), (2, .inl v2), (3, .inl v3)] []) : ∀ (v0 : Nat) (v1 : Int32) (v2 : Int32) (v3 : Int32) (w : gW), mX2_leastTurned_h4 F r v0 v1 v2 v3 w = some res → Wx X w 0 0 4 [(0, .inr (.inr (some v0))), (1, .inl v1), (2, .inl v2), (3, .inl v3)] [] := by
  intro v0 v1 v2 v3 w h
  unfold mX2_leastTurned_h4 at h
  refine Wx.run ok kX2_leastTurned 4 2 (lv' := [(0, .inr (.inr (some v0))), (1, .inl v1), (2, .inl v2), (3, .inl v3)]) (st' := [.inr (.inr (some v0)), .inl v3]) (pc' := 6) rfl ?_
  refine Wx.getI ok kX2_leastTurned 6 rfl lk_RX2_30_0 h (fun t6 h => ?_)
  refine Wx.icmp_ge ok kX2_leastTurned 7 (tgt := 39) rfl (by decide) h (fun hc9 h => ?_) (fun hc9 h => ?_)
  · refine Wx.run ok kX2_leastTurned 23 1 (lv' := [(0, .inr (.inr (some v0))), (1, .inl v1), (2, .inl v2), (3, .inl v3)]) (st' := [.inl v2]) (pc' := 40) rfl ?_
    exact Wx.ireturn ok kX2_leastTurned 24 rfl hres h (by decide)
  · refine Wx.run ok kX2_leastTurned 8 5 (lv' := [(0, .inr (.inr (some v0))), (1, .inl v1), (2, .inl v2), (3, .inl v3)]) (st' := [.inl v1, .inl v3, .inr (.inr (some v0)), .inr (.inr (some v0)), .inl v2]) (pc' := 17) rfl ?_
    obtain ⟨a17, ha17, h⟩ := gob h
    obtain ⟨q17, hq17, h⟩ := gob h
    refine Wx.callV ok kX2_leastTurned 13 rfl lm_RX2_45 cd_X2_mul ha17 [.inl v3, .inl v1] (some (.inl q17.1)) (aX2_mul _ _ hq17) (by decide) rfl (Nat.le_of_ble_eq_true rfl) rfl rfl ?_
    refine Wx.run ok kX2_leastTurned 14 1 (lv' := [(0, .inr (.inr (some v0))), (1, .inl v1), (2, .inl v2), (3, .inl v3)]) (st' := [.inr (.inr (some v0)), .inl q17.1, .inr (.inr (some v0)), .inl v2]) (pc' := 21) rfl ?_
    refine Wx.getR ok kX2_leastTurned 15 rfl lk_RX2_21_0 h (fun t21 h => ?_)
    refine Wx.run ok kX2_leastTurned 16 1 (lv' := [(0, .inr (.inr (some v0))), (1, .inl v1), (2, .inl v2), (3, .inl v3)]) (st' := [.inl v3, .inr (.inr t21), .inl q17.1, .inr (.inr (some v0)), .inl v2]) (pc' := 25) rfl ?_
    refine Wx.iald ok kX2_leastTurned 17 rfl h (fun t25 h => ?_)
    obtain ⟨a26, ha26, h⟩ := gob h
    obtain ⟨q26, hq26, h⟩ := gob h
    refine Wx.callV ok kX2_leastTurned 18 rfl lm_RX2_45 cd_X2_mul ha26 [.inl q17.1, .inl t25] (some (.inl q26.1)) (aX2_mul _ _ hq26) (by decide) rfl (Nat.le_of_ble_eq_true rfl) rfl rfl ?_
    obtain ⟨q29, hq29, h⟩ := gob h
    refine Wx.callS ok kX2_leastTurned 19 rfl lm_RX2_99 cd_J9_min_7cf53 [.inl v2, .inl q26.1] (some (.inl q29.1)) (aJ9_min_7cf53 _ _ hq29) (by decide) rfl (Nat.le_of_ble_eq_true rfl) rfl rfl ?_
    refine Wx.run ok kX2_leastTurned 20 2 (lv' := [(3, .inl (v3 + (1 : Int32))), (2, .inl q29.1), (0, .inr (.inr (some v0))), (1, .inl v1)]) (st' := []) (pc' := 36) rfl ?_
    refine Wx.jump ok kX2_leastTurned 22 (tgt := 4) rfl (by decide) ?_
    refine Wx.sub [2, 3, 1, 0] rfl ?_
    exact hr _ _ _ _ _ h
set_option maxRecDepth 100000 in
set_option maxHeartbeats 4000000 in
theorem aX2_leastTurned_l4 {X : gX} (ok : gOk X cX2_leastTurned RX2 4 (some .int) rmX2_leastTurned) {res : Int32 × gW} (hres : gRs X (some (.int res.1)) res.2) {F : Nat} : ∀ (n : Nat) (v0 : Nat) (v1 : Int32) (v2 : Int32) (v3 : Int32) (w : gW), mX2_leastTurned_l4 F n v0 v1 v2 v3 w = some res → Wx X w 0 0 4 [(0, .inr (.inr (some v0))), (1, .inl v1), (2, .inl v2), (3, .inl v3)] [] := by
  intro n
  induction n with
  | zero => intro v0 v1 v2 v3 w h; cases (show (none : Option (Int32 × gW)) = some res from h)
  | succ n ih =>
    intro v0 v1 v2 v3 w h
    exact aX2_leastTurned_h4 ok hres (F := F) (mX2_leastTurned_l4 F n) ih v0 v1 v2 v3 w h
set_option maxRecDepth 100000 in
set_option maxHeartbeats 4000000 in
theorem aX2_leastTurned (l : Launch) (G : gG) {F : Nat} {v0 : Nat} {v1 : Int32} {w : gW} {res : Int32 × gW} (h : mX2_leastTurned F v0 v1 w = some res) : gM l yX2_leastTurned cX2_leastTurned 4 (some .int) rmX2_leastTurned G w (gTs [.inr (.inr (some v0)), .inl v1]) (some (.int res.1)) res.2 := by
  refine gM_of (y := yX2_leastTurned) (by decide +kernel) (Nat.le_of_ble_eq_true rfl) ?_
  intro X ok hl hG hres hnm
  subst hl; subst hG
  unfold mX2_leastTurned at h
  show Wx X w 0 0 0 [(0, .inr (.inr (some v0))), (1, .inl v1)] []
  refine Wx.run ok kX2_leastTurned 0 4 (lv' := [(3, .inl (0 : Int32)), (2, .inl v1), (0, .inr (.inr (some v0))), (1, .inl v1)]) (st' := []) (pc' := 4) rfl ?_
  refine Wx.sub [2, 3, 1, 0] rfl ?_
  refine aX2_leastTurned_l4 ok hres (F := F) F _ _ _ _ _ h
set_option maxRecDepth 100000 in
set_option maxHeartbeats 4000000 in
theorem aX2_span_b96 {X : gX} (ok : gOk X cX2_span RX2 9 (some .long) rmX2_span) {res : Int64 × gW} (hres : gRs X (some (.long res.1)) res.2) {F : Nat} (r : Nat → (Option Nat) → Int32 → Int64 → Int32 → Int32 → Int32 → gW → Option (Int64 × gW)) (k102 : Nat → (Option Nat) → Int32 → Int64 → Int32 → Int32 → gW → Option (Int64 × gW)) (hr : ∀ (v0 : Nat) (v1 : Option Nat) (v2 : Int32) (v3 : Int64) (v5 : Int32) (v6 : Int32) (v7 : Int32) (w : gW), r v0 v1 v2 v3 v5 v6 v7 w = some res → Wx X w 0 0 34 [(0, .inr (.inr (some v0))), (1, .inr (.inr v1)), (2, .inl v2), (3, .inr (.inl v3)), (5, .inl v5), (6, .inl v6), (7, .inl v7)] []) (hk102 : ∀ (v0 : Nat) (v1 : Option Nat) (v2 : Int32) (v3 : Int64) (v5 : Int32) (v6 : Int32) (w : gW), k102 v0 v1 v2 v3 v5 v6 w = some res → Wx X w 0 0 102 [(0, .inr (.inr (some v0))), (1, .inr (.inr v1)), (2, .inl v2), (3, .inr (.inl v3)), (5, .inl v5), (6, .inl v6)] []) : ∀ (v0 : Nat) (v1 : Option Nat) (v2 : Int32) (v3 : Int64) (v5 : Int32) (v6 : Int32) (v7 : Int32) (w : gW), mX2_span_b96 F r k102 v0 v1 v2 v3 v5 v6 v7 w = some res → Wx X w 0 0 96 [(0, .inr (.inr (some v0))), (1, .inr (.inr v1)), (2, .inl v2), (3, .inr (.inl v3)), (5, .inl v5), (6, .inl v6), (7, .inl v7)] [] := by
  intro v0 v1 v2 v3 v5 v6 v7 w h
  unfold mX2_span_b96 at h
  refine Wx.run ok kX2_span 57 1 (lv' := [(7, .inl (v7 + (1 : Int32))), (0, .inr (.inr (some v0))), (1, .inr (.inr v1)), (2, .inl v2), (3, .inr (.inl v3)), (5, .inl v5), (6, .inl v6)]) (st' := []) (pc' := 99) rfl ?_
  refine Wx.jump ok kX2_span 58 (tgt := 34) rfl (by decide) ?_
  refine Wx.sub [1, 2, 3, 4, 5, 6, 0] rfl ?_
  exact hr _ _ _ _ _ _ _ _ h
set_option maxRecDepth 100000 in
set_option maxHeartbeats 4000000 in
theorem aX2_span_h34 {X : gX} (ok : gOk X cX2_span RX2 9 (some .long) rmX2_span) {res : Int64 × gW} (hres : gRs X (some (.long res.1)) res.2) {F : Nat} (r : Nat → (Option Nat) → Int32 → Int64 → Int32 → Int32 → Int32 → gW → Option (Int64 × gW)) (k102 : Nat → (Option Nat) → Int32 → Int64 → Int32 → Int32 → gW → Option (Int64 × gW)) (hr : ∀ (v0 : Nat) (v1 : Option Nat) (v2 : Int32) (v3 : Int64) (v5 : Int32) (v6 : Int32) (v7 : Int32) (w : gW), r v0 v1 v2 v3 v5 v6 v7 w = some res → Wx X w 0 0 34 [(0, .inr (.inr (some v0))), (1, .inr (.inr v1)), (2, .inl v2), (3, .inr (.inl v3)), (5, .inl v5), (6, .inl v6), (7, .inl v7)] []) (hk102 : ∀ (v0 : Nat) (v1 : Option Nat) (v2 : Int32) (v3 : Int64) (v5 : Int32) (v6 : Int32) (w : gW), k102 v0 v1 v2 v3 v5 v6 w = some res → Wx X w 0 0 102 [(0, .inr (.inr (some v0))), (1, .inr (.inr v1)), (2, .inl v2), (3, .inr (.inl v3)), (5, .inl v5), (6, .inl v6)] []) : ∀ (v0 : Nat) (v1 : Option Nat) (v2 : Int32) (v3 : Int64) (v5 : Int32) (v6 : Int32) (v7 : Int32) (w : gW), mX2_span_h34 F r k102 v0 v1 v2 v3 v5 v6 v7 w = some res → Wx X w 0 0 34 [(0, .inr (.inr (some v0))), (1, .inr (.inr v1)), (2, .inl v2), (3, .inr (.inl v3)), (5, .inl v5), (6, .inl v6), (7, .inl v7)] [] := by
  intro v0 v1 v2 v3 v5 v6 v7 w h
  unfold mX2_span_h34 at h
  refine Wx.run ok kX2_span 20 2 (lv' := [(0, .inr (.inr (some v0))), (1, .inr (.inr v1)), (2, .inl v2), (3, .inr (.inl v3)), (5, .inl v5), (6, .inl v6), (7, .inl v7)]) (st' := [.inl v2, .inl v7]) (pc' := 37) rfl ?_
  refine Wx.icmp_ge ok kX2_span 22 (tgt := 102) rfl (by decide) h (fun hc37 h => ?_) (fun hc37 h => ?_)
  · refine Wx.sub [0, 1, 2, 3, 4, 5] rfl ?_
    exact hk102 _ _ _ _ _ _ _ h
  · refine Wx.run ok kX2_span 23 2 (lv' := [(0, .inr (.inr (some v0))), (1, .inr (.inr v1)), (2, .inl v2), (3, .inr (.inl v3)), (5, .inl v5), (6, .inl v6), (7, .inl v7)]) (st' := [.inr (.inr (some v0)), .inr (.inr (some v0))]) (pc' := 42) rfl ?_
    refine Wx.getR ok kX2_span 25 rfl lk_RX2_15_0 h (fun t42 h => ?_)
    refine Wx.run ok kX2_span 26 1 (lv' := [(0, .inr (.inr (some v0))), (1, .inr (.inr v1)), (2, .inl v2), (3, .inr (.inl v3)), (5, .inl v5), (6, .inl v6), (7, .inl v7)]) (st' := [.inl v6, .inr (.inr t42), .inr (.inr (some v0))]) (pc' := 47) rfl ?_
    refine Wx.iald ok kX2_span 27 rfl h (fun t47 h => ?_)
    refine Wx.run ok kX2_span 28 2 (lv' := [(0, .inr (.inr (some v0))), (1, .inr (.inr v1)), (2, .inl v2), (3, .inr (.inl v3)), (5, .inl v5), (6, .inl v6), (7, .inl v7)]) (st' := [.inl v7, .inr (.inr v1), .inl t47, .inr (.inr (some v0))]) (pc' := 51) rfl ?_
    refine Wx.iald ok kX2_span 30 rfl h (fun t51 h => ?_)
    obtain ⟨a52, ha52, h⟩ := gob h
    obtain ⟨q52, hq52, h⟩ := gob h
    refine Wx.callV ok kX2_span 31 rfl lm_RX2_45 cd_X2_mul ha52 [.inl t47, .inl t51] (some (.inl q52.1)) (aX2_mul _ _ hq52) (by decide) rfl (Nat.le_of_ble_eq_true rfl) rfl rfl ?_
    refine Wx.run ok kX2_span 32 8 (lv' := [(8, .inl q52.1), (0, .inr (.inr (some v0))), (1, .inr (.inr v1)), (2, .inl v2), (3, .inr (.inl v3)), (5, .inl v5), (6, .inl v6), (7, .inl v7)]) (st' := [.inl (lg_cmp ((v3 >>> ((q52.1).toInt64 &&& 63)) &&& (1 : Int64)) (0 : Int64))]) (pc' := 65) rfl ?_
    refine Wx.if_ne ok kX2_span 40 (tgt := 96) rfl (by decide) h (fun hc65 h => ?_) (fun hc65 h => ?_)
    · refine Wx.run ok kX2_span 41 2 (lv' := [(8, .inl q52.1), (0, .inr (.inr (some v0))), (1, .inr (.inr v1)), (2, .inl v2), (3, .inr (.inl v3)), (5, .inl v5), (6, .inl v6), (7, .inl v7)]) (st' := [.inr (.inr (some v0)), .inl v5]) (pc' := 71) rfl ?_
      refine Wx.getI ok kX2_span 43 rfl lk_RX2_30_0 h (fun t71 h => ?_)
      refine Wx.icmp_ge ok kX2_span 44 (tgt := 96) rfl (by decide) h (fun hc74 h => ?_) (fun hc74 h => ?_)
      · refine Wx.sub [1, 2, 3, 4, 5, 6, 7] rfl ?_
        exact aX2_span_b96 ok hres (F := F) r k102 hr hk102 _ _ _ _ _ _ _ _ h
      · refine Wx.run ok kX2_span 45 7 (lv' := [(3, .inr (.inl (v3 ||| ((1 : Int64) <<< ((q52.1).toInt64 &&& 63))))), (8, .inl q52.1), (0, .inr (.inr (some v0))), (1, .inr (.inr v1)), (2, .inl v2), (5, .inl v5), (6, .inl v6), (7, .inl v7)]) (st' := [.inr (.inr (some v0))]) (pc' := 85) rfl ?_
        refine Wx.getR ok kX2_span 52 rfl lk_RX2_15_0 h (fun t85 h => ?_)
        refine Wx.run ok kX2_span 53 2 (lv' := [(3, .inr (.inl (v3 ||| ((1 : Int64) <<< ((q52.1).toInt64 &&& 63))))), (8, .inl q52.1), (0, .inr (.inr (some v0))), (1, .inr (.inr v1)), (2, .inl v2), (5, .inl v5), (6, .inl v6), (7, .inl v7)]) (st' := [.inl q52.1, .inl v5, .inr (.inr t85)]) (pc' := 92) rfl ?_
        refine Wx.iast ok kX2_span 55 rfl h (fun w92 h => ?_)
        refine Wx.run ok kX2_span 56 1 (lv' := [(5, .inl (v5 + (1 : Int32))), (3, .inr (.inl (v3 ||| ((1 : Int64) <<< ((q52.1).toInt64 &&& 63))))), (8, .inl q52.1), (0, .inr (.inr (some v0))), (1, .inr (.inr v1)), (2, .inl v2), (6, .inl v6), (7, .inl v7)]) (st' := []) (pc' := 96) rfl ?_
        refine Wx.sub [3, 4, 5, 1, 0, 6, 7] rfl ?_
        exact aX2_span_b96 ok hres (F := F) r k102 hr hk102 _ _ _ _ _ _ _ _ h
    · refine Wx.sub [1, 2, 3, 4, 5, 6, 7] rfl ?_
      exact aX2_span_b96 ok hres (F := F) r k102 hr hk102 _ _ _ _ _ _ _ _ h
set_option maxRecDepth 100000 in
set_option maxHeartbeats 4000000 in
theorem aX2_span_l34 {X : gX} (ok : gOk X cX2_span RX2 9 (some .long) rmX2_span) {res : Int64 × gW} (hres : gRs X (some (.long res.1)) res.2) {F : Nat} (k102 : Nat → (Option Nat) → Int32 → Int64 → Int32 → Int32 → gW → Option (Int64 × gW)) (hk102 : ∀ (v0 : Nat) (v1 : Option Nat) (v2 : Int32) (v3 : Int64) (v5 : Int32) (v6 : Int32) (w : gW), k102 v0 v1 v2 v3 v5 v6 w = some res → Wx X w 0 0 102 [(0, .inr (.inr (some v0))), (1, .inr (.inr v1)), (2, .inl v2), (3, .inr (.inl v3)), (5, .inl v5), (6, .inl v6)] []) : ∀ (n : Nat) (v0 : Nat) (v1 : Option Nat) (v2 : Int32) (v3 : Int64) (v5 : Int32) (v6 : Int32) (v7 : Int32) (w : gW), mX2_span_l34 F k102 n v0 v1 v2 v3 v5 v6 v7 w = some res → Wx X w 0 0 34 [(0, .inr (.inr (some v0))), (1, .inr (.inr v1)), (2, .inl v2), (3, .inr (.inl v3)), (5, .inl v5), (6, .inl v6), (7, .inl v7)] [] := by
  intro n
  induction n with
  | zero => intro v0 v1 v2 v3 v5 v6 v7 w h; cases (show (none : Option (Int64 × gW)) = some res from h)
  | succ n ih =>
    intro v0 v1 v2 v3 v5 v6 v7 w h
    exact aX2_span_h34 ok hres (F := F) (mX2_span_l34 F k102 n) k102 ih hk102 v0 v1 v2 v3 v5 v6 v7 w h
set_option maxRecDepth 100000 in
set_option maxHeartbeats 4000000 in
theorem aX2_span_h15 {X : gX} (ok : gOk X cX2_span RX2 9 (some .long) rmX2_span) {res : Int64 × gW} (hres : gRs X (some (.long res.1)) res.2) {F : Nat} (r : Nat → (Option Nat) → Int32 → Int64 → Int32 → Int32 → gW → Option (Int64 × gW)) (hr : ∀ (v0 : Nat) (v1 : Option Nat) (v2 : Int32) (v3 : Int64) (v5 : Int32) (v6 : Int32) (w : gW), r v0 v1 v2 v3 v5 v6 w = some res → Wx X w 0 0 15 [(0, .inr (.inr (some v0))), (1, .inr (.inr v1)), (2, .inl v2), (3, .inr (.inl v3)), (5, .inl v5), (6, .inl v6)] []) : ∀ (v0 : Nat) (v1 : Option Nat) (v2 : Int32) (v3 : Int64) (v5 : Int32) (v6 : Int32) (w : gW), mX2_span_h15 F r v0 v1 v2 v3 v5 v6 w = some res → Wx X w 0 0 15 [(0, .inr (.inr (some v0))), (1, .inr (.inr v1)), (2, .inl v2), (3, .inr (.inl v3)), (5, .inl v5), (6, .inl v6)] [] := by
  intro v0 v1 v2 v3 v5 v6 w h
  unfold mX2_span_h15 at h
  refine Wx.run ok kX2_span 11 2 (lv' := [(0, .inr (.inr (some v0))), (1, .inr (.inr v1)), (2, .inl v2), (3, .inr (.inl v3)), (5, .inl v5), (6, .inl v6)]) (st' := [.inl v5, .inl v6]) (pc' := 19) rfl ?_
  refine Wx.icmp_ge ok kX2_span 13 (tgt := 108) rfl (by decide) h (fun hc19 h => ?_) (fun hc19 h => ?_)
  · refine Wx.run ok kX2_span 61 1 (lv' := [(0, .inr (.inr (some v0))), (1, .inr (.inr v1)), (2, .inl v2), (3, .inr (.inl v3)), (5, .inl v5), (6, .inl v6)]) (st' := [.inr (.inl v3)]) (pc' := 109) rfl ?_
    exact Wx.lreturn ok kX2_span 62 rfl hres h (by decide)
  · refine Wx.run ok kX2_span 14 2 (lv' := [(0, .inr (.inr (some v0))), (1, .inr (.inr v1)), (2, .inl v2), (3, .inr (.inl v3)), (5, .inl v5), (6, .inl v6)]) (st' := [.inr (.inr (some v0)), .inl v6]) (pc' := 25) rfl ?_
    refine Wx.getI ok kX2_span 16 rfl lk_RX2_30_0 h (fun t25 h => ?_)
    refine Wx.icmp_ge ok kX2_span 17 (tgt := 108) rfl (by decide) h (fun hc28 h => ?_) (fun hc28 h => ?_)
    · refine Wx.run ok kX2_span 61 1 (lv' := [(0, .inr (.inr (some v0))), (1, .inr (.inr v1)), (2, .inl v2), (3, .inr (.inl v3)), (5, .inl v5), (6, .inl v6)]) (st' := [.inr (.inl v3)]) (pc' := 109) rfl ?_
      exact Wx.lreturn ok kX2_span 62 rfl hres h (by decide)
    · refine Wx.run ok kX2_span 18 2 (lv' := [(7, .inl (0 : Int32)), (0, .inr (.inr (some v0))), (1, .inr (.inr v1)), (2, .inl v2), (3, .inr (.inl v3)), (5, .inl v5), (6, .inl v6)]) (st' := []) (pc' := 34) rfl ?_
      refine Wx.sub [1, 2, 3, 4, 5, 6, 0] rfl ?_
      refine aX2_span_l34 ok hres (F := F) _ ?_ F _ _ _ _ _ _ _ _ h
      · intro v0 v1 v2 v3 v5 v6 w h
        refine Wx.run ok kX2_span 59 1 (lv' := [(6, .inl (v6 + (1 : Int32))), (0, .inr (.inr (some v0))), (1, .inr (.inr v1)), (2, .inl v2), (3, .inr (.inl v3)), (5, .inl v5)]) (st' := []) (pc' := 105) rfl ?_
        refine Wx.jump ok kX2_span 60 (tgt := 15) rfl (by decide) ?_
        refine Wx.sub [1, 2, 3, 4, 5, 0] rfl ?_
        exact hr _ _ _ _ _ _ _ h
set_option maxRecDepth 100000 in
set_option maxHeartbeats 4000000 in
theorem aX2_span_l15 {X : gX} (ok : gOk X cX2_span RX2 9 (some .long) rmX2_span) {res : Int64 × gW} (hres : gRs X (some (.long res.1)) res.2) {F : Nat} : ∀ (n : Nat) (v0 : Nat) (v1 : Option Nat) (v2 : Int32) (v3 : Int64) (v5 : Int32) (v6 : Int32) (w : gW), mX2_span_l15 F n v0 v1 v2 v3 v5 v6 w = some res → Wx X w 0 0 15 [(0, .inr (.inr (some v0))), (1, .inr (.inr v1)), (2, .inl v2), (3, .inr (.inl v3)), (5, .inl v5), (6, .inl v6)] [] := by
  intro n
  induction n with
  | zero => intro v0 v1 v2 v3 v5 v6 w h; cases (show (none : Option (Int64 × gW)) = some res from h)
  | succ n ih =>
    intro v0 v1 v2 v3 v5 v6 w h
    exact aX2_span_h15 ok hres (F := F) (mX2_span_l15 F n) ih v0 v1 v2 v3 v5 v6 w h
set_option maxRecDepth 100000 in
set_option maxHeartbeats 4000000 in
theorem aX2_span (l : Launch) (G : gG) {F : Nat} {v0 : Nat} {v1 : Option Nat} {v2 : Int32} {w : gW} {res : Int64 × gW} (h : mX2_span F v0 v1 v2 w = some res) : gM l yX2_span cX2_span 9 (some .long) rmX2_span G w (gTs [.inr (.inr (some v0)), .inr (.inr v1), .inl v2]) (some (.long res.1)) res.2 := by
  refine gM_of (y := yX2_span) (by decide +kernel) (Nat.le_of_ble_eq_true rfl) ?_
  intro X ok hl hG hres hnm
  subst hl; subst hG
  unfold mX2_span at h
  show Wx X w 0 0 0 [(0, .inr (.inr (some v0))), (1, .inr (.inr v1)), (2, .inl v2)] []
  refine Wx.run ok kX2_span 0 5 (lv' := [(5, .inl (1 : Int32)), (3, .inr (.inl (1 : Int64))), (0, .inr (.inr (some v0))), (1, .inr (.inr v1)), (2, .inl v2)]) (st' := [.inr (.inr (some v0))]) (pc' := 6) rfl ?_
  refine Wx.getR ok kX2_span 5 rfl lk_RX2_15_0 h (fun t6 h => ?_)
  refine Wx.run ok kX2_span 6 2 (lv' := [(5, .inl (1 : Int32)), (3, .inr (.inl (1 : Int64))), (0, .inr (.inr (some v0))), (1, .inr (.inr v1)), (2, .inl v2)]) (st' := [.inl (0 : Int32), .inl (0 : Int32), .inr (.inr t6)]) (pc' := 11) rfl ?_
  refine Wx.iast ok kX2_span 8 rfl h (fun w11 h => ?_)
  refine Wx.run ok kX2_span 9 2 (lv' := [(6, .inl (0 : Int32)), (5, .inl (1 : Int32)), (3, .inr (.inl (1 : Int64))), (0, .inr (.inr (some v0))), (1, .inr (.inr v1)), (2, .inl v2)]) (st' := []) (pc' := 15) rfl ?_
  refine Wx.sub [3, 4, 5, 2, 1, 0] rfl ?_
  refine aX2_span_l15 ok hres (F := F) F _ _ _ _ _ _ _ h
set_option maxRecDepth 100000 in
set_option maxHeartbeats 4000000 in
theorem aX3_goesWithProducts_h17 {X : gX} (ok : gOk X cX3_goesWithProducts RX3 6 (some .boolean) rmX3_goesWithProducts) {res : Int32 × gW} (hres : gRs X (some (.int res.1)) res.2) {F : Nat} (r : Nat → (Option Nat) → (Option Nat) → Int32 → Int32 → gW → Option (Int32 × gW)) (k97 : Nat → (Option Nat) → (Option Nat) → gW → Option (Int32 × gW)) (hr : ∀ (v0 : Nat) (v1 : Option Nat) (v2 : Option Nat) (v3 : Int32) (v4 : Int32) (w : gW), r v0 v1 v2 v3 v4 w = some res → Wx X w 0 0 17 [(0, .inr (.inr (some v0))), (1, .inr (.inr v1)), (2, .inr (.inr v2)), (3, .inl v3), (4, .inl v4)] []) (hk97 : ∀ (v0 : Nat) (v1 : Option Nat) (v2 : Option Nat) (w : gW), k97 v0 v1 v2 w = some res → Wx X w 0 0 97 [(0, .inr (.inr (some v0))), (1, .inr (.inr v1)), (2, .inr (.inr v2))] []) : ∀ (v0 : Nat) (v1 : Option Nat) (v2 : Option Nat) (v3 : Int32) (v4 : Int32) (w : gW), mX3_goesWithProducts_h17 F r k97 v0 v1 v2 v3 v4 w = some res → Wx X w 0 0 17 [(0, .inr (.inr (some v0))), (1, .inr (.inr v1)), (2, .inr (.inr v2)), (3, .inl v3), (4, .inl v4)] [] := by
  intro v0 v1 v2 v3 v4 w h
  unfold mX3_goesWithProducts_h17 at h
  refine Wx.run ok kX3_goesWithProducts 12 2 (lv' := [(0, .inr (.inr (some v0))), (1, .inr (.inr v1)), (2, .inr (.inr v2)), (3, .inl v3), (4, .inl v4)]) (st' := [.inr (.inr v1), .inl v4]) (pc' := 20) rfl ?_
  refine Wx.getI ok kX3_goesWithProducts 14 rfl lk_RX3_33_0 h (fun t20 h => ?_)
  refine Wx.icmp_ge ok kX3_goesWithProducts 15 (tgt := 97) rfl (by decide) h (fun hc23 h => ?_) (fun hc23 h => ?_)
  · refine Wx.sub [0, 1, 2] rfl ?_
    exact hk97 _ _ _ _ h
  · refine Wx.run ok kX3_goesWithProducts 16 2 (lv' := [(0, .inr (.inr (some v0))), (1, .inr (.inr v1)), (2, .inr (.inr v2)), (3, .inl v3), (4, .inl v4)]) (st' := [.inr (.inr (some v0)), .inr (.inr v2)]) (pc' := 28) rfl ?_
    refine Wx.getR ok kX3_goesWithProducts 18 rfl lk_RX3_21_0 h (fun t28 h => ?_)
    refine Wx.run ok kX3_goesWithProducts 19 1 (lv' := [(0, .inr (.inr (some v0))), (1, .inr (.inr v1)), (2, .inr (.inr v2)), (3, .inl v3), (4, .inl v4)]) (st' := [.inr (.inr (some v0)), .inr (.inr t28), .inr (.inr v2)]) (pc' := 32) rfl ?_
    refine Wx.getR ok kX3_goesWithProducts 20 rfl lk_RX3_15_0 h (fun t32 h => ?_)
    refine Wx.run ok kX3_goesWithProducts 21 1 (lv' := [(0, .inr (.inr (some v0))), (1, .inr (.inr v1)), (2, .inr (.inr v2)), (3, .inl v3), (4, .inl v4)]) (st' := [.inl v4, .inr (.inr t32), .inr (.inr t28), .inr (.inr v2)]) (pc' := 37) rfl ?_
    refine Wx.iald ok kX3_goesWithProducts 22 rfl h (fun t37 h => ?_)
    refine Wx.iald ok kX3_goesWithProducts 23 rfl h (fun t38 h => ?_)
    refine Wx.run ok kX3_goesWithProducts 24 1 (lv' := [(0, .inr (.inr (some v0))), (1, .inr (.inr v1)), (2, .inr (.inr v2)), (3, .inl v3), (4, .inl v4)]) (st' := [.inr (.inr (some v0)), .inl t38, .inr (.inr v2)]) (pc' := 40) rfl ?_
    refine Wx.getR ok kX3_goesWithProducts 25 rfl lk_RX3_27_0 h (fun t40 h => ?_)
    refine Wx.run ok kX3_goesWithProducts 26 1 (lv' := [(0, .inr (.inr (some v0))), (1, .inr (.inr v1)), (2, .inr (.inr v2)), (3, .inl v3), (4, .inl v4)]) (st' := [.inr (.inr (some v0)), .inr (.inr t40), .inl t38, .inr (.inr v2)]) (pc' := 44) rfl ?_
    refine Wx.getR ok kX3_goesWithProducts 27 rfl lk_RX3_18_0 h (fun t44 h => ?_)
    refine Wx.run ok kX3_goesWithProducts 28 1 (lv' := [(0, .inr (.inr (some v0))), (1, .inr (.inr v1)), (2, .inr (.inr v2)), (3, .inl v3), (4, .inl v4)]) (st' := [.inl v4, .inr (.inr t44), .inr (.inr t40), .inl t38, .inr (.inr v2)]) (pc' := 49) rfl ?_
    refine Wx.iald ok kX3_goesWithProducts 29 rfl h (fun t49 h => ?_)
    refine Wx.iald ok kX3_goesWithProducts 30 rfl h (fun t50 h => ?_)
    obtain ⟨a51, ha51, h⟩ := gob h
    obtain ⟨q51, hq51, h⟩ := gob h
    refine Wx.callV ok kX3_goesWithProducts 31 rfl lm_RX3_77 cd_X2_mul ha51 [.inl t38, .inl t50] (some (.inl q51.1)) (aX2_mul _ _ hq51) (by decide) rfl (Nat.le_of_ble_eq_true rfl) rfl rfl ?_
    refine Wx.run ok kX3_goesWithProducts 32 2 (lv' := [(5, .inl q51.1), (0, .inr (.inr (some v0))), (1, .inr (.inr v1)), (2, .inr (.inr v2)), (3, .inl v3), (4, .inl v4)]) (st' := [.inr (.inr (some v0))]) (pc' := 57) rfl ?_
    refine Wx.getR ok kX3_goesWithProducts 34 rfl lk_RX3_24_0 h (fun t57 h => ?_)
    refine Wx.run ok kX3_goesWithProducts 35 1 (lv' := [(5, .inl q51.1), (0, .inr (.inr (some v0))), (1, .inr (.inr v1)), (2, .inr (.inr v2)), (3, .inl v3), (4, .inl v4)]) (st' := [.inl q51.1, .inr (.inr t57)]) (pc' := 62) rfl ?_
    refine Wx.iald ok kX3_goesWithProducts 36 rfl h (fun t62 h => ?_)
    refine Wx.run ok kX3_goesWithProducts 37 1 (lv' := [(5, .inl q51.1), (0, .inr (.inr (some v0))), (1, .inr (.inr v1)), (2, .inr (.inr v2)), (3, .inl v3), (4, .inl v4)]) (st' := [.inl v3, .inl t62]) (pc' := 64) rfl ?_
    refine Wx.icmp_ne ok kX3_goesWithProducts 38 (tgt := 69) rfl (by decide) h (fun hc64 h => ?_) (fun hc64 h => ?_)
    · refine Wx.run ok kX3_goesWithProducts 39 1 (lv' := [(5, .inl q51.1), (0, .inr (.inr (some v0))), (1, .inr (.inr v1)), (2, .inr (.inr v2)), (3, .inl v3), (4, .inl v4)]) (st' := [.inl (0 : Int32)]) (pc' := 68) rfl ?_
      exact Wx.zreturn ok kX3_goesWithProducts 40 rfl gNz0 hres h (by decide)
    · refine Wx.run ok kX3_goesWithProducts 41 1 (lv' := [(5, .inl q51.1), (0, .inr (.inr (some v0))), (1, .inr (.inr v1)), (2, .inr (.inr v2)), (3, .inl v3), (4, .inl v4)]) (st' := [.inr (.inr (some v0))]) (pc' := 70) rfl ?_
      refine Wx.getR ok kX3_goesWithProducts 42 rfl lk_RX3_24_0 h (fun t70 h => ?_)
      refine Wx.run ok kX3_goesWithProducts 43 2 (lv' := [(5, .inl q51.1), (0, .inr (.inr (some v0))), (1, .inr (.inr v1)), (2, .inr (.inr v2)), (3, .inl v3), (4, .inl v4)]) (st' := [.inl v3, .inl q51.1, .inr (.inr t70)]) (pc' := 76) rfl ?_
      refine Wx.iast ok kX3_goesWithProducts 45 rfl h (fun w76 h => ?_)
      refine Wx.run ok kX3_goesWithProducts 46 1 (lv' := [(5, .inl q51.1), (0, .inr (.inr (some v0))), (1, .inr (.inr v1)), (2, .inr (.inr v2)), (3, .inl v3), (4, .inl v4)]) (st' := [.inr (.inr (some v0))]) (pc' := 78) rfl ?_
      refine Wx.getR ok kX3_goesWithProducts 47 rfl lk_RX3_21_0 h (fun t78 h => ?_)
      refine Wx.run ok kX3_goesWithProducts 48 1 (lv' := [(5, .inl q51.1), (0, .inr (.inr (some v0))), (1, .inr (.inr v1)), (2, .inr (.inr v2)), (3, .inl v3), (4, .inl v4)]) (st' := [.inr (.inr (some v0)), .inr (.inr t78)]) (pc' := 82) rfl ?_
      refine Wx.getR ok kX3_goesWithProducts 49 rfl lk_RX3_9_0 h (fun t82 h => ?_)
      refine Wx.run ok kX3_goesWithProducts 50 1 (lv' := [(5, .inl q51.1), (0, .inr (.inr (some v0))), (1, .inr (.inr v1)), (2, .inr (.inr v2)), (3, .inl v3), (4, .inl v4)]) (st' := [.inl v4, .inr (.inr t82), .inr (.inr t78)]) (pc' := 87) rfl ?_
      refine Wx.iald ok kX3_goesWithProducts 51 rfl h (fun t87 h => ?_)
      refine Wx.run ok kX3_goesWithProducts 52 1 (lv' := [(5, .inl q51.1), (0, .inr (.inr (some v0))), (1, .inr (.inr v1)), (2, .inr (.inr v2)), (3, .inl v3), (4, .inl v4)]) (st' := [.inl q51.1, .inl t87, .inr (.inr t78)]) (pc' := 90) rfl ?_
      refine Wx.iast ok kX3_goesWithProducts 53 rfl h (fun w90 h => ?_)
      refine Wx.run ok kX3_goesWithProducts 54 1 (lv' := [(4, .inl (v4 + (1 : Int32))), (5, .inl q51.1), (0, .inr (.inr (some v0))), (1, .inr (.inr v1)), (2, .inr (.inr v2)), (3, .inl v3)]) (st' := []) (pc' := 94) rfl ?_
      refine Wx.jump ok kX3_goesWithProducts 55 (tgt := 17) rfl (by decide) ?_
      refine Wx.sub [2, 3, 4, 5, 0] rfl ?_
      exact hr _ _ _ _ _ _ h
set_option maxRecDepth 100000 in
set_option maxHeartbeats 4000000 in
theorem aX3_goesWithProducts_l17 {X : gX} (ok : gOk X cX3_goesWithProducts RX3 6 (some .boolean) rmX3_goesWithProducts) {res : Int32 × gW} (hres : gRs X (some (.int res.1)) res.2) {F : Nat} (k97 : Nat → (Option Nat) → (Option Nat) → gW → Option (Int32 × gW)) (hk97 : ∀ (v0 : Nat) (v1 : Option Nat) (v2 : Option Nat) (w : gW), k97 v0 v1 v2 w = some res → Wx X w 0 0 97 [(0, .inr (.inr (some v0))), (1, .inr (.inr v1)), (2, .inr (.inr v2))] []) : ∀ (n : Nat) (v0 : Nat) (v1 : Option Nat) (v2 : Option Nat) (v3 : Int32) (v4 : Int32) (w : gW), mX3_goesWithProducts_l17 F k97 n v0 v1 v2 v3 v4 w = some res → Wx X w 0 0 17 [(0, .inr (.inr (some v0))), (1, .inr (.inr v1)), (2, .inr (.inr v2)), (3, .inl v3), (4, .inl v4)] [] := by
  intro n
  induction n with
  | zero => intro v0 v1 v2 v3 v4 w h; cases (show (none : Option (Int32 × gW)) = some res from h)
  | succ n ih =>
    intro v0 v1 v2 v3 v4 w h
    exact aX3_goesWithProducts_h17 ok hres (F := F) (mX3_goesWithProducts_l17 F k97 n) k97 ih hk97 v0 v1 v2 v3 v4 w h
set_option maxRecDepth 100000 in
set_option maxHeartbeats 4000000 in
theorem aX3_goesWithProducts_h112 {X : gX} (ok : gOk X cX3_goesWithProducts RX3 6 (some .boolean) rmX3_goesWithProducts) {res : Int32 × gW} (hres : gRs X (some (.int res.1)) res.2) {F : Nat} (r : Nat → (Option Nat) → (Option Nat) → Int32 → Int32 → gW → Option (Int32 × gW)) (k168 : Nat → (Option Nat) → (Option Nat) → Int32 → gW → Option (Int32 × gW)) (hr : ∀ (v0 : Nat) (v1 : Option Nat) (v2 : Option Nat) (v4 : Int32) (v5 : Int32) (w : gW), r v0 v1 v2 v4 v5 w = some res → Wx X w 0 0 112 [(0, .inr (.inr (some v0))), (1, .inr (.inr v1)), (2, .inr (.inr v2)), (4, .inl v4), (5, .inl v5)] []) (hk168 : ∀ (v0 : Nat) (v1 : Option Nat) (v2 : Option Nat) (v4 : Int32) (w : gW), k168 v0 v1 v2 v4 w = some res → Wx X w 0 0 168 [(0, .inr (.inr (some v0))), (1, .inr (.inr v1)), (2, .inr (.inr v2)), (4, .inl v4)] []) : ∀ (v0 : Nat) (v1 : Option Nat) (v2 : Option Nat) (v4 : Int32) (v5 : Int32) (w : gW), mX3_goesWithProducts_h112 F r k168 v0 v1 v2 v4 v5 w = some res → Wx X w 0 0 112 [(0, .inr (.inr (some v0))), (1, .inr (.inr v1)), (2, .inr (.inr v2)), (4, .inl v4), (5, .inl v5)] [] := by
  intro v0 v1 v2 v4 v5 w h
  unfold mX3_goesWithProducts_h112 at h
  refine Wx.run ok kX3_goesWithProducts 64 2 (lv' := [(0, .inr (.inr (some v0))), (1, .inr (.inr v1)), (2, .inr (.inr v2)), (4, .inl v4), (5, .inl v5)]) (st' := [.inr (.inr (some v0)), .inl v5]) (pc' := 115) rfl ?_
  refine Wx.getI ok kX3_goesWithProducts 66 rfl lk_RX3_47_0 h (fun t115 h => ?_)
  refine Wx.icmp_ge ok kX3_goesWithProducts 67 (tgt := 168) rfl (by decide) h (fun hc118 h => ?_) (fun hc118 h => ?_)
  · refine Wx.sub [0, 1, 2, 3] rfl ?_
    exact hk168 _ _ _ _ _ h
  · refine Wx.run ok kX3_goesWithProducts 68 2 (lv' := [(0, .inr (.inr (some v0))), (1, .inr (.inr v1)), (2, .inr (.inr v2)), (4, .inl v4), (5, .inl v5)]) (st' := [.inr (.inr (some v0)), .inr (.inr v2)]) (pc' := 123) rfl ?_
    refine Wx.getR ok kX3_goesWithProducts 70 rfl lk_RX3_21_0 h (fun t123 h => ?_)
    refine Wx.run ok kX3_goesWithProducts 71 1 (lv' := [(0, .inr (.inr (some v0))), (1, .inr (.inr v1)), (2, .inr (.inr v2)), (4, .inl v4), (5, .inl v5)]) (st' := [.inl v4, .inr (.inr t123), .inr (.inr v2)]) (pc' := 128) rfl ?_
    refine Wx.iald ok kX3_goesWithProducts 72 rfl h (fun t128 h => ?_)
    refine Wx.run ok kX3_goesWithProducts 73 1 (lv' := [(0, .inr (.inr (some v0))), (1, .inr (.inr v1)), (2, .inr (.inr v2)), (4, .inl v4), (5, .inl v5)]) (st' := [.inr (.inr (some v0)), .inl t128, .inr (.inr v2)]) (pc' := 130) rfl ?_
    refine Wx.getR ok kX3_goesWithProducts 74 rfl lk_RX3_27_0 h (fun t130 h => ?_)
    refine Wx.run ok kX3_goesWithProducts 75 1 (lv' := [(0, .inr (.inr (some v0))), (1, .inr (.inr v1)), (2, .inr (.inr v2)), (4, .inl v4), (5, .inl v5)]) (st' := [.inl v5, .inr (.inr t130), .inl t128, .inr (.inr v2)]) (pc' := 135) rfl ?_
    refine Wx.iald ok kX3_goesWithProducts 76 rfl h (fun t135 h => ?_)
    obtain ⟨a136, ha136, h⟩ := gob h
    obtain ⟨q136, hq136, h⟩ := gob h
    refine Wx.callV ok kX3_goesWithProducts 77 rfl lm_RX3_77 cd_X2_mul ha136 [.inl t128, .inl t135] (some (.inl q136.1)) (aX2_mul _ _ hq136) (by decide) rfl (Nat.le_of_ble_eq_true rfl) rfl rfl ?_
    refine Wx.run ok kX3_goesWithProducts 78 1 (lv' := [(0, .inr (.inr (some v0))), (1, .inr (.inr v1)), (2, .inr (.inr v2)), (4, .inl v4), (5, .inl v5)]) (st' := [.inr (.inr (some v0)), .inl q136.1]) (pc' := 140) rfl ?_
    refine Wx.getR ok kX3_goesWithProducts 79 rfl lk_RX3_21_0 h (fun t140 h => ?_)
    refine Wx.run ok kX3_goesWithProducts 80 3 (lv' := [(0, .inr (.inr (some v0))), (1, .inr (.inr v1)), (2, .inr (.inr v2)), (4, .inl v4), (5, .inl v5)]) (st' := [.inr (.inr v1), .inl v4, .inr (.inr v1), .inr (.inr t140), .inl q136.1]) (pc' := 147) rfl ?_
    refine Wx.getR ok kX3_goesWithProducts 83 rfl lk_RX3_57_0 h (fun t147 h => ?_)
    refine Wx.run ok kX3_goesWithProducts 84 1 (lv' := [(0, .inr (.inr (some v0))), (1, .inr (.inr v1)), (2, .inr (.inr v2)), (4, .inl v4), (5, .inl v5)]) (st' := [.inl v5, .inr (.inr t147), .inl v4, .inr (.inr v1), .inr (.inr t140), .inl q136.1]) (pc' := 152) rfl ?_
    refine Wx.iald ok kX3_goesWithProducts 85 rfl h (fun t152 h => ?_)
    obtain ⟨a153, ha153, h⟩ := gob h
    obtain ⟨q153, hq153, h⟩ := gob h
    refine Wx.callV ok kX3_goesWithProducts 86 rfl lm_RX3_77 cd_X2_mul ha153 [.inl v4, .inl t152] (some (.inl q153.1)) (aX2_mul _ _ hq153) (by decide) rfl (Nat.le_of_ble_eq_true rfl) rfl rfl ?_
    refine Wx.iald ok kX3_goesWithProducts 87 rfl h (fun t156 h => ?_)
    refine Wx.icmp_eq ok kX3_goesWithProducts 88 (tgt := 162) rfl (by decide) h (fun hc157 h => ?_) (fun hc157 h => ?_)
    · refine Wx.run ok kX3_goesWithProducts 91 1 (lv' := [(5, .inl (v5 + (1 : Int32))), (0, .inr (.inr (some v0))), (1, .inr (.inr v1)), (2, .inr (.inr v2)), (4, .inl v4)]) (st' := []) (pc' := 165) rfl ?_
      refine Wx.jump ok kX3_goesWithProducts 92 (tgt := 112) rfl (by decide) ?_
      refine Wx.sub [1, 2, 3, 4, 0] rfl ?_
      exact hr _ _ _ _ _ _ h
    · refine Wx.run ok kX3_goesWithProducts 89 1 (lv' := [(0, .inr (.inr (some v0))), (1, .inr (.inr v1)), (2, .inr (.inr v2)), (4, .inl v4), (5, .inl v5)]) (st' := [.inl (0 : Int32)]) (pc' := 161) rfl ?_
      exact Wx.zreturn ok kX3_goesWithProducts 90 rfl gNz0 hres h (by decide)
set_option maxRecDepth 100000 in
set_option maxHeartbeats 4000000 in
theorem aX3_goesWithProducts_l112 {X : gX} (ok : gOk X cX3_goesWithProducts RX3 6 (some .boolean) rmX3_goesWithProducts) {res : Int32 × gW} (hres : gRs X (some (.int res.1)) res.2) {F : Nat} (k168 : Nat → (Option Nat) → (Option Nat) → Int32 → gW → Option (Int32 × gW)) (hk168 : ∀ (v0 : Nat) (v1 : Option Nat) (v2 : Option Nat) (v4 : Int32) (w : gW), k168 v0 v1 v2 v4 w = some res → Wx X w 0 0 168 [(0, .inr (.inr (some v0))), (1, .inr (.inr v1)), (2, .inr (.inr v2)), (4, .inl v4)] []) : ∀ (n : Nat) (v0 : Nat) (v1 : Option Nat) (v2 : Option Nat) (v4 : Int32) (v5 : Int32) (w : gW), mX3_goesWithProducts_l112 F k168 n v0 v1 v2 v4 v5 w = some res → Wx X w 0 0 112 [(0, .inr (.inr (some v0))), (1, .inr (.inr v1)), (2, .inr (.inr v2)), (4, .inl v4), (5, .inl v5)] [] := by
  intro n
  induction n with
  | zero => intro v0 v1 v2 v4 v5 w h; cases (show (none : Option (Int32 × gW)) = some res from h)
  | succ n ih =>
    intro v0 v1 v2 v4 v5 w h
    exact aX3_goesWithProducts_h112 ok hres (F := F) (mX3_goesWithProducts_l112 F k168 n) k168 ih hk168 v0 v1 v2 v4 v5 w h
set_option maxRecDepth 100000 in
set_option maxHeartbeats 4000000 in
theorem aX3_goesWithProducts_h100 {X : gX} (ok : gOk X cX3_goesWithProducts RX3 6 (some .boolean) rmX3_goesWithProducts) {res : Int32 × gW} (hres : gRs X (some (.int res.1)) res.2) {F : Nat} (r : Nat → (Option Nat) → (Option Nat) → Int32 → gW → Option (Int32 × gW)) (hr : ∀ (v0 : Nat) (v1 : Option Nat) (v2 : Option Nat) (v4 : Int32) (w : gW), r v0 v1 v2 v4 w = some res → Wx X w 0 0 100 [(0, .inr (.inr (some v0))), (1, .inr (.inr v1)), (2, .inr (.inr v2)), (4, .inl v4)] []) : ∀ (v0 : Nat) (v1 : Option Nat) (v2 : Option Nat) (v4 : Int32) (w : gW), mX3_goesWithProducts_h100 F r v0 v1 v2 v4 w = some res → Wx X w 0 0 100 [(0, .inr (.inr (some v0))), (1, .inr (.inr v1)), (2, .inr (.inr v2)), (4, .inl v4)] [] := by
  intro v0 v1 v2 v4 w h
  unfold mX3_goesWithProducts_h100 at h
  refine Wx.run ok kX3_goesWithProducts 58 2 (lv' := [(0, .inr (.inr (some v0))), (1, .inr (.inr v1)), (2, .inr (.inr v2)), (4, .inl v4)]) (st' := [.inr (.inr v1), .inl v4]) (pc' := 103) rfl ?_
  refine Wx.getI ok kX3_goesWithProducts 60 rfl lk_RX3_33_0 h (fun t103 h => ?_)
  refine Wx.icmp_ge ok kX3_goesWithProducts 61 (tgt := 174) rfl (by decide) h (fun hc106 h => ?_) (fun hc106 h => ?_)
  · refine Wx.run ok kX3_goesWithProducts 95 1 (lv' := [(0, .inr (.inr (some v0))), (1, .inr (.inr v1)), (2, .inr (.inr v2)), (4, .inl v4)]) (st' := [.inl (1 : Int32)]) (pc' := 175) rfl ?_
    exact Wx.zreturn ok kX3_goesWithProducts 96 rfl gNz1 hres h (by decide)
  · refine Wx.run ok kX3_goesWithProducts 62 2 (lv' := [(5, .inl (0 : Int32)), (0, .inr (.inr (some v0))), (1, .inr (.inr v1)), (2, .inr (.inr v2)), (4, .inl v4)]) (st' := []) (pc' := 112) rfl ?_
    refine Wx.sub [1, 2, 3, 4, 0] rfl ?_
    refine aX3_goesWithProducts_l112 ok hres (F := F) _ ?_ F _ _ _ _ _ _ h
    · intro v0 v1 v2 v4 w h
      refine Wx.run ok kX3_goesWithProducts 93 1 (lv' := [(4, .inl (v4 + (1 : Int32))), (0, .inr (.inr (some v0))), (1, .inr (.inr v1)), (2, .inr (.inr v2))]) (st' := []) (pc' := 171) rfl ?_
      refine Wx.jump ok kX3_goesWithProducts 94 (tgt := 100) rfl (by decide) ?_
      refine Wx.sub [1, 2, 3, 0] rfl ?_
      exact hr _ _ _ _ _ h
set_option maxRecDepth 100000 in
set_option maxHeartbeats 4000000 in
theorem aX3_goesWithProducts_l100 {X : gX} (ok : gOk X cX3_goesWithProducts RX3 6 (some .boolean) rmX3_goesWithProducts) {res : Int32 × gW} (hres : gRs X (some (.int res.1)) res.2) {F : Nat} : ∀ (n : Nat) (v0 : Nat) (v1 : Option Nat) (v2 : Option Nat) (v4 : Int32) (w : gW), mX3_goesWithProducts_l100 F n v0 v1 v2 v4 w = some res → Wx X w 0 0 100 [(0, .inr (.inr (some v0))), (1, .inr (.inr v1)), (2, .inr (.inr v2)), (4, .inl v4)] [] := by
  intro n
  induction n with
  | zero => intro v0 v1 v2 v4 w h; cases (show (none : Option (Int32 × gW)) = some res from h)
  | succ n ih =>
    intro v0 v1 v2 v4 w h
    exact aX3_goesWithProducts_h100 ok hres (F := F) (mX3_goesWithProducts_l100 F n) ih v0 v1 v2 v4 w h
set_option maxRecDepth 100000 in
set_option maxHeartbeats 4000000 in
theorem aX3_goesWithProducts (l : Launch) (G : gG) {F : Nat} {v0 : Nat} {v1 : Option Nat} {v2 : Option Nat} {v3 : Int32} {w : gW} {res : Int32 × gW} (h : mX3_goesWithProducts F v0 v1 v2 v3 w = some res) : gM l yX3_goesWithProducts cX3_goesWithProducts 6 (some .boolean) rmX3_goesWithProducts G w (gTs [.inr (.inr (some v0)), .inr (.inr v1), .inr (.inr v2), .inl v3]) (some (.int res.1)) res.2 := by
  refine gM_of (y := yX3_goesWithProducts) (by decide +kernel) (Nat.le_of_ble_eq_true rfl) ?_
  intro X ok hl hG hres hnm
  subst hl; subst hG
  unfold mX3_goesWithProducts at h
  show Wx X w 0 0 0 [(0, .inr (.inr (some v0))), (1, .inr (.inr v1)), (2, .inr (.inr v2)), (3, .inl v3)] []
  refine Wx.run ok kX3_goesWithProducts 0 1 (lv' := [(0, .inr (.inr (some v0))), (1, .inr (.inr v1)), (2, .inr (.inr v2)), (3, .inl v3)]) (st' := [.inr (.inr (some v0))]) (pc' := 1) rfl ?_
  refine Wx.getR ok kX3_goesWithProducts 1 rfl lk_RX3_21_0 h (fun t1 h => ?_)
  refine Wx.run ok kX3_goesWithProducts 2 2 (lv' := [(0, .inr (.inr (some v0))), (1, .inr (.inr v1)), (2, .inr (.inr v2)), (3, .inl v3)]) (st' := [.inl (0 : Int32), .inl (0 : Int32), .inr (.inr t1)]) (pc' := 6) rfl ?_
  refine Wx.iast ok kX3_goesWithProducts 4 rfl h (fun w6 h => ?_)
  refine Wx.run ok kX3_goesWithProducts 5 1 (lv' := [(0, .inr (.inr (some v0))), (1, .inr (.inr v1)), (2, .inr (.inr v2)), (3, .inl v3)]) (st' := [.inr (.inr (some v0))]) (pc' := 8) rfl ?_
  refine Wx.getR ok kX3_goesWithProducts 6 rfl lk_RX3_24_0 h (fun t8 h => ?_)
  refine Wx.run ok kX3_goesWithProducts 7 2 (lv' := [(0, .inr (.inr (some v0))), (1, .inr (.inr v1)), (2, .inr (.inr v2)), (3, .inl v3)]) (st' := [.inl v3, .inl (0 : Int32), .inr (.inr t8)]) (pc' := 13) rfl ?_
  refine Wx.iast ok kX3_goesWithProducts 9 rfl h (fun w13 h => ?_)
  refine Wx.run ok kX3_goesWithProducts 10 2 (lv' := [(4, .inl (1 : Int32)), (0, .inr (.inr (some v0))), (1, .inr (.inr v1)), (2, .inr (.inr v2)), (3, .inl v3)]) (st' := []) (pc' := 17) rfl ?_
  refine Wx.sub [1, 2, 3, 4, 0] rfl ?_
  refine aX3_goesWithProducts_l17 ok hres (F := F) _ ?_ F _ _ _ _ _ _ h
  · intro v0 v1 v2 w h
    refine Wx.run ok kX3_goesWithProducts 56 2 (lv' := [(4, .inl (0 : Int32)), (0, .inr (.inr (some v0))), (1, .inr (.inr v1)), (2, .inr (.inr v2))]) (st' := []) (pc' := 100) rfl ?_
    refine Wx.sub [1, 2, 3, 0] rfl ?_
    refine aX3_goesWithProducts_l100 ok hres (F := F) F _ _ _ _ _ h
set_option maxRecDepth 100000 in
set_option maxHeartbeats 4000000 in
theorem aX3_layPaths_b125 {X : gX} (ok : gOk X cX3_layPaths RX3 8 none rmX3_layPaths) {res : gW} (hres : gRs X none res) {F : Nat} (r : Nat → (Option Nat) → Int64 → Int32 → Int32 → Int32 → gW → Option (gW)) (k131 : Nat → (Option Nat) → Int64 → Int32 → Int32 → gW → Option (gW)) (hr : ∀ (v0 : Nat) (v1 : Option Nat) (v2 : Int64) (v4 : Int32) (v5 : Int32) (v6 : Int32) (w : gW), r v0 v1 v2 v4 v5 v6 w = some res → Wx X w 0 0 34 [(0, .inr (.inr (some v0))), (1, .inr (.inr v1)), (2, .inr (.inl v2)), (4, .inl v4), (5, .inl v5), (6, .inl v6)] []) (hk131 : ∀ (v0 : Nat) (v1 : Option Nat) (v2 : Int64) (v4 : Int32) (v5 : Int32) (w : gW), k131 v0 v1 v2 v4 v5 w = some res → Wx X w 0 0 131 [(0, .inr (.inr (some v0))), (1, .inr (.inr v1)), (2, .inr (.inl v2)), (4, .inl v4), (5, .inl v5)] []) : ∀ (v0 : Nat) (v1 : Option Nat) (v2 : Int64) (v4 : Int32) (v5 : Int32) (v6 : Int32) (w : gW), mX3_layPaths_b125 F r k131 v0 v1 v2 v4 v5 v6 w = some res → Wx X w 0 0 125 [(0, .inr (.inr (some v0))), (1, .inr (.inr v1)), (2, .inr (.inl v2)), (4, .inl v4), (5, .inl v5), (6, .inl v6)] [] := by
  intro v0 v1 v2 v4 v5 v6 w h
  unfold mX3_layPaths_b125 at h
  refine Wx.run ok kX3_layPaths 72 1 (lv' := [(6, .inl (v6 + (1 : Int32))), (0, .inr (.inr (some v0))), (1, .inr (.inr v1)), (2, .inr (.inl v2)), (4, .inl v4), (5, .inl v5)]) (st' := []) (pc' := 128) rfl ?_
  refine Wx.jump ok kX3_layPaths 73 (tgt := 34) rfl (by decide) ?_
  refine Wx.sub [1, 2, 3, 4, 5, 0] rfl ?_
  exact hr _ _ _ _ _ _ _ h
set_option maxRecDepth 100000 in
set_option maxHeartbeats 4000000 in
theorem aX3_layPaths_h34 {X : gX} (ok : gOk X cX3_layPaths RX3 8 none rmX3_layPaths) {res : gW} (hres : gRs X none res) {F : Nat} (r : Nat → (Option Nat) → Int64 → Int32 → Int32 → Int32 → gW → Option (gW)) (k131 : Nat → (Option Nat) → Int64 → Int32 → Int32 → gW → Option (gW)) (hr : ∀ (v0 : Nat) (v1 : Option Nat) (v2 : Int64) (v4 : Int32) (v5 : Int32) (v6 : Int32) (w : gW), r v0 v1 v2 v4 v5 v6 w = some res → Wx X w 0 0 34 [(0, .inr (.inr (some v0))), (1, .inr (.inr v1)), (2, .inr (.inl v2)), (4, .inl v4), (5, .inl v5), (6, .inl v6)] []) (hk131 : ∀ (v0 : Nat) (v1 : Option Nat) (v2 : Int64) (v4 : Int32) (v5 : Int32) (w : gW), k131 v0 v1 v2 v4 v5 w = some res → Wx X w 0 0 131 [(0, .inr (.inr (some v0))), (1, .inr (.inr v1)), (2, .inr (.inl v2)), (4, .inl v4), (5, .inl v5)] []) : ∀ (v0 : Nat) (v1 : Option Nat) (v2 : Int64) (v4 : Int32) (v5 : Int32) (v6 : Int32) (w : gW), mX3_layPaths_h34 F r k131 v0 v1 v2 v4 v5 v6 w = some res → Wx X w 0 0 34 [(0, .inr (.inr (some v0))), (1, .inr (.inr v1)), (2, .inr (.inl v2)), (4, .inl v4), (5, .inl v5), (6, .inl v6)] [] := by
  intro v0 v1 v2 v4 v5 v6 w h
  unfold mX3_layPaths_h34 at h
  refine Wx.run ok kX3_layPaths 20 2 (lv' := [(0, .inr (.inr (some v0))), (1, .inr (.inr v1)), (2, .inr (.inl v2)), (4, .inl v4), (5, .inl v5), (6, .inl v6)]) (st' := [.inr (.inr (some v0)), .inl v6]) (pc' := 37) rfl ?_
  refine Wx.getI ok kX3_layPaths 22 rfl lk_RX3_47_0 h (fun t37 h => ?_)
  refine Wx.icmp_ge ok kX3_layPaths 23 (tgt := 131) rfl (by decide) h (fun hc40 h => ?_) (fun hc40 h => ?_)
  · refine Wx.sub [0, 1, 2, 3, 4] rfl ?_
    exact hk131 _ _ _ _ _ _ h
  · refine Wx.run ok kX3_layPaths 24 2 (lv' := [(0, .inr (.inr (some v0))), (1, .inr (.inr v1)), (2, .inr (.inl v2)), (4, .inl v4), (5, .inl v5), (6, .inl v6)]) (st' := [.inr (.inr (some v0)), .inr (.inr v1)]) (pc' := 45) rfl ?_
    refine Wx.getR ok kX3_layPaths 26 rfl lk_RX3_9_0 h (fun t45 h => ?_)
    refine Wx.run ok kX3_layPaths 27 1 (lv' := [(0, .inr (.inr (some v0))), (1, .inr (.inr v1)), (2, .inr (.inl v2)), (4, .inl v4), (5, .inl v5), (6, .inl v6)]) (st' := [.inl v5, .inr (.inr t45), .inr (.inr v1)]) (pc' := 50) rfl ?_
    refine Wx.iald ok kX3_layPaths 28 rfl h (fun t50 h => ?_)
    refine Wx.run ok kX3_layPaths 29 1 (lv' := [(0, .inr (.inr (some v0))), (1, .inr (.inr v1)), (2, .inr (.inl v2)), (4, .inl v4), (5, .inl v5), (6, .inl v6)]) (st' := [.inr (.inr v1), .inl t50, .inr (.inr v1)]) (pc' := 52) rfl ?_
    refine Wx.getR ok kX3_layPaths 30 rfl lk_RX3_57_0 h (fun t52 h => ?_)
    refine Wx.run ok kX3_layPaths 31 1 (lv' := [(0, .inr (.inr (some v0))), (1, .inr (.inr v1)), (2, .inr (.inl v2)), (4, .inl v4), (5, .inl v5), (6, .inl v6)]) (st' := [.inl v6, .inr (.inr t52), .inl t50, .inr (.inr v1)]) (pc' := 57) rfl ?_
    refine Wx.iald ok kX3_layPaths 32 rfl h (fun t57 h => ?_)
    obtain ⟨a58, ha58, h⟩ := gob h
    obtain ⟨q58, hq58, h⟩ := gob h
    refine Wx.callV ok kX3_layPaths 33 rfl lm_RX3_77 cd_X2_mul ha58 [.inl t50, .inl t57] (some (.inl q58.1)) (aX2_mul _ _ hq58) (by decide) rfl (Nat.le_of_ble_eq_true rfl) rfl rfl ?_
    refine Wx.run ok kX3_layPaths 34 8 (lv' := [(7, .inl q58.1), (0, .inr (.inr (some v0))), (1, .inr (.inr v1)), (2, .inr (.inl v2)), (4, .inl v4), (5, .inl v5), (6, .inl v6)]) (st' := [.inl (lg_cmp ((v2 >>> ((q58.1).toInt64 &&& 63)) &&& (1 : Int64)) (0 : Int64))]) (pc' := 71) rfl ?_
    refine Wx.if_ne ok kX3_layPaths 42 (tgt := 125) rfl (by decide) h (fun hc71 h => ?_) (fun hc71 h => ?_)
    · refine Wx.run ok kX3_layPaths 43 2 (lv' := [(7, .inl q58.1), (0, .inr (.inr (some v0))), (1, .inr (.inr v1)), (2, .inr (.inl v2)), (4, .inl v4), (5, .inl v5), (6, .inl v6)]) (st' := [.inr (.inr v1), .inl v4]) (pc' := 77) rfl ?_
      refine Wx.getI ok kX3_layPaths 45 rfl lk_RX3_33_0 h (fun t77 h => ?_)
      refine Wx.icmp_ge ok kX3_layPaths 46 (tgt := 125) rfl (by decide) h (fun hc80 h => ?_) (fun hc80 h => ?_)
      · refine Wx.sub [1, 2, 3, 4, 5, 6] rfl ?_
        exact aX3_layPaths_b125 ok hres (F := F) r k131 hr hk131 _ _ _ _ _ _ _ h
      · refine Wx.run ok kX3_layPaths 47 7 (lv' := [(2, .inr (.inl (v2 ||| ((1 : Int64) <<< ((q58.1).toInt64 &&& 63))))), (7, .inl q58.1), (0, .inr (.inr (some v0))), (1, .inr (.inr v1)), (4, .inl v4), (5, .inl v5), (6, .inl v6)]) (st' := [.inr (.inr (some v0))]) (pc' := 91) rfl ?_
        refine Wx.getR ok kX3_layPaths 54 rfl lk_RX3_9_0 h (fun t91 h => ?_)
        refine Wx.run ok kX3_layPaths 55 2 (lv' := [(2, .inr (.inl (v2 ||| ((1 : Int64) <<< ((q58.1).toInt64 &&& 63))))), (7, .inl q58.1), (0, .inr (.inr (some v0))), (1, .inr (.inr v1)), (4, .inl v4), (5, .inl v5), (6, .inl v6)]) (st' := [.inl q58.1, .inl v4, .inr (.inr t91)]) (pc' := 98) rfl ?_
        refine Wx.iast ok kX3_layPaths 57 rfl h (fun w98 h => ?_)
        refine Wx.run ok kX3_layPaths 58 1 (lv' := [(2, .inr (.inl (v2 ||| ((1 : Int64) <<< ((q58.1).toInt64 &&& 63))))), (7, .inl q58.1), (0, .inr (.inr (some v0))), (1, .inr (.inr v1)), (4, .inl v4), (5, .inl v5), (6, .inl v6)]) (st' := [.inr (.inr (some v0))]) (pc' := 100) rfl ?_
        refine Wx.getR ok kX3_layPaths 59 rfl lk_RX3_15_0 h (fun t100 h => ?_)
        refine Wx.run ok kX3_layPaths 60 2 (lv' := [(2, .inr (.inl (v2 ||| ((1 : Int64) <<< ((q58.1).toInt64 &&& 63))))), (7, .inl q58.1), (0, .inr (.inr (some v0))), (1, .inr (.inr v1)), (4, .inl v4), (5, .inl v5), (6, .inl v6)]) (st' := [.inr (.inr (some v0)), .inl v4, .inr (.inr t100)]) (pc' := 106) rfl ?_
        refine Wx.getR ok kX3_layPaths 62 rfl lk_RX3_9_0 h (fun t106 h => ?_)
        refine Wx.run ok kX3_layPaths 63 1 (lv' := [(2, .inr (.inl (v2 ||| ((1 : Int64) <<< ((q58.1).toInt64 &&& 63))))), (7, .inl q58.1), (0, .inr (.inr (some v0))), (1, .inr (.inr v1)), (4, .inl v4), (5, .inl v5), (6, .inl v6)]) (st' := [.inl v5, .inr (.inr t106), .inl v4, .inr (.inr t100)]) (pc' := 111) rfl ?_
        refine Wx.iald ok kX3_layPaths 64 rfl h (fun t111 h => ?_)
        refine Wx.iast ok kX3_layPaths 65 rfl h (fun w112 h => ?_)
        refine Wx.run ok kX3_layPaths 66 1 (lv' := [(2, .inr (.inl (v2 ||| ((1 : Int64) <<< ((q58.1).toInt64 &&& 63))))), (7, .inl q58.1), (0, .inr (.inr (some v0))), (1, .inr (.inr v1)), (4, .inl v4), (5, .inl v5), (6, .inl v6)]) (st' := [.inr (.inr (some v0))]) (pc' := 114) rfl ?_
        refine Wx.getR ok kX3_layPaths 67 rfl lk_RX3_18_0 h (fun t114 h => ?_)
        refine Wx.run ok kX3_layPaths 68 2 (lv' := [(2, .inr (.inl (v2 ||| ((1 : Int64) <<< ((q58.1).toInt64 &&& 63))))), (7, .inl q58.1), (0, .inr (.inr (some v0))), (1, .inr (.inr v1)), (4, .inl v4), (5, .inl v5), (6, .inl v6)]) (st' := [.inl v6, .inl v4, .inr (.inr t114)]) (pc' := 121) rfl ?_
        refine Wx.iast ok kX3_layPaths 70 rfl h (fun w121 h => ?_)
        refine Wx.run ok kX3_layPaths 71 1 (lv' := [(4, .inl (v4 + (1 : Int32))), (2, .inr (.inl (v2 ||| ((1 : Int64) <<< ((q58.1).toInt64 &&& 63))))), (7, .inl q58.1), (0, .inr (.inr (some v0))), (1, .inr (.inr v1)), (5, .inl v5), (6, .inl v6)]) (st' := []) (pc' := 125) rfl ?_
        refine Wx.sub [3, 4, 1, 0, 5, 6] rfl ?_
        exact aX3_layPaths_b125 ok hres (F := F) r k131 hr hk131 _ _ _ _ _ _ _ h
    · refine Wx.sub [1, 2, 3, 4, 5, 6] rfl ?_
      exact aX3_layPaths_b125 ok hres (F := F) r k131 hr hk131 _ _ _ _ _ _ _ h
set_option maxRecDepth 100000 in
set_option maxHeartbeats 4000000 in
theorem aX3_layPaths_l34 {X : gX} (ok : gOk X cX3_layPaths RX3 8 none rmX3_layPaths) {res : gW} (hres : gRs X none res) {F : Nat} (k131 : Nat → (Option Nat) → Int64 → Int32 → Int32 → gW → Option (gW)) (hk131 : ∀ (v0 : Nat) (v1 : Option Nat) (v2 : Int64) (v4 : Int32) (v5 : Int32) (w : gW), k131 v0 v1 v2 v4 v5 w = some res → Wx X w 0 0 131 [(0, .inr (.inr (some v0))), (1, .inr (.inr v1)), (2, .inr (.inl v2)), (4, .inl v4), (5, .inl v5)] []) : ∀ (n : Nat) (v0 : Nat) (v1 : Option Nat) (v2 : Int64) (v4 : Int32) (v5 : Int32) (v6 : Int32) (w : gW), mX3_layPaths_l34 F k131 n v0 v1 v2 v4 v5 v6 w = some res → Wx X w 0 0 34 [(0, .inr (.inr (some v0))), (1, .inr (.inr v1)), (2, .inr (.inl v2)), (4, .inl v4), (5, .inl v5), (6, .inl v6)] [] := by
  intro n
  induction n with
  | zero => intro v0 v1 v2 v4 v5 v6 w h; cases (show (none : Option (gW)) = some res from h)
  | succ n ih =>
    intro v0 v1 v2 v4 v5 v6 w h
    exact aX3_layPaths_h34 ok hres (F := F) (mX3_layPaths_l34 F k131 n) k131 ih hk131 v0 v1 v2 v4 v5 v6 w h
set_option maxRecDepth 100000 in
set_option maxHeartbeats 4000000 in
theorem aX3_layPaths_h15 {X : gX} (ok : gOk X cX3_layPaths RX3 8 none rmX3_layPaths) {res : gW} (hres : gRs X none res) {F : Nat} (r : Nat → (Option Nat) → Int64 → Int32 → Int32 → gW → Option (gW)) (hr : ∀ (v0 : Nat) (v1 : Option Nat) (v2 : Int64) (v4 : Int32) (v5 : Int32) (w : gW), r v0 v1 v2 v4 v5 w = some res → Wx X w 0 0 15 [(0, .inr (.inr (some v0))), (1, .inr (.inr v1)), (2, .inr (.inl v2)), (4, .inl v4), (5, .inl v5)] []) : ∀ (v0 : Nat) (v1 : Option Nat) (v2 : Int64) (v4 : Int32) (v5 : Int32) (w : gW), mX3_layPaths_h15 F r v0 v1 v2 v4 v5 w = some res → Wx X w 0 0 15 [(0, .inr (.inr (some v0))), (1, .inr (.inr v1)), (2, .inr (.inl v2)), (4, .inl v4), (5, .inl v5)] [] := by
  intro v0 v1 v2 v4 v5 w h
  unfold mX3_layPaths_h15 at h
  refine Wx.run ok kX3_layPaths 11 2 (lv' := [(0, .inr (.inr (some v0))), (1, .inr (.inr v1)), (2, .inr (.inl v2)), (4, .inl v4), (5, .inl v5)]) (st' := [.inl v4, .inl v5]) (pc' := 19) rfl ?_
  refine Wx.icmp_ge ok kX3_layPaths 13 (tgt := 137) rfl (by decide) h (fun hc19 h => ?_) (fun hc19 h => ?_)
  · exact Wx.vreturn ok kX3_layPaths 76 rfl hres h (by decide)
  · refine Wx.run ok kX3_layPaths 14 2 (lv' := [(0, .inr (.inr (some v0))), (1, .inr (.inr v1)), (2, .inr (.inl v2)), (4, .inl v4), (5, .inl v5)]) (st' := [.inr (.inr v1), .inl v5]) (pc' := 25) rfl ?_
    refine Wx.getI ok kX3_layPaths 16 rfl lk_RX3_33_0 h (fun t25 h => ?_)
    refine Wx.icmp_ge ok kX3_layPaths 17 (tgt := 137) rfl (by decide) h (fun hc28 h => ?_) (fun hc28 h => ?_)
    · exact Wx.vreturn ok kX3_layPaths 76 rfl hres h (by decide)
    · refine Wx.run ok kX3_layPaths 18 2 (lv' := [(6, .inl (0 : Int32)), (0, .inr (.inr (some v0))), (1, .inr (.inr v1)), (2, .inr (.inl v2)), (4, .inl v4), (5, .inl v5)]) (st' := []) (pc' := 34) rfl ?_
      refine Wx.sub [1, 2, 3, 4, 5, 0] rfl ?_
      refine aX3_layPaths_l34 ok hres (F := F) _ ?_ F _ _ _ _ _ _ _ h
      · intro v0 v1 v2 v4 v5 w h
        refine Wx.run ok kX3_layPaths 74 1 (lv' := [(5, .inl (v5 + (1 : Int32))), (0, .inr (.inr (some v0))), (1, .inr (.inr v1)), (2, .inr (.inl v2)), (4, .inl v4)]) (st' := []) (pc' := 134) rfl ?_
        refine Wx.jump ok kX3_layPaths 75 (tgt := 15) rfl (by decide) ?_
        refine Wx.sub [1, 2, 3, 4, 0] rfl ?_
        exact hr _ _ _ _ _ _ h
set_option maxRecDepth 100000 in
set_option maxHeartbeats 4000000 in
theorem aX3_layPaths_l15 {X : gX} (ok : gOk X cX3_layPaths RX3 8 none rmX3_layPaths) {res : gW} (hres : gRs X none res) {F : Nat} : ∀ (n : Nat) (v0 : Nat) (v1 : Option Nat) (v2 : Int64) (v4 : Int32) (v5 : Int32) (w : gW), mX3_layPaths_l15 F n v0 v1 v2 v4 v5 w = some res → Wx X w 0 0 15 [(0, .inr (.inr (some v0))), (1, .inr (.inr v1)), (2, .inr (.inl v2)), (4, .inl v4), (5, .inl v5)] [] := by
  intro n
  induction n with
  | zero => intro v0 v1 v2 v4 v5 w h; cases (show (none : Option (gW)) = some res from h)
  | succ n ih =>
    intro v0 v1 v2 v4 v5 w h
    exact aX3_layPaths_h15 ok hres (F := F) (mX3_layPaths_l15 F n) ih v0 v1 v2 v4 v5 w h
set_option maxRecDepth 100000 in
set_option maxHeartbeats 4000000 in
theorem aX3_layPaths (l : Launch) (G : gG) {F : Nat} {v0 : Nat} {v1 : Option Nat} {w : gW} {res : gW} (h : mX3_layPaths F v0 v1 w = some res) : gM l yX3_layPaths cX3_layPaths 8 none rmX3_layPaths G w (gTs [.inr (.inr (some v0)), .inr (.inr v1)]) none res := by
  refine gM_of (y := yX3_layPaths) (by decide +kernel) (Nat.le_of_ble_eq_true rfl) ?_
  intro X ok hl hG hres hnm
  subst hl; subst hG
  unfold mX3_layPaths at h
  show Wx X w 0 0 0 [(0, .inr (.inr (some v0))), (1, .inr (.inr v1))] []
  refine Wx.run ok kX3_layPaths 0 5 (lv' := [(4, .inl (1 : Int32)), (2, .inr (.inl (1 : Int64))), (0, .inr (.inr (some v0))), (1, .inr (.inr v1))]) (st' := [.inr (.inr (some v0))]) (pc' := 6) rfl ?_
  refine Wx.getR ok kX3_layPaths 5 rfl lk_RX3_9_0 h (fun t6 h => ?_)
  refine Wx.run ok kX3_layPaths 6 2 (lv' := [(4, .inl (1 : Int32)), (2, .inr (.inl (1 : Int64))), (0, .inr (.inr (some v0))), (1, .inr (.inr v1))]) (st' := [.inl (0 : Int32), .inl (0 : Int32), .inr (.inr t6)]) (pc' := 11) rfl ?_
  refine Wx.iast ok kX3_layPaths 8 rfl h (fun w11 h => ?_)
  refine Wx.run ok kX3_layPaths 9 2 (lv' := [(5, .inl (0 : Int32)), (4, .inl (1 : Int32)), (2, .inr (.inl (1 : Int64))), (0, .inr (.inr (some v0))), (1, .inr (.inr v1))]) (st' := []) (pc' := 15) rfl ?_
  refine Wx.sub [3, 4, 2, 1, 0] rfl ?_
  refine aX3_layPaths_l15 ok hres (F := F) F _ _ _ _ _ _ h
set_option maxRecDepth 100000 in
set_option maxHeartbeats 4000000 in
theorem aX3_likeInPeriods_h10 {X : gX} (ok : gOk X cX3_likeInPeriods RX3 4 (some .boolean) rmX3_likeInPeriods) {res : Int32 × gW} (hres : gRs X (some (.int res.1)) res.2) {F : Nat} (r : Nat → (Option Nat) → (Option Nat) → Int32 → gW → Option (Int32 × gW)) (k54 : Nat → gW → Option (Int32 × gW)) (hr : ∀ (v0 : Nat) (v1 : Option Nat) (v2 : Option Nat) (v3 : Int32) (w : gW), r v0 v1 v2 v3 w = some res → Wx X w 0 0 10 [(0, .inr (.inr (some v0))), (1, .inr (.inr v1)), (2, .inr (.inr v2)), (3, .inl v3)] []) (hk54 : ∀ (v0 : Nat) (w : gW), k54 v0 w = some res → Wx X w 0 0 54 [(0, .inr (.inr (some v0)))] []) : ∀ (v0 : Nat) (v1 : Option Nat) (v2 : Option Nat) (v3 : Int32) (w : gW), mX3_likeInPeriods_h10 F r k54 v0 v1 v2 v3 w = some res → Wx X w 0 0 10 [(0, .inr (.inr (some v0))), (1, .inr (.inr v1)), (2, .inr (.inr v2)), (3, .inl v3)] [] := by
  intro v0 v1 v2 v3 w h
  unfold mX3_likeInPeriods_h10 at h
  refine Wx.run ok kX3_likeInPeriods 6 2 (lv' := [(0, .inr (.inr (some v0))), (1, .inr (.inr v1)), (2, .inr (.inr v2)), (3, .inl v3)]) (st' := [.inr (.inr v1), .inl v3]) (pc' := 12) rfl ?_
  refine Wx.getI ok kX3_likeInPeriods 8 rfl lk_RX3_33_0 h (fun t12 h => ?_)
  refine Wx.icmp_ge ok kX3_likeInPeriods 9 (tgt := 54) rfl (by decide) h (fun hc15 h => ?_) (fun hc15 h => ?_)
  · refine Wx.sub [0] rfl ?_
    exact hk54 _ _ h
  · refine Wx.run ok kX3_likeInPeriods 10 1 (lv' := [(0, .inr (.inr (some v0))), (1, .inr (.inr v1)), (2, .inr (.inr v2)), (3, .inl v3)]) (st' := [.inr (.inr (some v0))]) (pc' := 19) rfl ?_
    refine Wx.getR ok kX3_likeInPeriods 11 rfl lk_RX3_30_0 h (fun t19 h => ?_)
    refine Wx.run ok kX3_likeInPeriods 12 1 (lv' := [(0, .inr (.inr (some v0))), (1, .inr (.inr v1)), (2, .inr (.inr v2)), (3, .inl v3)]) (st' := [.inr (.inr v1), .inr (.inr t19)]) (pc' := 23) rfl ?_
    refine Wx.getR ok kX3_likeInPeriods 13 rfl lk_RX3_54_0 h (fun t23 h => ?_)
    refine Wx.run ok kX3_likeInPeriods 14 1 (lv' := [(0, .inr (.inr (some v0))), (1, .inr (.inr v1)), (2, .inr (.inr v2)), (3, .inl v3)]) (st' := [.inl v3, .inr (.inr t23), .inr (.inr t19)]) (pc' := 27) rfl ?_
    refine Wx.iald ok kX3_likeInPeriods 15 rfl h (fun t27 h => ?_)
    refine Wx.run ok kX3_likeInPeriods 16 1 (lv' := [(0, .inr (.inr (some v0))), (1, .inr (.inr v1)), (2, .inr (.inr v2)), (3, .inl v3)]) (st' := [.inl t27, .inr (.inr t19), .inl t27, .inr (.inr t19)]) (pc' := 29) rfl ?_
    refine Wx.iald ok kX3_likeInPeriods 17 rfl h (fun t29 h => ?_)
    refine Wx.run ok kX3_likeInPeriods 18 2 (lv' := [(0, .inr (.inr (some v0))), (1, .inr (.inr v1)), (2, .inr (.inr v2)), (3, .inl v3)]) (st' := [.inl (t29 + (1 : Int32)), .inl t27, .inr (.inr t19)]) (pc' := 32) rfl ?_
    refine Wx.iast ok kX3_likeInPeriods 20 rfl h (fun w32 h => ?_)
    refine Wx.run ok kX3_likeInPeriods 21 1 (lv' := [(0, .inr (.inr (some v0))), (1, .inr (.inr v1)), (2, .inr (.inr v2)), (3, .inl v3)]) (st' := [.inr (.inr (some v0))]) (pc' := 34) rfl ?_
    refine Wx.getR ok kX3_likeInPeriods 22 rfl lk_RX3_30_0 h (fun t34 h => ?_)
    refine Wx.run ok kX3_likeInPeriods 23 1 (lv' := [(0, .inr (.inr (some v0))), (1, .inr (.inr v1)), (2, .inr (.inr v2)), (3, .inl v3)]) (st' := [.inr (.inr v2), .inr (.inr t34)]) (pc' := 38) rfl ?_
    refine Wx.getR ok kX3_likeInPeriods 24 rfl lk_RX3_54_0 h (fun t38 h => ?_)
    refine Wx.run ok kX3_likeInPeriods 25 1 (lv' := [(0, .inr (.inr (some v0))), (1, .inr (.inr v1)), (2, .inr (.inr v2)), (3, .inl v3)]) (st' := [.inl v3, .inr (.inr t38), .inr (.inr t34)]) (pc' := 42) rfl ?_
    refine Wx.iald ok kX3_likeInPeriods 26 rfl h (fun t42 h => ?_)
    refine Wx.run ok kX3_likeInPeriods 27 1 (lv' := [(0, .inr (.inr (some v0))), (1, .inr (.inr v1)), (2, .inr (.inr v2)), (3, .inl v3)]) (st' := [.inl t42, .inr (.inr t34), .inl t42, .inr (.inr t34)]) (pc' := 44) rfl ?_
    refine Wx.iald ok kX3_likeInPeriods 28 rfl h (fun t44 h => ?_)
    refine Wx.run ok kX3_likeInPeriods 29 2 (lv' := [(0, .inr (.inr (some v0))), (1, .inr (.inr v1)), (2, .inr (.inr v2)), (3, .inl v3)]) (st' := [.inl (t44 - (1 : Int32)), .inl t42, .inr (.inr t34)]) (pc' := 47) rfl ?_
    refine Wx.iast ok kX3_likeInPeriods 31 rfl h (fun w47 h => ?_)
    refine Wx.run ok kX3_likeInPeriods 32 1 (lv' := [(3, .inl (v3 + (1 : Int32))), (0, .inr (.inr (some v0))), (1, .inr (.inr v1)), (2, .inr (.inr v2))]) (st' := []) (pc' := 51) rfl ?_
    refine Wx.jump ok kX3_likeInPeriods 33 (tgt := 10) rfl (by decide) ?_
    refine Wx.sub [1, 2, 3, 0] rfl ?_
    exact hr _ _ _ _ _ h
set_option maxRecDepth 100000 in
set_option maxHeartbeats 4000000 in
theorem aX3_likeInPeriods_l10 {X : gX} (ok : gOk X cX3_likeInPeriods RX3 4 (some .boolean) rmX3_likeInPeriods) {res : Int32 × gW} (hres : gRs X (some (.int res.1)) res.2) {F : Nat} (k54 : Nat → gW → Option (Int32 × gW)) (hk54 : ∀ (v0 : Nat) (w : gW), k54 v0 w = some res → Wx X w 0 0 54 [(0, .inr (.inr (some v0)))] []) : ∀ (n : Nat) (v0 : Nat) (v1 : Option Nat) (v2 : Option Nat) (v3 : Int32) (w : gW), mX3_likeInPeriods_l10 F k54 n v0 v1 v2 v3 w = some res → Wx X w 0 0 10 [(0, .inr (.inr (some v0))), (1, .inr (.inr v1)), (2, .inr (.inr v2)), (3, .inl v3)] [] := by
  intro n
  induction n with
  | zero => intro v0 v1 v2 v3 w h; cases (show (none : Option (Int32 × gW)) = some res from h)
  | succ n ih =>
    intro v0 v1 v2 v3 w h
    exact aX3_likeInPeriods_h10 ok hres (F := F) (mX3_likeInPeriods_l10 F k54 n) k54 ih hk54 v0 v1 v2 v3 w h
set_option maxRecDepth 100000 in
set_option maxHeartbeats 4000000 in
theorem aX3_likeInPeriods_h56 {X : gX} (ok : gOk X cX3_likeInPeriods RX3 4 (some .boolean) rmX3_likeInPeriods) {res : Int32 × gW} (hres : gRs X (some (.int res.1)) res.2) {F : Nat} (r : Nat → Int32 → gW → Option (Int32 × gW)) (hr : ∀ (v0 : Nat) (v3 : Int32) (w : gW), r v0 v3 w = some res → Wx X w 0 0 56 [(0, .inr (.inr (some v0))), (3, .inl v3)] []) : ∀ (v0 : Nat) (v3 : Int32) (w : gW), mX3_likeInPeriods_h56 F r v0 v3 w = some res → Wx X w 0 0 56 [(0, .inr (.inr (some v0))), (3, .inl v3)] [] := by
  intro v0 v3 w h
  unfold mX3_likeInPeriods_h56 at h
  refine Wx.run ok kX3_likeInPeriods 36 2 (lv' := [(0, .inr (.inr (some v0))), (3, .inl v3)]) (st' := [.inr (.inr (some v0)), .inl v3]) (pc' := 58) rfl ?_
  refine Wx.getR ok kX3_likeInPeriods 38 rfl lk_RX3_30_0 h (fun t58 h => ?_)
  refine Wx.alen ok kX3_likeInPeriods 39 rfl h (fun t61 h => ?_)
  refine Wx.icmp_ge ok kX3_likeInPeriods 40 (tgt := 82) rfl (by decide) h (fun hc62 h => ?_) (fun hc62 h => ?_)
  · refine Wx.run ok kX3_likeInPeriods 50 1 (lv' := [(0, .inr (.inr (some v0))), (3, .inl v3)]) (st' := [.inl (1 : Int32)]) (pc' := 83) rfl ?_
    exact Wx.zreturn ok kX3_likeInPeriods 51 rfl gNz1 hres h (by decide)
  · refine Wx.run ok kX3_likeInPeriods 41 1 (lv' := [(0, .inr (.inr (some v0))), (3, .inl v3)]) (st' := [.inr (.inr (some v0))]) (pc' := 66) rfl ?_
    refine Wx.getR ok kX3_likeInPeriods 42 rfl lk_RX3_30_0 h (fun t66 h => ?_)
    refine Wx.run ok kX3_likeInPeriods 43 1 (lv' := [(0, .inr (.inr (some v0))), (3, .inl v3)]) (st' := [.inl v3, .inr (.inr t66)]) (pc' := 70) rfl ?_
    refine Wx.iald ok kX3_likeInPeriods 44 rfl h (fun t70 h => ?_)
    refine Wx.if_eq ok kX3_likeInPeriods 45 (tgt := 76) rfl (by decide) h (fun hc71 h => ?_) (fun hc71 h => ?_)
    · refine Wx.run ok kX3_likeInPeriods 48 1 (lv' := [(3, .inl (v3 + (1 : Int32))), (0, .inr (.inr (some v0)))]) (st' := []) (pc' := 79) rfl ?_
      refine Wx.jump ok kX3_likeInPeriods 49 (tgt := 56) rfl (by decide) ?_
      refine Wx.sub [1, 0] rfl ?_
      exact hr _ _ _ h
    · refine Wx.run ok kX3_likeInPeriods 46 1 (lv' := [(0, .inr (.inr (some v0))), (3, .inl v3)]) (st' := [.inl (0 : Int32)]) (pc' := 75) rfl ?_
      exact Wx.zreturn ok kX3_likeInPeriods 47 rfl gNz0 hres h (by decide)
set_option maxRecDepth 100000 in
set_option maxHeartbeats 4000000 in
theorem aX3_likeInPeriods_l56 {X : gX} (ok : gOk X cX3_likeInPeriods RX3 4 (some .boolean) rmX3_likeInPeriods) {res : Int32 × gW} (hres : gRs X (some (.int res.1)) res.2) {F : Nat} : ∀ (n : Nat) (v0 : Nat) (v3 : Int32) (w : gW), mX3_likeInPeriods_l56 F n v0 v3 w = some res → Wx X w 0 0 56 [(0, .inr (.inr (some v0))), (3, .inl v3)] [] := by
  intro n
  induction n with
  | zero => intro v0 v3 w h; cases (show (none : Option (Int32 × gW)) = some res from h)
  | succ n ih =>
    intro v0 v3 w h
    exact aX3_likeInPeriods_h56 ok hres (F := F) (mX3_likeInPeriods_l56 F n) ih v0 v3 w h
set_option maxRecDepth 100000 in
set_option maxHeartbeats 4000000 in
theorem aX3_likeInPeriods (l : Launch) (G : gG) {F : Nat} {v0 : Nat} {v1 : Option Nat} {v2 : Option Nat} {w : gW} {res : Int32 × gW} (h : mX3_likeInPeriods F v0 v1 v2 w = some res) : gM l yX3_likeInPeriods cX3_likeInPeriods 4 (some .boolean) rmX3_likeInPeriods G w (gTs [.inr (.inr (some v0)), .inr (.inr v1), .inr (.inr v2)]) (some (.int res.1)) res.2 := by
  refine gM_of (y := yX3_likeInPeriods) (by decide +kernel) (Nat.le_of_ble_eq_true rfl) ?_
  intro X ok hl hG hres hnm
  subst hl; subst hG
  unfold mX3_likeInPeriods at h
  show Wx X w 0 0 0 [(0, .inr (.inr (some v0))), (1, .inr (.inr v1)), (2, .inr (.inr v2))] []
  refine Wx.run ok kX3_likeInPeriods 0 1 (lv' := [(0, .inr (.inr (some v0))), (1, .inr (.inr v1)), (2, .inr (.inr v2))]) (st' := [.inr (.inr (some v0))]) (pc' := 1) rfl ?_
  refine Wx.getR ok kX3_likeInPeriods 1 rfl lk_RX3_30_0 h (fun t1 h => ?_)
  refine Wx.run ok kX3_likeInPeriods 2 1 (lv' := [(0, .inr (.inr (some v0))), (1, .inr (.inr v1)), (2, .inr (.inr v2))]) (st' := [.inl (0 : Int32), .inr (.inr t1)]) (pc' := 5) rfl ?_
  obtain ⟨q5, hq5, h⟩ := gob h
  refine Wx.callS ok kX3_likeInPeriods 3 rfl lm_RX3_64 cd_J7_fill_53178 [.inr (.inr t1), .inl (0 : Int32)] none (aJ7_fill_53178 _ _ hq5) (by decide) rfl (Nat.le_of_ble_eq_true rfl) rfl rfl ?_
  refine Wx.run ok kX3_likeInPeriods 4 2 (lv' := [(3, .inl (0 : Int32)), (0, .inr (.inr (some v0))), (1, .inr (.inr v1)), (2, .inr (.inr v2))]) (st' := []) (pc' := 10) rfl ?_
  refine Wx.sub [1, 2, 3, 0] rfl ?_
  refine aX3_likeInPeriods_l10 ok hres (F := F) _ ?_ F _ _ _ _ _ h
  · intro v0 w h
    refine Wx.run ok kX3_likeInPeriods 34 2 (lv' := [(3, .inl (0 : Int32)), (0, .inr (.inr (some v0)))]) (st' := []) (pc' := 56) rfl ?_
    refine Wx.sub [1, 0] rfl ?_
    refine aX3_likeInPeriods_l56 ok hres (F := F) F _ _ _ h
set_option maxRecDepth 100000 in
set_option maxHeartbeats 4000000 in
theorem aX3_stepGiven_h7 {X : gX} (ok : gOk X cX3_stepGiven RX3 6 (some .boolean) rmX3_stepGiven) {res : Int32 × gW} (hres : gRs X (some (.int res.1)) res.2) {F : Nat} (r : Nat → (Option Nat) → (Option Nat) → Int32 → gW → Option (Int32 × gW)) (k46 : Nat → Int32 → Int32 → gW → Option (Int32 × gW)) (hr : ∀ (v0 : Nat) (v1 : Option Nat) (v2 : Option Nat) (v3 : Int32) (w : gW), r v0 v1 v2 v3 w = some res → Wx X w 0 0 7 [(0, .inr (.inr (some v0))), (1, .inr (.inr v1)), (2, .inr (.inr v2)), (3, .inl v3)] []) (hk46 : ∀ (v0 : Nat) (v3 : Int32) (v5 : Int32) (w : gW), k46 v0 v3 v5 w = some res → Wx X w 0 0 46 [(0, .inr (.inr (some v0))), (3, .inl v3), (5, .inl v5)] []) : ∀ (v0 : Nat) (v1 : Option Nat) (v2 : Option Nat) (v3 : Int32) (w : gW), mX3_stepGiven_h7 F r k46 v0 v1 v2 v3 w = some res → Wx X w 0 0 7 [(0, .inr (.inr (some v0))), (1, .inr (.inr v1)), (2, .inr (.inr v2)), (3, .inl v3)] [] := by
  intro v0 v1 v2 v3 w h
  unfold mX3_stepGiven_h7 at h
  refine Wx.run ok kX3_stepGiven 5 1 (lv' := [(0, .inr (.inr (some v0))), (1, .inr (.inr v1)), (2, .inr (.inr v2)), (3, .inl v3)]) (st' := [.inl v3]) (pc' := 8) rfl ?_
  refine Wx.if_lt ok kX3_stepGiven 6 (tgt := 76) rfl (by decide) h (fun hc8 h => ?_) (fun hc8 h => ?_)
  · refine Wx.run ok kX3_stepGiven 46 1 (lv' := [(0, .inr (.inr (some v0))), (1, .inr (.inr v1)), (2, .inr (.inr v2)), (3, .inl v3)]) (st' := [.inl (0 : Int32)]) (pc' := 77) rfl ?_
    exact Wx.zreturn ok kX3_stepGiven 47 rfl gNz0 hres h (by decide)
  · refine Wx.run ok kX3_stepGiven 7 1 (lv' := [(0, .inr (.inr (some v0))), (1, .inr (.inr v1)), (2, .inr (.inr v2)), (3, .inl v3)]) (st' := [.inr (.inr v1)]) (pc' := 12) rfl ?_
    refine Wx.getR ok kX3_stepGiven 8 rfl lk_RX3_54_0 h (fun t12 h => ?_)
    refine Wx.run ok kX3_stepGiven 9 1 (lv' := [(0, .inr (.inr (some v0))), (1, .inr (.inr v1)), (2, .inr (.inr v2)), (3, .inl v3)]) (st' := [.inr (.inr v1), .inr (.inr t12)]) (pc' := 16) rfl ?_
    refine Wx.getR ok kX3_stepGiven 10 rfl lk_RX3_57_0 h (fun t16 h => ?_)
    refine Wx.run ok kX3_stepGiven 11 1 (lv' := [(0, .inr (.inr (some v0))), (1, .inr (.inr v1)), (2, .inr (.inr v2)), (3, .inl v3)]) (st' := [.inl v3, .inr (.inr t16), .inr (.inr t12)]) (pc' := 20) rfl ?_
    refine Wx.iald ok kX3_stepGiven 12 rfl h (fun t20 h => ?_)
    refine Wx.iald ok kX3_stepGiven 13 rfl h (fun t21 h => ?_)
    refine Wx.run ok kX3_stepGiven 14 5 (lv' := [(4, .inl t21), (0, .inr (.inr (some v0))), (1, .inr (.inr v1)), (2, .inr (.inr v2)), (3, .inl v3)]) (st' := [.inr (.inr (some v0)), .inl t21, .inr (.inr v2), .inr (.inr (some v0))]) (pc' := 29) rfl ?_
    refine Wx.getR ok kX3_stepGiven 19 rfl lk_RX3_27_0 h (fun t29 h => ?_)
    refine Wx.run ok kX3_stepGiven 20 1 (lv' := [(4, .inl t21), (0, .inr (.inr (some v0))), (1, .inr (.inr v1)), (2, .inr (.inr v2)), (3, .inl v3)]) (st' := [.inl v3, .inr (.inr t29), .inl t21, .inr (.inr v2), .inr (.inr (some v0))]) (pc' := 33) rfl ?_
    refine Wx.iald ok kX3_stepGiven 21 rfl h (fun t33 h => ?_)
    refine Wx.run ok kX3_stepGiven 22 2 (lv' := [(4, .inl t21), (0, .inr (.inr (some v0))), (1, .inr (.inr v1)), (2, .inr (.inr v2)), (3, .inl v3)]) (st' := [.inl (t33 + (1 : Int32)), .inl t21, .inr (.inr v2), .inr (.inr (some v0))]) (pc' := 36) rfl ?_
    obtain ⟨a36, ha36, h⟩ := gob h
    obtain ⟨q36, hq36, h⟩ := gob h
    refine Wx.callV ok kX3_stepGiven 24 rfl lm_RX3_60 cd_X3_nextOfPeriod ha36 [.inr (.inr v2), .inl t21, .inl (t33 + (1 : Int32))] (some (.inl q36.1)) (aX3_nextOfPeriod _ _ hq36) (by decide) rfl (Nat.le_of_ble_eq_true rfl) rfl rfl ?_
    refine Wx.run ok kX3_stepGiven 25 2 (lv' := [(5, .inl q36.1), (4, .inl t21), (0, .inr (.inr (some v0))), (1, .inr (.inr v1)), (2, .inr (.inr v2)), (3, .inl v3)]) (st' := [.inl q36.1]) (pc' := 43) rfl ?_
    refine Wx.if_lt ok kX3_stepGiven 27 (tgt := 56) rfl (by decide) h (fun hc43 h => ?_) (fun hc43 h => ?_)
    · refine Wx.run ok kX3_stepGiven 35 1 (lv' := [(5, .inl q36.1), (4, .inl t21), (0, .inr (.inr (some v0))), (1, .inr (.inr v1)), (2, .inr (.inr v2)), (3, .inl v3)]) (st' := [.inr (.inr (some v0))]) (pc' := 57) rfl ?_
      refine Wx.getR ok kX3_stepGiven 36 rfl lk_RX3_27_0 h (fun t57 h => ?_)
      refine Wx.run ok kX3_stepGiven 37 5 (lv' := [(5, .inl q36.1), (4, .inl t21), (0, .inr (.inr (some v0))), (1, .inr (.inr v1)), (2, .inr (.inr v2)), (3, .inl v3)]) (st' := [.inl (0 : Int32), .inl t21, .inr (.inr v2), .inr (.inr (some v0)), .inl v3, .inr (.inr t57)]) (pc' := 66) rfl ?_
      obtain ⟨a66, ha66, h⟩ := gob h
      obtain ⟨q66, hq66, h⟩ := gob h
      refine Wx.callV ok kX3_stepGiven 42 rfl lm_RX3_60 cd_X3_nextOfPeriod ha66 [.inr (.inr v2), .inl t21, .inl (0 : Int32)] (some (.inl q66.1)) (aX3_nextOfPeriod _ _ hq66) (by decide) rfl (Nat.le_of_ble_eq_true rfl) rfl rfl ?_
      refine Wx.iast ok kX3_stepGiven 43 rfl h (fun w69 h => ?_)
      refine Wx.run ok kX3_stepGiven 44 1 (lv' := [(3, .inl (v3 + (-1 : Int32))), (5, .inl q36.1), (4, .inl t21), (0, .inr (.inr (some v0))), (1, .inr (.inr v1)), (2, .inr (.inr v2))]) (st' := []) (pc' := 73) rfl ?_
      refine Wx.jump ok kX3_stepGiven 45 (tgt := 7) rfl (by decide) ?_
      refine Wx.sub [3, 4, 5, 0] rfl ?_
      exact hr _ _ _ _ _ h
    · refine Wx.sub [2, 5, 0] rfl ?_
      exact hk46 _ _ _ _ h
set_option maxRecDepth 100000 in
set_option maxHeartbeats 4000000 in
theorem aX3_stepGiven_l7 {X : gX} (ok : gOk X cX3_stepGiven RX3 6 (some .boolean) rmX3_stepGiven) {res : Int32 × gW} (hres : gRs X (some (.int res.1)) res.2) {F : Nat} (k46 : Nat → Int32 → Int32 → gW → Option (Int32 × gW)) (hk46 : ∀ (v0 : Nat) (v3 : Int32) (v5 : Int32) (w : gW), k46 v0 v3 v5 w = some res → Wx X w 0 0 46 [(0, .inr (.inr (some v0))), (3, .inl v3), (5, .inl v5)] []) : ∀ (n : Nat) (v0 : Nat) (v1 : Option Nat) (v2 : Option Nat) (v3 : Int32) (w : gW), mX3_stepGiven_l7 F k46 n v0 v1 v2 v3 w = some res → Wx X w 0 0 7 [(0, .inr (.inr (some v0))), (1, .inr (.inr v1)), (2, .inr (.inr v2)), (3, .inl v3)] [] := by
  intro n
  induction n with
  | zero => intro v0 v1 v2 v3 w h; cases (show (none : Option (Int32 × gW)) = some res from h)
  | succ n ih =>
    intro v0 v1 v2 v3 w h
    exact aX3_stepGiven_h7 ok hres (F := F) (mX3_stepGiven_l7 F k46 n) k46 ih hk46 v0 v1 v2 v3 w h
set_option maxRecDepth 100000 in
set_option maxHeartbeats 4000000 in
theorem aX3_stepGiven (l : Launch) (G : gG) {F : Nat} {v0 : Nat} {v1 : Option Nat} {v2 : Option Nat} {w : gW} {res : Int32 × gW} (h : mX3_stepGiven F v0 v1 v2 w = some res) : gM l yX3_stepGiven cX3_stepGiven 6 (some .boolean) rmX3_stepGiven G w (gTs [.inr (.inr (some v0)), .inr (.inr v1), .inr (.inr v2)]) (some (.int res.1)) res.2 := by
  refine gM_of (y := yX3_stepGiven) (by decide +kernel) (Nat.le_of_ble_eq_true rfl) ?_
  intro X ok hl hG hres hnm
  subst hl; subst hG
  unfold mX3_stepGiven at h
  show Wx X w 0 0 0 [(0, .inr (.inr (some v0))), (1, .inr (.inr v1)), (2, .inr (.inr v2))] []
  refine Wx.run ok kX3_stepGiven 0 1 (lv' := [(0, .inr (.inr (some v0))), (1, .inr (.inr v1)), (2, .inr (.inr v2))]) (st' := [.inr (.inr (some v0))]) (pc' := 1) rfl ?_
  refine Wx.getI ok kX3_stepGiven 1 rfl lk_RX3_47_0 h (fun t1 h => ?_)
  refine Wx.run ok kX3_stepGiven 2 3 (lv' := [(3, .inl (t1 - (1 : Int32))), (0, .inr (.inr (some v0))), (1, .inr (.inr v1)), (2, .inr (.inr v2))]) (st' := []) (pc' := 7) rfl ?_
  refine Wx.sub [1, 2, 3, 0] rfl ?_
  refine aX3_stepGiven_l7 ok hres (F := F) _ ?_ F _ _ _ _ _ h
  · intro v0 v3 v5 w h
    refine Wx.run ok kX3_stepGiven 28 1 (lv' := [(0, .inr (.inr (some v0))), (3, .inl v3), (5, .inl v5)]) (st' := [.inr (.inr (some v0))]) (pc' := 47) rfl ?_
    refine Wx.getR ok kX3_stepGiven 29 rfl lk_RX3_27_0 h (fun t47 h => ?_)
    refine Wx.run ok kX3_stepGiven 30 2 (lv' := [(0, .inr (.inr (some v0))), (3, .inl v3), (5, .inl v5)]) (st' := [.inl v5, .inl v3, .inr (.inr t47)]) (pc' := 53) rfl ?_
    refine Wx.iast ok kX3_stepGiven 32 rfl h (fun w53 h => ?_)
    refine Wx.run ok kX3_stepGiven 33 1 (lv' := [(0, .inr (.inr (some v0))), (3, .inl v3), (5, .inl v5)]) (st' := [.inl (1 : Int32)]) (pc' := 55) rfl ?_
    exact Wx.zreturn ok kX3_stepGiven 34 rfl gNz1 hres h (by decide)
set_option maxRecDepth 100000 in
set_option maxHeartbeats 4000000 in
theorem aX4_renew (l : Launch) (G : gG) {F : Nat} {v0 : Nat} {v1 : Int32} {v2 : Int32} {w : gW} {res : gW} (h : mX4_renew F v0 v1 v2 w = some res) : gM l yX4_renew cX4_renew 3 none rmX4_renew G w (gTs [.inr (.inr (some v0)), .inl v1, .inl v2]) none res := by
  refine gM_of (y := yX4_renew) (by decide +kernel) (Nat.le_of_ble_eq_true rfl) ?_
  intro X ok hl hG hres hnm
  subst hl; subst hG
  unfold mX4_renew at h
  show Wx X w 0 0 0 [(0, .inr (.inr (some v0))), (1, .inl v1), (2, .inl v2)] []
  refine Wx.run ok kX4_renew 0 2 (lv' := [(0, .inr (.inr (some v0))), (1, .inl v1), (2, .inl v2)]) (st' := [.inl v1, .inr (.inr (some v0))]) (pc' := 2) rfl ?_
  refine Wx.put ok kX4_renew 2 rfl lk_RX4_15_1 (gFit_i _) h (fun w2 h => ?_)
  refine Wx.run ok kX4_renew 3 2 (lv' := [(0, .inr (.inr (some v0))), (1, .inl v1), (2, .inl v2)]) (st' := [.inl v2, .inr (.inr (some v0))]) (pc' := 7) rfl ?_
  refine Wx.put ok kX4_renew 5 rfl lk_RX4_19_1 (gFit_i _) h (fun w7 h => ?_)
  refine Wx.run ok kX4_renew 6 1 (lv' := [(0, .inr (.inr (some v0))), (1, .inl v1), (2, .inl v2)]) (st' := [.inr (.inr (some v0))]) (pc' := 11) rfl ?_
  refine Wx.getR ok kX4_renew 7 rfl lk_RX4_9_0 h (fun t11 h => ?_)
  refine Wx.run ok kX4_renew 8 1 (lv' := [(0, .inr (.inr (some v0))), (1, .inl v1), (2, .inl v2)]) (st' := [.inl (0 : Int32), .inr (.inr t11)]) (pc' := 15) rfl ?_
  obtain ⟨q15, hq15, h⟩ := gob h
  refine Wx.callS ok kX4_renew 9 rfl lm_RX4_22 cd_J7_fill_53178 [.inr (.inr t11), .inl (0 : Int32)] none (aJ7_fill_53178 _ _ hq15) (by decide) rfl (Nat.le_of_ble_eq_true rfl) rfl rfl ?_
  exact Wx.vreturn ok kX4_renew 10 rfl hres h (by decide)
set_option maxRecDepth 100000 in
set_option maxHeartbeats 4000000 in
theorem aX5_writeBound_h95 {X : gX} (ok : gOk X cX5_writeBound RX5 8 none rmX5_writeBound) {res : gW} (hres : gRs X none res) {F : Nat} (r : Nat → (Option Nat) → Int32 → Int32 → Int32 → Int32 → Int32 → gW → Option (gW)) (k143 : Nat → (Option Nat) → Int32 → Int32 → Int32 → Int32 → gW → Option (gW)) (hr : ∀ (v0 : Nat) (v1 : Option Nat) (v2 : Int32) (v3 : Int32) (v4 : Int32) (v5 : Int32) (v7 : Int32) (w : gW), r v0 v1 v2 v3 v4 v5 v7 w = some res → Wx X w 0 0 95 [(0, .inr (.inr (some v0))), (1, .inr (.inr v1)), (2, .inl v2), (3, .inl v3), (4, .inl v4), (5, .inl v5), (7, .inl v7)] []) (hk143 : ∀ (v0 : Nat) (v1 : Option Nat) (v2 : Int32) (v3 : Int32) (v4 : Int32) (v5 : Int32) (w : gW), k143 v0 v1 v2 v3 v4 v5 w = some res → Wx X w 0 0 143 [(0, .inr (.inr (some v0))), (1, .inr (.inr v1)), (2, .inl v2), (3, .inl v3), (4, .inl v4), (5, .inl v5)] []) : ∀ (v0 : Nat) (v1 : Option Nat) (v2 : Int32) (v3 : Int32) (v4 : Int32) (v5 : Int32) (v7 : Int32) (w : gW), mX5_writeBound_h95 F r k143 v0 v1 v2 v3 v4 v5 v7 w = some res → Wx X w 0 0 95 [(0, .inr (.inr (some v0))), (1, .inr (.inr v1)), (2, .inl v2), (3, .inl v3), (4, .inl v4), (5, .inl v5), (7, .inl v7)] [] := by
  intro v0 v1 v2 v3 v4 v5 v7 w h
  unfold mX5_writeBound_h95 at h
  refine Wx.run ok kX5_writeBound 52 2 (lv' := [(0, .inr (.inr (some v0))), (1, .inr (.inr v1)), (2, .inl v2), (3, .inl v3), (4, .inl v4), (5, .inl v5), (7, .inl v7)]) (st' := [.inr (.inr v1), .inl v7]) (pc' := 98) rfl ?_
  refine Wx.getI ok kX5_writeBound 54 rfl lk_RX5_40_0 h (fun t98 h => ?_)
  refine Wx.icmp_ge ok kX5_writeBound 55 (tgt := 143) rfl (by decide) h (fun hc101 h => ?_) (fun hc101 h => ?_)
  · refine Wx.sub [0, 1, 2, 3, 4, 5] rfl ?_
    exact hk143 _ _ _ _ _ _ _ h
  · refine Wx.run ok kX5_writeBound 56 2 (lv' := [(0, .inr (.inr (some v0))), (1, .inr (.inr v1)), (2, .inl v2), (3, .inl v3), (4, .inl v4), (5, .inl v5), (7, .inl v7)]) (st' := [.inl v2, .inl v5]) (pc' := 107) rfl ?_
    refine Wx.icmp_ne ok kX5_writeBound 58 (tgt := 143) rfl (by decide) h (fun hc107 h => ?_) (fun hc107 h => ?_)
    · refine Wx.run ok kX5_writeBound 59 1 (lv' := [(0, .inr (.inr (some v0))), (1, .inr (.inr v1)), (2, .inl v2), (3, .inl v3), (4, .inl v4), (5, .inl v5), (7, .inl v7)]) (st' := [.inr (.inr (some v0))]) (pc' := 111) rfl ?_
      refine Wx.getR ok kX5_writeBound 60 rfl lk_RX5_9_0 h (fun t111 h => ?_)
      refine Wx.run ok kX5_writeBound 61 4 (lv' := [(0, .inr (.inr (some v0))), (1, .inr (.inr v1)), (2, .inl v2), (3, .inl v3), (4, .inl v4), (5, .inl v5), (7, .inl v7)]) (st' := [.inl v7, .inl v5, .inl v4, .inr (.inr v1), .inr (.inr t111)]) (pc' := 121) rfl ?_
      obtain ⟨a121, ha121, h⟩ := gob h
      obtain ⟨q121, hq121, h⟩ := gob h
      refine Wx.callV ok kX5_writeBound 65 rfl lm_RX5_83 cd_X0_place ha121 [.inl v4, .inl v5, .inl v7] (some (.inl q121.1)) (aX0_place _ _ hq121) (by decide) rfl (Nat.le_of_ble_eq_true rfl) rfl rfl ?_
      refine Wx.run ok kX5_writeBound 66 1 (lv' := [(0, .inr (.inr (some v0))), (1, .inr (.inr v1)), (2, .inl v2), (3, .inl v3), (4, .inl v4), (5, .inl v5), (7, .inl v7)]) (st' := [.inl q121.1, .inr (.inr t111), .inl q121.1, .inr (.inr t111)]) (pc' := 125) rfl ?_
      refine Wx.iald ok kX5_writeBound 67 rfl h (fun t125 h => ?_)
      refine Wx.run ok kX5_writeBound 68 4 (lv' := [(0, .inr (.inr (some v0))), (1, .inr (.inr v1)), (2, .inl v2), (3, .inl v3), (4, .inl v4), (5, .inl v5), (7, .inl v7)]) (st' := [.inl v3, .inl v7, .inl v4, .inr (.inr v1), .inl t125, .inl q121.1, .inr (.inr t111)]) (pc' := 132) rfl ?_
      obtain ⟨a132, ha132, h⟩ := gob h
      obtain ⟨q132, hq132, h⟩ := gob h
      refine Wx.callV ok kX5_writeBound 72 rfl lm_RX5_61 cd_X0_entry ha132 [.inl v4, .inl v7, .inl v3] (some (.inl q132.1)) (aX0_entry _ _ hq132) (by decide) rfl (Nat.le_of_ble_eq_true rfl) rfl rfl ?_
      refine Wx.run ok kX5_writeBound 73 1 (lv' := [(0, .inr (.inr (some v0))), (1, .inr (.inr v1)), (2, .inl v2), (3, .inl v3), (4, .inl v4), (5, .inl v5), (7, .inl v7)]) (st' := [.inl (t125 + q132.1), .inl q121.1, .inr (.inr t111)]) (pc' := 136) rfl ?_
      refine Wx.iast ok kX5_writeBound 74 rfl h (fun w136 h => ?_)
      refine Wx.run ok kX5_writeBound 75 1 (lv' := [(7, .inl (v7 + (1 : Int32))), (0, .inr (.inr (some v0))), (1, .inr (.inr v1)), (2, .inl v2), (3, .inl v3), (4, .inl v4), (5, .inl v5)]) (st' := []) (pc' := 140) rfl ?_
      refine Wx.jump ok kX5_writeBound 76 (tgt := 95) rfl (by decide) ?_
      refine Wx.sub [1, 2, 3, 4, 5, 6, 0] rfl ?_
      exact hr _ _ _ _ _ _ _ _ h
    · refine Wx.sub [0, 1, 2, 3, 4, 5] rfl ?_
      exact hk143 _ _ _ _ _ _ _ h
set_option maxRecDepth 100000 in
set_option maxHeartbeats 4000000 in
theorem aX5_writeBound_l95 {X : gX} (ok : gOk X cX5_writeBound RX5 8 none rmX5_writeBound) {res : gW} (hres : gRs X none res) {F : Nat} (k143 : Nat → (Option Nat) → Int32 → Int32 → Int32 → Int32 → gW → Option (gW)) (hk143 : ∀ (v0 : Nat) (v1 : Option Nat) (v2 : Int32) (v3 : Int32) (v4 : Int32) (v5 : Int32) (w : gW), k143 v0 v1 v2 v3 v4 v5 w = some res → Wx X w 0 0 143 [(0, .inr (.inr (some v0))), (1, .inr (.inr v1)), (2, .inl v2), (3, .inl v3), (4, .inl v4), (5, .inl v5)] []) : ∀ (n : Nat) (v0 : Nat) (v1 : Option Nat) (v2 : Int32) (v3 : Int32) (v4 : Int32) (v5 : Int32) (v7 : Int32) (w : gW), mX5_writeBound_l95 F k143 n v0 v1 v2 v3 v4 v5 v7 w = some res → Wx X w 0 0 95 [(0, .inr (.inr (some v0))), (1, .inr (.inr v1)), (2, .inl v2), (3, .inl v3), (4, .inl v4), (5, .inl v5), (7, .inl v7)] [] := by
  intro n
  induction n with
  | zero => intro v0 v1 v2 v3 v4 v5 v7 w h; cases (show (none : Option (gW)) = some res from h)
  | succ n ih =>
    intro v0 v1 v2 v3 v4 v5 v7 w h
    exact aX5_writeBound_h95 ok hres (F := F) (mX5_writeBound_l95 F k143 n) k143 ih hk143 v0 v1 v2 v3 v4 v5 v7 w h
set_option maxRecDepth 100000 in
set_option maxHeartbeats 4000000 in
theorem aX5_writeBound_b143 {X : gX} (ok : gOk X cX5_writeBound RX5 8 none rmX5_writeBound) {res : gW} (hres : gRs X none res) {F : Nat} (r : Nat → (Option Nat) → Int32 → Int32 → Int32 → Int32 → gW → Option (gW)) (k149 : Nat → (Option Nat) → Int32 → Int32 → Int32 → gW → Option (gW)) (hr : ∀ (v0 : Nat) (v1 : Option Nat) (v2 : Int32) (v3 : Int32) (v4 : Int32) (v5 : Int32) (w : gW), r v0 v1 v2 v3 v4 v5 w = some res → Wx X w 0 0 26 [(0, .inr (.inr (some v0))), (1, .inr (.inr v1)), (2, .inl v2), (3, .inl v3), (4, .inl v4), (5, .inl v5)] []) (hk149 : ∀ (v0 : Nat) (v1 : Option Nat) (v2 : Int32) (v3 : Int32) (v4 : Int32) (w : gW), k149 v0 v1 v2 v3 v4 w = some res → Wx X w 0 0 149 [(0, .inr (.inr (some v0))), (1, .inr (.inr v1)), (2, .inl v2), (3, .inl v3), (4, .inl v4)] []) : ∀ (v0 : Nat) (v1 : Option Nat) (v2 : Int32) (v3 : Int32) (v4 : Int32) (v5 : Int32) (w : gW), mX5_writeBound_b143 F r k149 v0 v1 v2 v3 v4 v5 w = some res → Wx X w 0 0 143 [(0, .inr (.inr (some v0))), (1, .inr (.inr v1)), (2, .inl v2), (3, .inl v3), (4, .inl v4), (5, .inl v5)] [] := by
  intro v0 v1 v2 v3 v4 v5 w h
  unfold mX5_writeBound_b143 at h
  refine Wx.run ok kX5_writeBound 77 1 (lv' := [(5, .inl (v5 + (1 : Int32))), (0, .inr (.inr (some v0))), (1, .inr (.inr v1)), (2, .inl v2), (3, .inl v3), (4, .inl v4)]) (st' := []) (pc' := 146) rfl ?_
  refine Wx.jump ok kX5_writeBound 78 (tgt := 26) rfl (by decide) ?_
  refine Wx.sub [1, 2, 3, 4, 5, 0] rfl ?_
  exact hr _ _ _ _ _ _ _ h
set_option maxRecDepth 100000 in
set_option maxHeartbeats 4000000 in
theorem aX5_writeBound_b92 {X : gX} (ok : gOk X cX5_writeBound RX5 8 none rmX5_writeBound) {res : gW} (hres : gRs X none res) {F : Nat} (r : Nat → (Option Nat) → Int32 → Int32 → Int32 → Int32 → gW → Option (gW)) (k149 : Nat → (Option Nat) → Int32 → Int32 → Int32 → gW → Option (gW)) (hr : ∀ (v0 : Nat) (v1 : Option Nat) (v2 : Int32) (v3 : Int32) (v4 : Int32) (v5 : Int32) (w : gW), r v0 v1 v2 v3 v4 v5 w = some res → Wx X w 0 0 26 [(0, .inr (.inr (some v0))), (1, .inr (.inr v1)), (2, .inl v2), (3, .inl v3), (4, .inl v4), (5, .inl v5)] []) (hk149 : ∀ (v0 : Nat) (v1 : Option Nat) (v2 : Int32) (v3 : Int32) (v4 : Int32) (w : gW), k149 v0 v1 v2 v3 v4 w = some res → Wx X w 0 0 149 [(0, .inr (.inr (some v0))), (1, .inr (.inr v1)), (2, .inl v2), (3, .inl v3), (4, .inl v4)] []) : ∀ (v0 : Nat) (v1 : Option Nat) (v2 : Int32) (v3 : Int32) (v4 : Int32) (v5 : Int32) (w : gW), mX5_writeBound_b92 F r k149 v0 v1 v2 v3 v4 v5 w = some res → Wx X w 0 0 92 [(0, .inr (.inr (some v0))), (1, .inr (.inr v1)), (2, .inl v2), (3, .inl v3), (4, .inl v4), (5, .inl v5)] [] := by
  intro v0 v1 v2 v3 v4 v5 w h
  unfold mX5_writeBound_b92 at h
  refine Wx.run ok kX5_writeBound 50 2 (lv' := [(7, .inl (0 : Int32)), (0, .inr (.inr (some v0))), (1, .inr (.inr v1)), (2, .inl v2), (3, .inl v3), (4, .inl v4), (5, .inl v5)]) (st' := []) (pc' := 95) rfl ?_
  refine Wx.sub [1, 2, 3, 4, 5, 6, 0] rfl ?_
  refine aX5_writeBound_l95 ok hres (F := F) _ ?_ F _ _ _ _ _ _ _ _ h
  · intro v0 v1 v2 v3 v4 v5 w h
    exact aX5_writeBound_b143 ok hres (F := F) r k149 hr hk149 _ _ _ _ _ _ _ h
set_option maxRecDepth 100000 in
set_option maxHeartbeats 4000000 in
theorem aX5_writeBound_b66 {X : gX} (ok : gOk X cX5_writeBound RX5 8 none rmX5_writeBound) {res : gW} (hres : gRs X none res) {F : Nat} (r : Nat → (Option Nat) → Int32 → Int32 → Int32 → Int32 → gW → Option (gW)) (k149 : Nat → (Option Nat) → Int32 → Int32 → Int32 → gW → Option (gW)) (hr : ∀ (v0 : Nat) (v1 : Option Nat) (v2 : Int32) (v3 : Int32) (v4 : Int32) (v5 : Int32) (w : gW), r v0 v1 v2 v3 v4 v5 w = some res → Wx X w 0 0 26 [(0, .inr (.inr (some v0))), (1, .inr (.inr v1)), (2, .inl v2), (3, .inl v3), (4, .inl v4), (5, .inl v5)] []) (hk149 : ∀ (v0 : Nat) (v1 : Option Nat) (v2 : Int32) (v3 : Int32) (v4 : Int32) (w : gW), k149 v0 v1 v2 v3 v4 w = some res → Wx X w 0 0 149 [(0, .inr (.inr (some v0))), (1, .inr (.inr v1)), (2, .inl v2), (3, .inl v3), (4, .inl v4)] []) : ∀ (v0 : Nat) (v1 : Option Nat) (v2 : Int32) (v3 : Int32) (v4 : Int32) (v5 : Int32) (v6 : Int32) (w : gW), mX5_writeBound_b66 F r k149 v0 v1 v2 v3 v4 v5 v6 w = some res → Wx X w 0 0 66 [(0, .inr (.inr (some v0))), (1, .inr (.inr v1)), (2, .inl v2), (3, .inl v3), (4, .inl v4), (5, .inl v5), (6, .inl v6)] [] := by
  intro v0 v1 v2 v3 v4 v5 v6 w h
  unfold mX5_writeBound_b66 at h
  refine Wx.run ok kX5_writeBound 35 1 (lv' := [(0, .inr (.inr (some v0))), (1, .inr (.inr v1)), (2, .inl v2), (3, .inl v3), (4, .inl v4), (5, .inl v5), (6, .inl v6)]) (st' := [.inr (.inr v1)]) (pc' := 67) rfl ?_
  refine Wx.getR ok kX5_writeBound 36 rfl lk_RX5_52_0 h (fun t67 h => ?_)
  refine Wx.run ok kX5_writeBound 37 2 (lv' := [(0, .inr (.inr (some v0))), (1, .inr (.inr v1)), (2, .inl v2), (3, .inl v3), (4, .inl v4), (5, .inl v5), (6, .inl v6)]) (st' := [.inl v5, .inl v4, .inr (.inr t67)]) (pc' := 74) rfl ?_
  obtain ⟨a74, ha74, h⟩ := gob h
  obtain ⟨q74, hq74, h⟩ := gob h
  refine Wx.callV ok kX5_writeBound 39 rfl lm_RX5_86 cd_X2_mul ha74 [.inl v4, .inl v5] (some (.inl q74.1)) (aX2_mul _ _ hq74) (by decide) rfl (Nat.le_of_ble_eq_true rfl) rfl rfl ?_
  refine Wx.run ok kX5_writeBound 40 1 (lv' := [(0, .inr (.inr (some v0))), (1, .inr (.inr v1)), (2, .inl v2), (3, .inl v3), (4, .inl v4), (5, .inl v5), (6, .inl v6)]) (st' := [.inl v2, .inl q74.1]) (pc' := 78) rfl ?_
  refine Wx.icmp_ne ok kX5_writeBound 41 (tgt := 92) rfl (by decide) h (fun hc78 h => ?_) (fun hc78 h => ?_)
  · refine Wx.run ok kX5_writeBound 42 1 (lv' := [(0, .inr (.inr (some v0))), (1, .inr (.inr v1)), (2, .inl v2), (3, .inl v3), (4, .inl v4), (5, .inl v5), (6, .inl v6)]) (st' := [.inr (.inr (some v0))]) (pc' := 82) rfl ?_
    refine Wx.getR ok kX5_writeBound 43 rfl lk_RX5_9_0 h (fun t82 h => ?_)
    refine Wx.run ok kX5_writeBound 44 2 (lv' := [(0, .inr (.inr (some v0))), (1, .inr (.inr v1)), (2, .inl v2), (3, .inl v3), (4, .inl v4), (5, .inl v5), (6, .inl v6)]) (st' := [.inl v6, .inr (.inr t82), .inl v6, .inr (.inr t82)]) (pc' := 88) rfl ?_
    refine Wx.iald ok kX5_writeBound 46 rfl h (fun t88 h => ?_)
    refine Wx.run ok kX5_writeBound 47 2 (lv' := [(0, .inr (.inr (some v0))), (1, .inr (.inr v1)), (2, .inl v2), (3, .inl v3), (4, .inl v4), (5, .inl v5), (6, .inl v6)]) (st' := [.inl (t88 - (1 : Int32)), .inl v6, .inr (.inr t82)]) (pc' := 91) rfl ?_
    refine Wx.iast ok kX5_writeBound 49 rfl h (fun w91 h => ?_)
    refine Wx.sub [0, 1, 2, 3, 4, 5] rfl ?_
    exact aX5_writeBound_b92 ok hres (F := F) r k149 hr hk149 _ _ _ _ _ _ _ h
  · refine Wx.sub [0, 1, 2, 3, 4, 5] rfl ?_
    exact aX5_writeBound_b92 ok hres (F := F) r k149 hr hk149 _ _ _ _ _ _ _ h
set_option maxRecDepth 100000 in
set_option maxHeartbeats 4000000 in
theorem aX5_writeBound_h26 {X : gX} (ok : gOk X cX5_writeBound RX5 8 none rmX5_writeBound) {res : gW} (hres : gRs X none res) {F : Nat} (r : Nat → (Option Nat) → Int32 → Int32 → Int32 → Int32 → gW → Option (gW)) (k149 : Nat → (Option Nat) → Int32 → Int32 → Int32 → gW → Option (gW)) (hr : ∀ (v0 : Nat) (v1 : Option Nat) (v2 : Int32) (v3 : Int32) (v4 : Int32) (v5 : Int32) (w : gW), r v0 v1 v2 v3 v4 v5 w = some res → Wx X w 0 0 26 [(0, .inr (.inr (some v0))), (1, .inr (.inr v1)), (2, .inl v2), (3, .inl v3), (4, .inl v4), (5, .inl v5)] []) (hk149 : ∀ (v0 : Nat) (v1 : Option Nat) (v2 : Int32) (v3 : Int32) (v4 : Int32) (w : gW), k149 v0 v1 v2 v3 v4 w = some res → Wx X w 0 0 149 [(0, .inr (.inr (some v0))), (1, .inr (.inr v1)), (2, .inl v2), (3, .inl v3), (4, .inl v4)] []) : ∀ (v0 : Nat) (v1 : Option Nat) (v2 : Int32) (v3 : Int32) (v4 : Int32) (v5 : Int32) (w : gW), mX5_writeBound_h26 F r k149 v0 v1 v2 v3 v4 v5 w = some res → Wx X w 0 0 26 [(0, .inr (.inr (some v0))), (1, .inr (.inr v1)), (2, .inl v2), (3, .inl v3), (4, .inl v4), (5, .inl v5)] [] := by
  intro v0 v1 v2 v3 v4 v5 w h
  unfold mX5_writeBound_h26 at h
  refine Wx.run ok kX5_writeBound 13 2 (lv' := [(0, .inr (.inr (some v0))), (1, .inr (.inr v1)), (2, .inl v2), (3, .inl v3), (4, .inl v4), (5, .inl v5)]) (st' := [.inr (.inr v1), .inl v5]) (pc' := 29) rfl ?_
  refine Wx.getR ok kX5_writeBound 15 rfl lk_RX5_52_0 h (fun t29 h => ?_)
  refine Wx.getI ok kX5_writeBound 16 rfl lk_RX5_56_0 h (fun t32 h => ?_)
  refine Wx.icmp_ge ok kX5_writeBound 17 (tgt := 149) rfl (by decide) h (fun hc35 h => ?_) (fun hc35 h => ?_)
  · refine Wx.sub [0, 1, 2, 3, 4] rfl ?_
    exact hk149 _ _ _ _ _ _ h
  · refine Wx.run ok kX5_writeBound 18 4 (lv' := [(0, .inr (.inr (some v0))), (1, .inr (.inr v1)), (2, .inl v2), (3, .inl v3), (4, .inl v4), (5, .inl v5)]) (st' := [.inl v3, .inl v5, .inl v4, .inr (.inr v1)]) (pc' := 44) rfl ?_
    obtain ⟨a44, ha44, h⟩ := gob h
    obtain ⟨q44, hq44, h⟩ := gob h
    refine Wx.callV ok kX5_writeBound 22 rfl lm_RX5_83 cd_X0_place ha44 [.inl v4, .inl v5, .inl v3] (some (.inl q44.1)) (aX0_place _ _ hq44) (by decide) rfl (Nat.le_of_ble_eq_true rfl) rfl rfl ?_
    refine Wx.run ok kX5_writeBound 23 3 (lv' := [(6, .inl q44.1), (0, .inr (.inr (some v0))), (1, .inr (.inr v1)), (2, .inl v2), (3, .inl v3), (4, .inl v4), (5, .inl v5)]) (st' := [.inl v2, .inl v4]) (pc' := 52) rfl ?_
    refine Wx.icmp_ne ok kX5_writeBound 26 (tgt := 66) rfl (by decide) h (fun hc52 h => ?_) (fun hc52 h => ?_)
    · refine Wx.run ok kX5_writeBound 27 1 (lv' := [(6, .inl q44.1), (0, .inr (.inr (some v0))), (1, .inr (.inr v1)), (2, .inl v2), (3, .inl v3), (4, .inl v4), (5, .inl v5)]) (st' := [.inr (.inr (some v0))]) (pc' := 56) rfl ?_
      refine Wx.getR ok kX5_writeBound 28 rfl lk_RX5_9_0 h (fun t56 h => ?_)
      refine Wx.run ok kX5_writeBound 29 2 (lv' := [(6, .inl q44.1), (0, .inr (.inr (some v0))), (1, .inr (.inr v1)), (2, .inl v2), (3, .inl v3), (4, .inl v4), (5, .inl v5)]) (st' := [.inl q44.1, .inr (.inr t56), .inl q44.1, .inr (.inr t56)]) (pc' := 62) rfl ?_
      refine Wx.iald ok kX5_writeBound 31 rfl h (fun t62 h => ?_)
      refine Wx.run ok kX5_writeBound 32 2 (lv' := [(6, .inl q44.1), (0, .inr (.inr (some v0))), (1, .inr (.inr v1)), (2, .inl v2), (3, .inl v3), (4, .inl v4), (5, .inl v5)]) (st' := [.inl (t62 + (1 : Int32)), .inl q44.1, .inr (.inr t56)]) (pc' := 65) rfl ?_
      refine Wx.iast ok kX5_writeBound 34 rfl h (fun w65 h => ?_)
      refine Wx.sub [1, 2, 3, 4, 5, 6, 0] rfl ?_
      exact aX5_writeBound_b66 ok hres (F := F) r k149 hr hk149 _ _ _ _ _ _ _ _ h
    · refine Wx.sub [1, 2, 3, 4, 5, 6, 0] rfl ?_
      exact aX5_writeBound_b66 ok hres (F := F) r k149 hr hk149 _ _ _ _ _ _ _ _ h
set_option maxRecDepth 100000 in
set_option maxHeartbeats 4000000 in
theorem aX5_writeBound_l26 {X : gX} (ok : gOk X cX5_writeBound RX5 8 none rmX5_writeBound) {res : gW} (hres : gRs X none res) {F : Nat} (k149 : Nat → (Option Nat) → Int32 → Int32 → Int32 → gW → Option (gW)) (hk149 : ∀ (v0 : Nat) (v1 : Option Nat) (v2 : Int32) (v3 : Int32) (v4 : Int32) (w : gW), k149 v0 v1 v2 v3 v4 w = some res → Wx X w 0 0 149 [(0, .inr (.inr (some v0))), (1, .inr (.inr v1)), (2, .inl v2), (3, .inl v3), (4, .inl v4)] []) : ∀ (n : Nat) (v0 : Nat) (v1 : Option Nat) (v2 : Int32) (v3 : Int32) (v4 : Int32) (v5 : Int32) (w : gW), mX5_writeBound_l26 F k149 n v0 v1 v2 v3 v4 v5 w = some res → Wx X w 0 0 26 [(0, .inr (.inr (some v0))), (1, .inr (.inr v1)), (2, .inl v2), (3, .inl v3), (4, .inl v4), (5, .inl v5)] [] := by
  intro n
  induction n with
  | zero => intro v0 v1 v2 v3 v4 v5 w h; cases (show (none : Option (gW)) = some res from h)
  | succ n ih =>
    intro v0 v1 v2 v3 v4 v5 w h
    exact aX5_writeBound_h26 ok hres (F := F) (mX5_writeBound_l26 F k149 n) k149 ih hk149 v0 v1 v2 v3 v4 v5 w h
set_option maxRecDepth 100000 in
set_option maxHeartbeats 4000000 in
theorem aX5_writeBound_h11 {X : gX} (ok : gOk X cX5_writeBound RX5 8 none rmX5_writeBound) {res : gW} (hres : gRs X none res) {F : Nat} (r : Nat → (Option Nat) → Int32 → Int32 → Int32 → gW → Option (gW)) (hr : ∀ (v0 : Nat) (v1 : Option Nat) (v2 : Int32) (v3 : Int32) (v4 : Int32) (w : gW), r v0 v1 v2 v3 v4 w = some res → Wx X w 0 0 11 [(0, .inr (.inr (some v0))), (1, .inr (.inr v1)), (2, .inl v2), (3, .inl v3), (4, .inl v4)] []) : ∀ (v0 : Nat) (v1 : Option Nat) (v2 : Int32) (v3 : Int32) (v4 : Int32) (w : gW), mX5_writeBound_h11 F r v0 v1 v2 v3 v4 w = some res → Wx X w 0 0 11 [(0, .inr (.inr (some v0))), (1, .inr (.inr v1)), (2, .inl v2), (3, .inl v3), (4, .inl v4)] [] := by
  intro v0 v1 v2 v3 v4 w h
  unfold mX5_writeBound_h11 at h
  refine Wx.run ok kX5_writeBound 6 2 (lv' := [(0, .inr (.inr (some v0))), (1, .inr (.inr v1)), (2, .inl v2), (3, .inl v3), (4, .inl v4)]) (st' := [.inr (.inr v1), .inl v4]) (pc' := 14) rfl ?_
  refine Wx.getR ok kX5_writeBound 8 rfl lk_RX5_52_0 h (fun t14 h => ?_)
  refine Wx.getI ok kX5_writeBound 9 rfl lk_RX5_56_0 h (fun t17 h => ?_)
  refine Wx.icmp_ge ok kX5_writeBound 10 (tgt := 155) rfl (by decide) h (fun hc20 h => ?_) (fun hc20 h => ?_)
  · exact Wx.vreturn ok kX5_writeBound 81 rfl hres h (by decide)
  · refine Wx.run ok kX5_writeBound 11 2 (lv' := [(5, .inl (1 : Int32)), (0, .inr (.inr (some v0))), (1, .inr (.inr v1)), (2, .inl v2), (3, .inl v3), (4, .inl v4)]) (st' := []) (pc' := 26) rfl ?_
    refine Wx.sub [1, 2, 3, 4, 5, 0] rfl ?_
    refine aX5_writeBound_l26 ok hres (F := F) _ ?_ F _ _ _ _ _ _ _ h
    · intro v0 v1 v2 v3 v4 w h
      refine Wx.run ok kX5_writeBound 79 1 (lv' := [(4, .inl (v4 + (1 : Int32))), (0, .inr (.inr (some v0))), (1, .inr (.inr v1)), (2, .inl v2), (3, .inl v3)]) (st' := []) (pc' := 152) rfl ?_
      refine Wx.jump ok kX5_writeBound 80 (tgt := 11) rfl (by decide) ?_
      refine Wx.sub [1, 2, 3, 4, 0] rfl ?_
      exact hr _ _ _ _ _ _ h
set_option maxRecDepth 100000 in
set_option maxHeartbeats 4000000 in
theorem aX5_writeBound_l11 {X : gX} (ok : gOk X cX5_writeBound RX5 8 none rmX5_writeBound) {res : gW} (hres : gRs X none res) {F : Nat} : ∀ (n : Nat) (v0 : Nat) (v1 : Option Nat) (v2 : Int32) (v3 : Int32) (v4 : Int32) (w : gW), mX5_writeBound_l11 F n v0 v1 v2 v3 v4 w = some res → Wx X w 0 0 11 [(0, .inr (.inr (some v0))), (1, .inr (.inr v1)), (2, .inl v2), (3, .inl v3), (4, .inl v4)] [] := by
  intro n
  induction n with
  | zero => intro v0 v1 v2 v3 v4 w h; cases (show (none : Option (gW)) = some res from h)
  | succ n ih =>
    intro v0 v1 v2 v3 v4 w h
    exact aX5_writeBound_h11 ok hres (F := F) (mX5_writeBound_l11 F n) ih v0 v1 v2 v3 v4 w h
set_option maxRecDepth 100000 in
set_option maxHeartbeats 4000000 in
theorem aX5_writeBound (l : Launch) (G : gG) {F : Nat} {v0 : Nat} {v1 : Option Nat} {v2 : Int32} {v3 : Int32} {w : gW} {res : gW} (h : mX5_writeBound F v0 v1 v2 v3 w = some res) : gM l yX5_writeBound cX5_writeBound 8 none rmX5_writeBound G w (gTs [.inr (.inr (some v0)), .inr (.inr v1), .inl v2, .inl v3]) none res := by
  refine gM_of (y := yX5_writeBound) (by decide +kernel) (Nat.le_of_ble_eq_true rfl) ?_
  intro X ok hl hG hres hnm
  subst hl; subst hG
  unfold mX5_writeBound at h
  show Wx X w 0 0 0 [(0, .inr (.inr (some v0))), (1, .inr (.inr v1)), (2, .inl v2), (3, .inl v3)] []
  refine Wx.run ok kX5_writeBound 0 1 (lv' := [(0, .inr (.inr (some v0))), (1, .inr (.inr v1)), (2, .inl v2), (3, .inl v3)]) (st' := [.inr (.inr (some v0))]) (pc' := 1) rfl ?_
  refine Wx.getR ok kX5_writeBound 1 rfl lk_RX5_9_0 h (fun t1 h => ?_)
  refine Wx.run ok kX5_writeBound 2 1 (lv' := [(0, .inr (.inr (some v0))), (1, .inr (.inr v1)), (2, .inl v2), (3, .inl v3)]) (st' := [.inl (0 : Int32), .inr (.inr t1)]) (pc' := 5) rfl ?_
  obtain ⟨q5, hq5, h⟩ := gob h
  refine Wx.callS ok kX5_writeBound 3 rfl lm_RX5_77 cd_J7_fill_53178 [.inr (.inr t1), .inl (0 : Int32)] none (aJ7_fill_53178 _ _ hq5) (by decide) rfl (Nat.le_of_ble_eq_true rfl) rfl rfl ?_
  refine Wx.run ok kX5_writeBound 4 2 (lv' := [(4, .inl (1 : Int32)), (0, .inr (.inr (some v0))), (1, .inr (.inr v1)), (2, .inl v2), (3, .inl v3)]) (st' := []) (pc' := 11) rfl ?_
  refine Wx.sub [1, 2, 3, 4, 0] rfl ?_
  refine aX5_writeBound_l11 ok hres (F := F) F _ _ _ _ _ _ h
set_option maxRecDepth 100000 in
set_option maxHeartbeats 4000000 in
theorem aX5_writeCocycleRule_h42 {X : gX} (ok : gOk X cX5_writeCocycleRule RX5 10 none rmX5_writeCocycleRule) {res : gW} (hres : gRs X none res) {F : Nat} (r : Nat → (Option Nat) → Int32 → Int32 → Int32 → Int32 → Int32 → Int32 → Int32 → Int32 → gW → Option (gW)) (k86 : Nat → (Option Nat) → Int32 → Int32 → Int32 → Int32 → Int32 → Int32 → Int32 → gW → Option (gW)) (hr : ∀ (v0 : Nat) (v1 : Option Nat) (v2 : Int32) (v3 : Int32) (v4 : Int32) (v5 : Int32) (v6 : Int32) (v7 : Int32) (v8 : Int32) (v9 : Int32) (w : gW), r v0 v1 v2 v3 v4 v5 v6 v7 v8 v9 w = some res → Wx X w 0 0 42 [(0, .inr (.inr (some v0))), (1, .inr (.inr v1)), (2, .inl v2), (3, .inl v3), (4, .inl v4), (5, .inl v5), (6, .inl v6), (7, .inl v7), (8, .inl v8), (9, .inl v9)] []) (hk86 : ∀ (v0 : Nat) (v1 : Option Nat) (v2 : Int32) (v3 : Int32) (v4 : Int32) (v5 : Int32) (v6 : Int32) (v7 : Int32) (v8 : Int32) (w : gW), k86 v0 v1 v2 v3 v4 v5 v6 v7 v8 w = some res → Wx X w 0 0 86 [(0, .inr (.inr (some v0))), (1, .inr (.inr v1)), (2, .inl v2), (3, .inl v3), (4, .inl v4), (5, .inl v5), (6, .inl v6), (7, .inl v7), (8, .inl v8)] []) : ∀ (v0 : Nat) (v1 : Option Nat) (v2 : Int32) (v3 : Int32) (v4 : Int32) (v5 : Int32) (v6 : Int32) (v7 : Int32) (v8 : Int32) (v9 : Int32) (w : gW), mX5_writeCocycleRule_h42 F r k86 v0 v1 v2 v3 v4 v5 v6 v7 v8 v9 w = some res → Wx X w 0 0 42 [(0, .inr (.inr (some v0))), (1, .inr (.inr v1)), (2, .inl v2), (3, .inl v3), (4, .inl v4), (5, .inl v5), (6, .inl v6), (7, .inl v7), (8, .inl v8), (9, .inl v9)] [] := by
  intro v0 v1 v2 v3 v4 v5 v6 v7 v8 v9 w h
  unfold mX5_writeCocycleRule_h42 at h
  refine Wx.run ok kX5_writeCocycleRule 23 2 (lv' := [(0, .inr (.inr (some v0))), (1, .inr (.inr v1)), (2, .inl v2), (3, .inl v3), (4, .inl v4), (5, .inl v5), (6, .inl v6), (7, .inl v7), (8, .inl v8), (9, .inl v9)]) (st' := [.inr (.inr v1), .inl v9]) (pc' := 45) rfl ?_
  refine Wx.getI ok kX5_writeCocycleRule 25 rfl lk_RX5_40_0 h (fun t45 h => ?_)
  refine Wx.icmp_ge ok kX5_writeCocycleRule 26 (tgt := 86) rfl (by decide) h (fun hc48 h => ?_) (fun hc48 h => ?_)
  · refine Wx.sub [0, 1, 2, 3, 4, 5, 6, 7, 8] rfl ?_
    exact hk86 _ _ _ _ _ _ _ _ _ _ h
  · refine Wx.run ok kX5_writeCocycleRule 27 1 (lv' := [(0, .inr (.inr (some v0))), (1, .inr (.inr v1)), (2, .inl v2), (3, .inl v3), (4, .inl v4), (5, .inl v5), (6, .inl v6), (7, .inl v7), (8, .inl v8), (9, .inl v9)]) (st' := [.inr (.inr (some v0))]) (pc' := 52) rfl ?_
    refine Wx.getR ok kX5_writeCocycleRule 28 rfl lk_RX5_9_0 h (fun t52 h => ?_)
    refine Wx.run ok kX5_writeCocycleRule 29 5 (lv' := [(0, .inr (.inr (some v0))), (1, .inr (.inr v1)), (2, .inl v2), (3, .inl v3), (4, .inl v4), (5, .inl v5), (6, .inl v6), (7, .inl v7), (8, .inl v8), (9, .inl v9)]) (st' := [.inl v9, .inl v4, .inl v3, .inr (.inr v1), .inl v6, .inr (.inr t52)]) (pc' := 63) rfl ?_
    obtain ⟨a63, ha63, h⟩ := gob h
    obtain ⟨q63, hq63, h⟩ := gob h
    refine Wx.callV ok kX5_writeCocycleRule 34 rfl lm_RX5_83 cd_X0_place ha63 [.inl v3, .inl v4, .inl v9] (some (.inl q63.1)) (aX0_place _ _ hq63) (by decide) rfl (Nat.le_of_ble_eq_true rfl) rfl rfl ?_
    refine Wx.run ok kX5_writeCocycleRule 35 2 (lv' := [(0, .inr (.inr (some v0))), (1, .inr (.inr v1)), (2, .inl v2), (3, .inl v3), (4, .inl v4), (5, .inl v5), (6, .inl v6), (7, .inl v7), (8, .inl v8), (9, .inl v9)]) (st' := [.inl (v6 - q63.1), .inr (.inr t52), .inl (v6 - q63.1), .inr (.inr t52)]) (pc' := 68) rfl ?_
    refine Wx.iald ok kX5_writeCocycleRule 37 rfl h (fun t68 h => ?_)
    refine Wx.run ok kX5_writeCocycleRule 38 4 (lv' := [(0, .inr (.inr (some v0))), (1, .inr (.inr v1)), (2, .inl v2), (3, .inl v3), (4, .inl v4), (5, .inl v5), (6, .inl v6), (7, .inl v7), (8, .inl v8), (9, .inl v9)]) (st' := [.inl v9, .inl v5, .inl v2, .inr (.inr v1), .inl t68, .inl (v6 - q63.1), .inr (.inr t52)]) (pc' := 75) rfl ?_
    obtain ⟨a75, ha75, h⟩ := gob h
    obtain ⟨q75, hq75, h⟩ := gob h
    refine Wx.callV ok kX5_writeCocycleRule 42 rfl lm_RX5_61 cd_X0_entry ha75 [.inl v2, .inl v5, .inl v9] (some (.inl q75.1)) (aX0_entry _ _ hq75) (by decide) rfl (Nat.le_of_ble_eq_true rfl) rfl rfl ?_
    refine Wx.run ok kX5_writeCocycleRule 43 1 (lv' := [(0, .inr (.inr (some v0))), (1, .inr (.inr v1)), (2, .inl v2), (3, .inl v3), (4, .inl v4), (5, .inl v5), (6, .inl v6), (7, .inl v7), (8, .inl v8), (9, .inl v9)]) (st' := [.inl (t68 + q75.1), .inl (v6 - q63.1), .inr (.inr t52)]) (pc' := 79) rfl ?_
    refine Wx.iast ok kX5_writeCocycleRule 44 rfl h (fun w79 h => ?_)
    refine Wx.run ok kX5_writeCocycleRule 45 1 (lv' := [(9, .inl (v9 + (1 : Int32))), (0, .inr (.inr (some v0))), (1, .inr (.inr v1)), (2, .inl v2), (3, .inl v3), (4, .inl v4), (5, .inl v5), (6, .inl v6), (7, .inl v7), (8, .inl v8)]) (st' := []) (pc' := 83) rfl ?_
    refine Wx.jump ok kX5_writeCocycleRule 46 (tgt := 42) rfl (by decide) ?_
    refine Wx.sub [1, 2, 3, 4, 5, 6, 7, 8, 9, 0] rfl ?_
    exact hr _ _ _ _ _ _ _ _ _ _ _ h
set_option maxRecDepth 100000 in
set_option maxHeartbeats 4000000 in
theorem aX5_writeCocycleRule_l42 {X : gX} (ok : gOk X cX5_writeCocycleRule RX5 10 none rmX5_writeCocycleRule) {res : gW} (hres : gRs X none res) {F : Nat} (k86 : Nat → (Option Nat) → Int32 → Int32 → Int32 → Int32 → Int32 → Int32 → Int32 → gW → Option (gW)) (hk86 : ∀ (v0 : Nat) (v1 : Option Nat) (v2 : Int32) (v3 : Int32) (v4 : Int32) (v5 : Int32) (v6 : Int32) (v7 : Int32) (v8 : Int32) (w : gW), k86 v0 v1 v2 v3 v4 v5 v6 v7 v8 w = some res → Wx X w 0 0 86 [(0, .inr (.inr (some v0))), (1, .inr (.inr v1)), (2, .inl v2), (3, .inl v3), (4, .inl v4), (5, .inl v5), (6, .inl v6), (7, .inl v7), (8, .inl v8)] []) : ∀ (n : Nat) (v0 : Nat) (v1 : Option Nat) (v2 : Int32) (v3 : Int32) (v4 : Int32) (v5 : Int32) (v6 : Int32) (v7 : Int32) (v8 : Int32) (v9 : Int32) (w : gW), mX5_writeCocycleRule_l42 F k86 n v0 v1 v2 v3 v4 v5 v6 v7 v8 v9 w = some res → Wx X w 0 0 42 [(0, .inr (.inr (some v0))), (1, .inr (.inr v1)), (2, .inl v2), (3, .inl v3), (4, .inl v4), (5, .inl v5), (6, .inl v6), (7, .inl v7), (8, .inl v8), (9, .inl v9)] [] := by
  intro n
  induction n with
  | zero => intro v0 v1 v2 v3 v4 v5 v6 v7 v8 v9 w h; cases (show (none : Option (gW)) = some res from h)
  | succ n ih =>
    intro v0 v1 v2 v3 v4 v5 v6 v7 v8 v9 w h
    exact aX5_writeCocycleRule_h42 ok hres (F := F) (mX5_writeCocycleRule_l42 F k86 n) k86 ih hk86 v0 v1 v2 v3 v4 v5 v6 v7 v8 v9 w h
set_option maxRecDepth 100000 in
set_option maxHeartbeats 4000000 in
theorem aX5_writeCocycleRule_b139 {X : gX} (ok : gOk X cX5_writeCocycleRule RX5 10 none rmX5_writeCocycleRule) {res : gW} (hres : gRs X none res) {F : Nat} : ∀ (v0 : Nat) (v1 : Option Nat) (v2 : Int32) (v3 : Int32) (v5 : Int32) (v6 : Int32) (w : gW), mX5_writeCocycleRule_b139 F v0 v1 v2 v3 v5 v6 w = some res → Wx X w 0 0 139 [(0, .inr (.inr (some v0))), (1, .inr (.inr v1)), (2, .inl v2), (3, .inl v3), (5, .inl v5), (6, .inl v6)] [] := by
  intro v0 v1 v2 v3 v5 v6 w h
  unfold mX5_writeCocycleRule_b139 at h
  refine Wx.run ok kX5_writeCocycleRule 79 1 (lv' := [(0, .inr (.inr (some v0))), (1, .inr (.inr v1)), (2, .inl v2), (3, .inl v3), (5, .inl v5), (6, .inl v6)]) (st' := [.inr (.inr (some v0))]) (pc' := 140) rfl ?_
  refine Wx.getR ok kX5_writeCocycleRule 80 rfl lk_RX5_9_0 h (fun t140 h => ?_)
  refine Wx.run ok kX5_writeCocycleRule 81 5 (lv' := [(0, .inr (.inr (some v0))), (1, .inr (.inr v1)), (2, .inl v2), (3, .inl v3), (5, .inl v5), (6, .inl v6)]) (st' := [.inl v5, .inl v3, .inl v2, .inr (.inr v1), .inl v6, .inr (.inr t140)]) (pc' := 150) rfl ?_
  obtain ⟨a150, ha150, h⟩ := gob h
  obtain ⟨q150, hq150, h⟩ := gob h
  refine Wx.callV ok kX5_writeCocycleRule 86 rfl lm_RX5_83 cd_X0_place ha150 [.inl v2, .inl v3, .inl v5] (some (.inl q150.1)) (aX0_place _ _ hq150) (by decide) rfl (Nat.le_of_ble_eq_true rfl) rfl rfl ?_
  refine Wx.run ok kX5_writeCocycleRule 87 2 (lv' := [(0, .inr (.inr (some v0))), (1, .inr (.inr v1)), (2, .inl v2), (3, .inl v3), (5, .inl v5), (6, .inl v6)]) (st' := [.inl (v6 - q150.1), .inr (.inr t140), .inl (v6 - q150.1), .inr (.inr t140)]) (pc' := 155) rfl ?_
  refine Wx.iald ok kX5_writeCocycleRule 89 rfl h (fun t155 h => ?_)
  refine Wx.run ok kX5_writeCocycleRule 90 2 (lv' := [(0, .inr (.inr (some v0))), (1, .inr (.inr v1)), (2, .inl v2), (3, .inl v3), (5, .inl v5), (6, .inl v6)]) (st' := [.inl (t155 - (1 : Int32)), .inl (v6 - q150.1), .inr (.inr t140)]) (pc' := 158) rfl ?_
  refine Wx.iast ok kX5_writeCocycleRule 92 rfl h (fun w158 h => ?_)
  exact Wx.vreturn ok kX5_writeCocycleRule 93 rfl hres h (by decide)
set_option maxRecDepth 100000 in
set_option maxHeartbeats 4000000 in
theorem aX5_writeCocycleRule_b112 {X : gX} (ok : gOk X cX5_writeCocycleRule RX5 10 none rmX5_writeCocycleRule) {res : gW} (hres : gRs X none res) {F : Nat} : ∀ (v0 : Nat) (v1 : Option Nat) (v2 : Int32) (v3 : Int32) (v4 : Int32) (v5 : Int32) (v6 : Int32) (v7 : Int32) (w : gW), mX5_writeCocycleRule_b112 F v0 v1 v2 v3 v4 v5 v6 v7 w = some res → Wx X w 0 0 112 [(0, .inr (.inr (some v0))), (1, .inr (.inr v1)), (2, .inl v2), (3, .inl v3), (4, .inl v4), (5, .inl v5), (6, .inl v6), (7, .inl v7)] [] := by
  intro v0 v1 v2 v3 v4 v5 v6 v7 w h
  unfold mX5_writeCocycleRule_b112 at h
  refine Wx.run ok kX5_writeCocycleRule 63 1 (lv' := [(0, .inr (.inr (some v0))), (1, .inr (.inr v1)), (2, .inl v2), (3, .inl v3), (4, .inl v4), (5, .inl v5), (6, .inl v6), (7, .inl v7)]) (st' := [.inl v7]) (pc' := 114) rfl ?_
  refine Wx.if_eq ok kX5_writeCocycleRule 64 (tgt := 139) rfl (by decide) h (fun hc114 h => ?_) (fun hc114 h => ?_)
  · refine Wx.sub [0, 1, 2, 3, 5, 6] rfl ?_
    exact aX5_writeCocycleRule_b139 ok hres (F := F) _ _ _ _ _ _ _ h
  · refine Wx.run ok kX5_writeCocycleRule 65 1 (lv' := [(0, .inr (.inr (some v0))), (1, .inr (.inr v1)), (2, .inl v2), (3, .inl v3), (4, .inl v4), (5, .inl v5), (6, .inl v6), (7, .inl v7)]) (st' := [.inr (.inr (some v0))]) (pc' := 118) rfl ?_
    refine Wx.getR ok kX5_writeCocycleRule 66 rfl lk_RX5_9_0 h (fun t118 h => ?_)
    refine Wx.run ok kX5_writeCocycleRule 67 5 (lv' := [(0, .inr (.inr (some v0))), (1, .inr (.inr v1)), (2, .inl v2), (3, .inl v3), (4, .inl v4), (5, .inl v5), (6, .inl v6), (7, .inl v7)]) (st' := [.inl v5, .inl v4, .inl v7, .inr (.inr v1), .inl v6, .inr (.inr t118)]) (pc' := 130) rfl ?_
    obtain ⟨a130, ha130, h⟩ := gob h
    obtain ⟨q130, hq130, h⟩ := gob h
    refine Wx.callV ok kX5_writeCocycleRule 72 rfl lm_RX5_83 cd_X0_place ha130 [.inl v7, .inl v4, .inl v5] (some (.inl q130.1)) (aX0_place _ _ hq130) (by decide) rfl (Nat.le_of_ble_eq_true rfl) rfl rfl ?_
    refine Wx.run ok kX5_writeCocycleRule 73 2 (lv' := [(0, .inr (.inr (some v0))), (1, .inr (.inr v1)), (2, .inl v2), (3, .inl v3), (4, .inl v4), (5, .inl v5), (6, .inl v6), (7, .inl v7)]) (st' := [.inl (v6 - q130.1), .inr (.inr t118), .inl (v6 - q130.1), .inr (.inr t118)]) (pc' := 135) rfl ?_
    refine Wx.iald ok kX5_writeCocycleRule 75 rfl h (fun t135 h => ?_)
    refine Wx.run ok kX5_writeCocycleRule 76 2 (lv' := [(0, .inr (.inr (some v0))), (1, .inr (.inr v1)), (2, .inl v2), (3, .inl v3), (4, .inl v4), (5, .inl v5), (6, .inl v6), (7, .inl v7)]) (st' := [.inl (t135 - (1 : Int32)), .inl (v6 - q130.1), .inr (.inr t118)]) (pc' := 138) rfl ?_
    refine Wx.iast ok kX5_writeCocycleRule 78 rfl h (fun w138 h => ?_)
    refine Wx.sub [0, 1, 2, 3, 5, 6] rfl ?_
    exact aX5_writeCocycleRule_b139 ok hres (F := F) _ _ _ _ _ _ _ h
set_option maxRecDepth 100000 in
set_option maxHeartbeats 4000000 in
theorem aX5_writeCocycleRule (l : Launch) (G : gG) {F : Nat} {v0 : Nat} {v1 : Option Nat} {v2 : Int32} {v3 : Int32} {v4 : Int32} {v5 : Int32} {w : gW} {res : gW} (h : mX5_writeCocycleRule F v0 v1 v2 v3 v4 v5 w = some res) : gM l yX5_writeCocycleRule cX5_writeCocycleRule 10 none rmX5_writeCocycleRule G w (gTs [.inr (.inr (some v0)), .inr (.inr v1), .inl v2, .inl v3, .inl v4, .inl v5]) none res := by
  refine gM_of (y := yX5_writeCocycleRule) (by decide +kernel) (Nat.le_of_ble_eq_true rfl) ?_
  intro X ok hl hG hres hnm
  subst hl; subst hG
  unfold mX5_writeCocycleRule at h
  show Wx X w 0 0 0 [(0, .inr (.inr (some v0))), (1, .inr (.inr v1)), (2, .inl v2), (3, .inl v3), (4, .inl v4), (5, .inl v5)] []
  refine Wx.run ok kX5_writeCocycleRule 0 1 (lv' := [(0, .inr (.inr (some v0))), (1, .inr (.inr v1)), (2, .inl v2), (3, .inl v3), (4, .inl v4), (5, .inl v5)]) (st' := [.inr (.inr v1)]) (pc' := 1) rfl ?_
  obtain ⟨a1, ha1, h⟩ := gob h
  obtain ⟨q1, hq1, h⟩ := gob h
  refine Wx.callV ok kX5_writeCocycleRule 1 rfl lm_RX5_69 cd_X0_places ha1 [] (some (.inl q1.1)) (aX0_places _ _ hq1) (by decide) rfl (Nat.le_of_ble_eq_true rfl) rfl rfl ?_
  refine Wx.run ok kX5_writeCocycleRule 2 4 (lv' := [(6, .inl (q1.1 - (1 : Int32))), (0, .inr (.inr (some v0))), (1, .inr (.inr v1)), (2, .inl v2), (3, .inl v3), (4, .inl v4), (5, .inl v5)]) (st' := [.inr (.inr v1)]) (pc' := 9) rfl ?_
  refine Wx.getR ok kX5_writeCocycleRule 6 rfl lk_RX5_52_0 h (fun t9 h => ?_)
  refine Wx.run ok kX5_writeCocycleRule 7 2 (lv' := [(6, .inl (q1.1 - (1 : Int32))), (0, .inr (.inr (some v0))), (1, .inr (.inr v1)), (2, .inl v2), (3, .inl v3), (4, .inl v4), (5, .inl v5)]) (st' := [.inl v3, .inl v2, .inr (.inr t9)]) (pc' := 14) rfl ?_
  obtain ⟨a14, ha14, h⟩ := gob h
  obtain ⟨q14, hq14, h⟩ := gob h
  refine Wx.callV ok kX5_writeCocycleRule 9 rfl lm_RX5_86 cd_X2_mul ha14 [.inl v2, .inl v3] (some (.inl q14.1)) (aX2_mul _ _ hq14) (by decide) rfl (Nat.le_of_ble_eq_true rfl) rfl rfl ?_
  refine Wx.run ok kX5_writeCocycleRule 10 2 (lv' := [(7, .inl q14.1), (6, .inl (q1.1 - (1 : Int32))), (0, .inr (.inr (some v0))), (1, .inr (.inr v1)), (2, .inl v2), (3, .inl v3), (4, .inl v4), (5, .inl v5)]) (st' := [.inr (.inr v1)]) (pc' := 20) rfl ?_
  refine Wx.getR ok kX5_writeCocycleRule 12 rfl lk_RX5_52_0 h (fun t20 h => ?_)
  refine Wx.run ok kX5_writeCocycleRule 13 2 (lv' := [(7, .inl q14.1), (6, .inl (q1.1 - (1 : Int32))), (0, .inr (.inr (some v0))), (1, .inr (.inr v1)), (2, .inl v2), (3, .inl v3), (4, .inl v4), (5, .inl v5)]) (st' := [.inl v4, .inl v3, .inr (.inr t20)]) (pc' := 26) rfl ?_
  obtain ⟨a26, ha26, h⟩ := gob h
  obtain ⟨q26, hq26, h⟩ := gob h
  refine Wx.callV ok kX5_writeCocycleRule 15 rfl lm_RX5_86 cd_X2_mul ha26 [.inl v3, .inl v4] (some (.inl q26.1)) (aX2_mul _ _ hq26) (by decide) rfl (Nat.le_of_ble_eq_true rfl) rfl rfl ?_
  refine Wx.run ok kX5_writeCocycleRule 16 2 (lv' := [(8, .inl q26.1), (7, .inl q14.1), (6, .inl (q1.1 - (1 : Int32))), (0, .inr (.inr (some v0))), (1, .inr (.inr v1)), (2, .inl v2), (3, .inl v3), (4, .inl v4), (5, .inl v5)]) (st' := [.inr (.inr (some v0))]) (pc' := 32) rfl ?_
  refine Wx.getR ok kX5_writeCocycleRule 18 rfl lk_RX5_9_0 h (fun t32 h => ?_)
  refine Wx.run ok kX5_writeCocycleRule 19 1 (lv' := [(8, .inl q26.1), (7, .inl q14.1), (6, .inl (q1.1 - (1 : Int32))), (0, .inr (.inr (some v0))), (1, .inr (.inr v1)), (2, .inl v2), (3, .inl v3), (4, .inl v4), (5, .inl v5)]) (st' := [.inl (0 : Int32), .inr (.inr t32)]) (pc' := 36) rfl ?_
  obtain ⟨q36, hq36, h⟩ := gob h
  refine Wx.callS ok kX5_writeCocycleRule 20 rfl lm_RX5_77 cd_J7_fill_53178 [.inr (.inr t32), .inl (0 : Int32)] none (aJ7_fill_53178 _ _ hq36) (by decide) rfl (Nat.le_of_ble_eq_true rfl) rfl rfl ?_
  refine Wx.run ok kX5_writeCocycleRule 21 2 (lv' := [(9, .inl (0 : Int32)), (8, .inl q26.1), (7, .inl q14.1), (6, .inl (q1.1 - (1 : Int32))), (0, .inr (.inr (some v0))), (1, .inr (.inr v1)), (2, .inl v2), (3, .inl v3), (4, .inl v4), (5, .inl v5)]) (st' := []) (pc' := 42) rfl ?_
  refine Wx.sub [4, 5, 6, 7, 8, 9, 3, 2, 1, 0] rfl ?_
  refine aX5_writeCocycleRule_l42 ok hres (F := F) _ ?_ F _ _ _ _ _ _ _ _ _ _ _ h
  · intro v0 v1 v2 v3 v4 v5 v6 v7 v8 w h
    refine Wx.run ok kX5_writeCocycleRule 47 1 (lv' := [(0, .inr (.inr (some v0))), (1, .inr (.inr v1)), (2, .inl v2), (3, .inl v3), (4, .inl v4), (5, .inl v5), (6, .inl v6), (7, .inl v7), (8, .inl v8)]) (st' := [.inl v8]) (pc' := 88) rfl ?_
    refine Wx.if_eq ok kX5_writeCocycleRule 48 (tgt := 112) rfl (by decide) h (fun hc88 h => ?_) (fun hc88 h => ?_)
    · refine Wx.sub [0, 1, 2, 3, 4, 5, 6, 7] rfl ?_
      exact aX5_writeCocycleRule_b112 ok hres (F := F) _ _ _ _ _ _ _ _ _ h
    · refine Wx.run ok kX5_writeCocycleRule 49 1 (lv' := [(0, .inr (.inr (some v0))), (1, .inr (.inr v1)), (2, .inl v2), (3, .inl v3), (4, .inl v4), (5, .inl v5), (6, .inl v6), (7, .inl v7), (8, .inl v8)]) (st' := [.inr (.inr (some v0))]) (pc' := 92) rfl ?_
      refine Wx.getR ok kX5_writeCocycleRule 50 rfl lk_RX5_9_0 h (fun t92 h => ?_)
      refine Wx.run ok kX5_writeCocycleRule 51 5 (lv' := [(0, .inr (.inr (some v0))), (1, .inr (.inr v1)), (2, .inl v2), (3, .inl v3), (4, .inl v4), (5, .inl v5), (6, .inl v6), (7, .inl v7), (8, .inl v8)]) (st' := [.inl v5, .inl v8, .inl v2, .inr (.inr v1), .inl v6, .inr (.inr t92)]) (pc' := 103) rfl ?_
      obtain ⟨a103, ha103, h⟩ := gob h
      obtain ⟨q103, hq103, h⟩ := gob h
      refine Wx.callV ok kX5_writeCocycleRule 56 rfl lm_RX5_83 cd_X0_place ha103 [.inl v2, .inl v8, .inl v5] (some (.inl q103.1)) (aX0_place _ _ hq103) (by decide) rfl (Nat.le_of_ble_eq_true rfl) rfl rfl ?_
      refine Wx.run ok kX5_writeCocycleRule 57 2 (lv' := [(0, .inr (.inr (some v0))), (1, .inr (.inr v1)), (2, .inl v2), (3, .inl v3), (4, .inl v4), (5, .inl v5), (6, .inl v6), (7, .inl v7), (8, .inl v8)]) (st' := [.inl (v6 - q103.1), .inr (.inr t92), .inl (v6 - q103.1), .inr (.inr t92)]) (pc' := 108) rfl ?_
      refine Wx.iald ok kX5_writeCocycleRule 59 rfl h (fun t108 h => ?_)
      refine Wx.run ok kX5_writeCocycleRule 60 2 (lv' := [(0, .inr (.inr (some v0))), (1, .inr (.inr v1)), (2, .inl v2), (3, .inl v3), (4, .inl v4), (5, .inl v5), (6, .inl v6), (7, .inl v7), (8, .inl v8)]) (st' := [.inl (t108 + (1 : Int32)), .inl (v6 - q103.1), .inr (.inr t92)]) (pc' := 111) rfl ?_
      refine Wx.iast ok kX5_writeCocycleRule 62 rfl h (fun w111 h => ?_)
      refine Wx.sub [0, 1, 2, 3, 4, 5, 6, 7] rfl ?_
      exact aX5_writeCocycleRule_b112 ok hres (F := F) _ _ _ _ _ _ _ _ _ h
set_option maxRecDepth 100000 in
set_option maxHeartbeats 4000000 in
theorem aX6_acts_b93 {X : gX} (ok : gOk X cX6_acts RX6 8 (some .int) rmX6_acts) {res : Int32 × gW} (hres : gRs X (some (.int res.1)) res.2) {F : Nat} : ∀ (v2 : Int32) (v3 : Int32) (v4 : Int32) (v5 : Int32) (v6 : Int32) (v7 : Option Nat) (w : gW), mX6_acts_b93 F v2 v3 v4 v5 v6 v7 w = some res → Wx X w 0 0 93 [(2, .inl v2), (3, .inl v3), (4, .inl v4), (5, .inl v5), (6, .inl v6), (7, .inr (.inr v7))] [] := by
  intro v2 v3 v4 v5 v6 v7 w h
  unfold mX6_acts_b93 at h
  refine Wx.run ok kX6_acts 43 6 (lv' := [(2, .inl v2), (3, .inl v3), (4, .inl v4), (5, .inl v5), (6, .inl v6), (7, .inr (.inr v7))]) (st' := [.inl v6, .inl v5, .inl v4, .inl v3, .inl v2, .inr (.inr v7)]) (pc' := 103) rfl ?_
  obtain ⟨a103, ha103, h⟩ := gob h
  obtain ⟨q103, hq103, h⟩ := gob h
  refine Wx.callV ok kX6_acts 49 rfl lm_RX6_162 cd_X0_put ha103 [.inl v2, .inl v3, .inl v4, .inl v5, .inl v6] none (aX0_put _ _ hq103) (by decide) rfl (Nat.le_of_ble_eq_true rfl) rfl rfl ?_
  refine Wx.run ok kX6_acts 50 1 (lv' := [(2, .inl v2), (3, .inl v3), (4, .inl v4), (5, .inl v5), (6, .inl v6), (7, .inr (.inr v7))]) (st' := [.inl (1 : Int32)]) (pc' := 107) rfl ?_
  exact Wx.ireturn ok kX6_acts 51 rfl hres h (by decide)
set_option maxRecDepth 100000 in
set_option maxHeartbeats 4000000 in
theorem aX6_acts (l : Launch) (G : gG) {F : Nat} {v0 : Nat} {v1 : Int32} {v2 : Int32} {v3 : Int32} {v4 : Int32} {v5 : Int32} {v6 : Int32} {w : gW} {res : Int32 × gW} (h : mX6_acts F v0 v1 v2 v3 v4 v5 v6 w = some res) : gM l yX6_acts cX6_acts 8 (some .int) rmX6_acts G w (gTs [.inr (.inr (some v0)), .inl v1, .inl v2, .inl v3, .inl v4, .inl v5, .inl v6]) (some (.int res.1)) res.2 := by
  refine gM_of (y := yX6_acts) (by decide +kernel) (Nat.le_of_ble_eq_true rfl) ?_
  intro X ok hl hG hres hnm
  subst hl; subst hG
  unfold mX6_acts at h
  show Wx X w 0 0 0 [(0, .inr (.inr (some v0))), (1, .inl v1), (2, .inl v2), (3, .inl v3), (4, .inl v4), (5, .inl v5), (6, .inl v6)] []
  refine Wx.run ok kX6_acts 0 2 (lv' := [(0, .inr (.inr (some v0))), (1, .inl v1), (2, .inl v2), (3, .inl v3), (4, .inl v4), (5, .inl v5), (6, .inl v6)]) (st' := [.inl v1, .inr (.inr (some v0))]) (pc' := 2) rfl ?_
  obtain ⟨a2, ha2, h⟩ := gob h
  obtain ⟨q2, hq2, h⟩ := gob h
  refine Wx.callV ok kX6_acts 2 rfl lm_RX6_152 cd_X6_actionAt ha2 [.inl v1] (some (.inr (.inr q2.1))) (aX6_actionAt _ _ hq2) (by decide) rfl (Nat.le_of_ble_eq_true rfl) rfl rfl ?_
  refine Wx.run ok kX6_acts 3 2 (lv' := [(7, .inr (.inr q2.1)), (0, .inr (.inr (some v0))), (1, .inl v1), (2, .inl v2), (3, .inl v3), (4, .inl v4), (5, .inl v5), (6, .inl v6)]) (st' := [.inr (.inr q2.1)]) (pc' := 9) rfl ?_
  refine Wx.ifnull ok kX6_acts 5 (tgt := 24) rfl (by decide) h (fun hc9 h => ?_) (fun hc9 h => ?_)
  · refine Wx.run ok kX6_acts 11 1 (lv' := [(7, .inr (.inr q2.1)), (0, .inr (.inr (some v0))), (1, .inl v1), (2, .inl v2), (3, .inl v3), (4, .inl v4), (5, .inl v5), (6, .inl v6)]) (st' := [.inl (-1 : Int32)]) (pc' := 25) rfl ?_
    exact Wx.ireturn ok kX6_acts 12 rfl hres h (by decide)
  · refine Wx.run ok kX6_acts 6 1 (lv' := [(7, .inr (.inr q2.1)), (0, .inr (.inr (some v0))), (1, .inl v1), (2, .inl v2), (3, .inl v3), (4, .inl v4), (5, .inl v5), (6, .inl v6)]) (st' := [.inr (.inr q2.1)]) (pc' := 14) rfl ?_
    refine Wx.getR ok kX6_acts 7 rfl lk_RX6_93_0 h (fun t14 h => ?_)
    refine Wx.run ok kX6_acts 8 1 (lv' := [(7, .inr (.inr q2.1)), (0, .inr (.inr (some v0))), (1, .inl v1), (2, .inl v2), (3, .inl v3), (4, .inl v4), (5, .inl v5), (6, .inl v6)]) (st' := [.inl v2, .inr (.inr t14)]) (pc' := 18) rfl ?_
    obtain ⟨a18, ha18, h⟩ := gob h
    obtain ⟨q18, hq18, h⟩ := gob h
    refine Wx.callV ok kX6_acts 9 rfl lm_RX6_97 cd_X2_has ha18 [.inl v2] (some (.inl q18.1)) (aX2_has _ _ hq18) (by decide) rfl (Nat.le_of_ble_eq_true rfl) rfl rfl ?_
    refine Wx.if_ne ok kX6_acts 10 (tgt := 26) rfl (by decide) h (fun hc21 h => ?_) (fun hc21 h => ?_)
    · refine Wx.run ok kX6_acts 11 1 (lv' := [(7, .inr (.inr q2.1)), (0, .inr (.inr (some v0))), (1, .inl v1), (2, .inl v2), (3, .inl v3), (4, .inl v4), (5, .inl v5), (6, .inl v6)]) (st' := [.inl (-1 : Int32)]) (pc' := 25) rfl ?_
      exact Wx.ireturn ok kX6_acts 12 rfl hres h (by decide)
    · refine Wx.run ok kX6_acts 13 2 (lv' := [(7, .inr (.inr q2.1)), (0, .inr (.inr (some v0))), (1, .inl v1), (2, .inl v2), (3, .inl v3), (4, .inl v4), (5, .inl v5), (6, .inl v6)]) (st' := [.inl v3, .inr (.inr q2.1)]) (pc' := 29) rfl ?_
      obtain ⟨a29, ha29, h⟩ := gob h
      obtain ⟨q29, hq29, h⟩ := gob h
      refine Wx.callV ok kX6_acts 15 rfl lm_RX6_156 cd_X0_isNumber ha29 [.inl v3] (some (.inl q29.1)) (aX0_isNumber _ _ hq29) (by decide) rfl (Nat.le_of_ble_eq_true rfl) rfl rfl ?_
      refine Wx.if_eq ok kX6_acts 16 (tgt := 65) rfl (by decide) h (fun hc32 h => ?_) (fun hc32 h => ?_)
      · refine Wx.run ok kX6_acts 29 1 (lv' := [(7, .inr (.inr q2.1)), (0, .inr (.inr (some v0))), (1, .inl v1), (2, .inl v2), (3, .inl v3), (4, .inl v4), (5, .inl v5), (6, .inl v6)]) (st' := [.inl (-1 : Int32)]) (pc' := 66) rfl ?_
        exact Wx.ireturn ok kX6_acts 30 rfl hres h (by decide)
      · refine Wx.run ok kX6_acts 17 2 (lv' := [(7, .inr (.inr q2.1)), (0, .inr (.inr (some v0))), (1, .inl v1), (2, .inl v2), (3, .inl v3), (4, .inl v4), (5, .inl v5), (6, .inl v6)]) (st' := [.inl v4, .inr (.inr q2.1)]) (pc' := 39) rfl ?_
        obtain ⟨a39, ha39, h⟩ := gob h
        obtain ⟨q39, hq39, h⟩ := gob h
        refine Wx.callV ok kX6_acts 19 rfl lm_RX6_156 cd_X0_isNumber ha39 [.inl v4] (some (.inl q39.1)) (aX0_isNumber _ _ hq39) (by decide) rfl (Nat.le_of_ble_eq_true rfl) rfl rfl ?_
        refine Wx.if_eq ok kX6_acts 20 (tgt := 65) rfl (by decide) h (fun hc42 h => ?_) (fun hc42 h => ?_)
        · refine Wx.run ok kX6_acts 29 1 (lv' := [(7, .inr (.inr q2.1)), (0, .inr (.inr (some v0))), (1, .inl v1), (2, .inl v2), (3, .inl v3), (4, .inl v4), (5, .inl v5), (6, .inl v6)]) (st' := [.inl (-1 : Int32)]) (pc' := 66) rfl ?_
          exact Wx.ireturn ok kX6_acts 30 rfl hres h (by decide)
        · refine Wx.run ok kX6_acts 21 2 (lv' := [(7, .inr (.inr q2.1)), (0, .inr (.inr (some v0))), (1, .inl v1), (2, .inl v2), (3, .inl v3), (4, .inl v4), (5, .inl v5), (6, .inl v6)]) (st' := [.inl v5, .inr (.inr q2.1)]) (pc' := 49) rfl ?_
          obtain ⟨a49, ha49, h⟩ := gob h
          obtain ⟨q49, hq49, h⟩ := gob h
          refine Wx.callV ok kX6_acts 23 rfl lm_RX6_156 cd_X0_isNumber ha49 [.inl v5] (some (.inl q49.1)) (aX0_isNumber _ _ hq49) (by decide) rfl (Nat.le_of_ble_eq_true rfl) rfl rfl ?_
          refine Wx.if_eq ok kX6_acts 24 (tgt := 65) rfl (by decide) h (fun hc52 h => ?_) (fun hc52 h => ?_)
          · refine Wx.run ok kX6_acts 29 1 (lv' := [(7, .inr (.inr q2.1)), (0, .inr (.inr (some v0))), (1, .inl v1), (2, .inl v2), (3, .inl v3), (4, .inl v4), (5, .inl v5), (6, .inl v6)]) (st' := [.inl (-1 : Int32)]) (pc' := 66) rfl ?_
            exact Wx.ireturn ok kX6_acts 30 rfl hres h (by decide)
          · refine Wx.run ok kX6_acts 25 2 (lv' := [(7, .inr (.inr q2.1)), (0, .inr (.inr (some v0))), (1, .inl v1), (2, .inl v2), (3, .inl v3), (4, .inl v4), (5, .inl v5), (6, .inl v6)]) (st' := [.inl v6, .inr (.inr q2.1)]) (pc' := 59) rfl ?_
            obtain ⟨a59, ha59, h⟩ := gob h
            obtain ⟨q59, hq59, h⟩ := gob h
            refine Wx.callV ok kX6_acts 27 rfl lm_RX6_156 cd_X0_isNumber ha59 [.inl v6] (some (.inl q59.1)) (aX0_isNumber _ _ hq59) (by decide) rfl (Nat.le_of_ble_eq_true rfl) rfl rfl ?_
            refine Wx.if_ne ok kX6_acts 28 (tgt := 67) rfl (by decide) h (fun hc62 h => ?_) (fun hc62 h => ?_)
            · refine Wx.run ok kX6_acts 29 1 (lv' := [(7, .inr (.inr q2.1)), (0, .inr (.inr (some v0))), (1, .inl v1), (2, .inl v2), (3, .inl v3), (4, .inl v4), (5, .inl v5), (6, .inl v6)]) (st' := [.inl (-1 : Int32)]) (pc' := 66) rfl ?_
              exact Wx.ireturn ok kX6_acts 30 rfl hres h (by decide)
            · refine Wx.run ok kX6_acts 31 1 (lv' := [(7, .inr (.inr q2.1)), (0, .inr (.inr (some v0))), (1, .inl v1), (2, .inl v2), (3, .inl v3), (4, .inl v4), (5, .inl v5), (6, .inl v6)]) (st' := [.inr (.inr q2.1)]) (pc' := 69) rfl ?_
              refine Wx.getI ok kX6_acts 32 rfl lk_RX6_159_0 h (fun t69 h => ?_)
              refine Wx.run ok kX6_acts 33 1 (lv' := [(7, .inr (.inr q2.1)), (0, .inr (.inr (some v0))), (1, .inl v1), (2, .inl v2), (3, .inl v3), (4, .inl v4), (5, .inl v5), (6, .inl v6)]) (st' := [.inl (1 : Int32), .inl t69]) (pc' := 73) rfl ?_
              refine Wx.icmp_ne ok kX6_acts 34 (tgt := 93) rfl (by decide) h (fun hc73 h => ?_) (fun hc73 h => ?_)
              · refine Wx.run ok kX6_acts 35 1 (lv' := [(7, .inr (.inr q2.1)), (0, .inr (.inr (some v0))), (1, .inl v1), (2, .inl v2), (3, .inl v3), (4, .inl v4), (5, .inl v5), (6, .inl v6)]) (st' := [.inl v4]) (pc' := 78) rfl ?_
                refine Wx.if_ne ok kX6_acts 36 (tgt := 91) rfl (by decide) h (fun hc78 h => ?_) (fun hc78 h => ?_)
                · refine Wx.run ok kX6_acts 37 1 (lv' := [(7, .inr (.inr q2.1)), (0, .inr (.inr (some v0))), (1, .inl v1), (2, .inl v2), (3, .inl v3), (4, .inl v4), (5, .inl v5), (6, .inl v6)]) (st' := [.inl v5]) (pc' := 83) rfl ?_
                  refine Wx.if_ne ok kX6_acts 38 (tgt := 91) rfl (by decide) h (fun hc83 h => ?_) (fun hc83 h => ?_)
                  · refine Wx.run ok kX6_acts 39 1 (lv' := [(7, .inr (.inr q2.1)), (0, .inr (.inr (some v0))), (1, .inl v1), (2, .inl v2), (3, .inl v3), (4, .inl v4), (5, .inl v5), (6, .inl v6)]) (st' := [.inl v6]) (pc' := 88) rfl ?_
                    refine Wx.if_eq ok kX6_acts 40 (tgt := 93) rfl (by decide) h (fun hc88 h => ?_) (fun hc88 h => ?_)
                    · refine Wx.sub [3, 4, 5, 6, 7, 0] rfl ?_
                      exact aX6_acts_b93 ok hres (F := F) _ _ _ _ _ _ _ h
                    · refine Wx.run ok kX6_acts 41 1 (lv' := [(7, .inr (.inr q2.1)), (0, .inr (.inr (some v0))), (1, .inl v1), (2, .inl v2), (3, .inl v3), (4, .inl v4), (5, .inl v5), (6, .inl v6)]) (st' := [.inl (-1 : Int32)]) (pc' := 92) rfl ?_
                      exact Wx.ireturn ok kX6_acts 42 rfl hres h (by decide)
                  · refine Wx.run ok kX6_acts 41 1 (lv' := [(7, .inr (.inr q2.1)), (0, .inr (.inr (some v0))), (1, .inl v1), (2, .inl v2), (3, .inl v3), (4, .inl v4), (5, .inl v5), (6, .inl v6)]) (st' := [.inl (-1 : Int32)]) (pc' := 92) rfl ?_
                    exact Wx.ireturn ok kX6_acts 42 rfl hres h (by decide)
                · refine Wx.run ok kX6_acts 41 1 (lv' := [(7, .inr (.inr q2.1)), (0, .inr (.inr (some v0))), (1, .inl v1), (2, .inl v2), (3, .inl v3), (4, .inl v4), (5, .inl v5), (6, .inl v6)]) (st' := [.inl (-1 : Int32)]) (pc' := 92) rfl ?_
                  exact Wx.ireturn ok kX6_acts 42 rfl hres h (by decide)
              · refine Wx.sub [3, 4, 5, 6, 7, 0] rfl ?_
                exact aX6_acts_b93 ok hres (F := F) _ _ _ _ _ _ _ h
set_option maxRecDepth 100000 in
set_option maxHeartbeats 4000000 in
theorem aX6_init_h32 {X : gX} (ok : gOk X cX6_init RX6 2 none rmX6_init) (hnm : X.1.2.2.2.2.2.2.2.2.1.name = "<init>") {res : gW} (hres : gRs X none res) {F : Nat} {cl sl : Nat} (hb : cl + 2 ≤ 13 ∧ sl + 147 ≤ 753) (r : Nat → Int32 → gW → Option (gW)) (hr : ∀ (v0 : Nat) (v1 : Int32) (w : gW), r v0 v1 w = some res → Wx X w (cl + 2) (sl + 147) 32 [(0, .inr (.inr (some v0))), (1, .inl v1)] []) : ∀ (v0 : Nat) (v1 : Int32) (w : gW), mX6_init_h32 F r v0 v1 w = some res → Wx X w cl sl 32 [(0, .inr (.inr (some v0))), (1, .inl v1)] [] := by
  intro v0 v1 w h
  unfold mX6_init_h32 at h
  refine Wx.run ok kX6_init 16 2 (lv' := [(0, .inr (.inr (some v0))), (1, .inl v1)]) (st' := [.inl (4 : Int32), .inl v1]) (pc' := 34) rfl ?_
  refine Wx.icmp_ge ok kX6_init 18 (tgt := 56) rfl (by decide) h (fun hc34 h => ?_) (fun hc34 h => ?_)
  · exact Wx.vreturn ok kX6_init 28 rfl hres h (by have hb1 := hb.1; have hb2 := hb.2; constructor <;> simp only [rmX6_init] <;> omega)
  · refine Wx.run ok kX6_init 19 1 (lv' := [(0, .inr (.inr (some v0))), (1, .inl v1)]) (st' := [.inr (.inr (some v0))]) (pc' := 38) rfl ?_
    refine Wx.getR ok kX6_init 20 rfl lk_RX6_23_0 h (fun t38 h => ?_)
    refine Wx.run ok kX6_init 21 1 (lv' := [(0, .inr (.inr (some v0))), (1, .inl v1)]) (st' := [.inl v1, .inr (.inr t38)]) (pc' := 42) rfl ?_
    refine Wx.new ok kX6_init 22 rfl nw_RX6_21 (by have hb1 := hb.1; have hb2 := hb.2; constructor <;> simp only [rmX6_init] <;> omega) ?_
    refine Wx.run ok kX6_init 23 1 (lv' := [(0, .inr (.inr (some v0))), (1, .inl v1)]) (st' := [.inr (.inr (some w.2)), .inr (.inr (some w.2)), .inl v1, .inr (.inr t38)]) (pc' := 46) rfl ?_
    obtain ⟨q46, hq46, h⟩ := gob h
    refine Wx.callIN ok kX6_init 24 rfl lm_RX6_27 cd_X4_init [] (aX4_init _ _ hq46) (by have hb1 := hb.1; have hb2 := hb.2; refine ⟨?_, ?_, ?_, ?_⟩ <;> simp only [rmX4_init, rmX6_init] <;> omega) rfl (Nat.le_of_ble_eq_true rfl) rfl ?_
    refine Wx.aast ok kX6_init 25 rfl (ci := 4) (by decide) h (fun w49 h => ?_)
    refine Wx.run ok kX6_init 26 1 (lv' := [(1, .inl (v1 + (1 : Int32))), (0, .inr (.inr (some v0)))]) (st' := []) (pc' := 53) rfl ?_
    refine Wx.jump ok kX6_init 27 (tgt := 32) rfl (by decide) ?_
    refine Wx.sub [1, 0] rfl ?_
    refine Wx.widen (k := (cl + 2)) (n := (sl + 147)) (by have hb1 := hb.1; have hb2 := hb.2; simp only [rmX4_init, rmX6_init] at *; omega) (by have hb1 := hb.1; have hb2 := hb.2; simp only [rmX4_init, rmX6_init] at *; omega) ?_
    exact hr _ _ _ h
set_option maxRecDepth 100000 in
set_option maxHeartbeats 4000000 in
theorem aX6_init_l32 {X : gX} (ok : gOk X cX6_init RX6 2 none rmX6_init) (hnm : X.1.2.2.2.2.2.2.2.2.1.name = "<init>") {res : gW} (hres : gRs X none res) {F : Nat} : ∀ (n : Nat) (v0 : Nat) (v1 : Int32) (w : gW) (cl sl : Nat), cl + n * 2 ≤ 13 → sl + n * 147 ≤ 753 → mX6_init_l32 F n v0 v1 w = some res → Wx X w cl sl 32 [(0, .inr (.inr (some v0))), (1, .inl v1)] [] := by
  intro n
  induction n with
  | zero => intro v0 v1 w cl sl b1 b2 h; cases (show (none : Option (gW)) = some res from h)
  | succ n ih =>
    intro v0 v1 w cl sl b1 b2 h
    exact aX6_init_h32 ok hnm hres (F := F) (cl := cl) (sl := sl) ⟨by omega, by omega⟩ (mX6_init_l32 F n) (fun v0 v1 w h => ih v0 v1 w _ _ (by omega) (by omega) h) v0 v1 w h
set_option maxRecDepth 100000 in
set_option maxHeartbeats 4000000 in
theorem aX6_init (l : Launch) (G : gG) {F : Nat} {v0 : Nat} {w : gW} {res : gW} (h : mX6_init F v0 w = some res) : gM l yX6_init cX6_init 2 none rmX6_init G w (gTs [.inr (.inr (some v0))]) none res := by
  refine gM_of (y := yX6_init) (by decide +kernel) (Nat.le_of_ble_eq_true rfl) ?_
  intro X ok hl hG hres hnm
  subst hl; subst hG
  unfold mX6_init at h
  show Wx X w 0 0 0 [(0, .inr (.inr (some v0)))] []
  refine Wx.run ok kX6_init 0 1 (lv' := [(0, .inr (.inr (some v0)))]) (st' := [.inr (.inr (some v0))]) (pc' := 1) rfl ?_
  refine Wx.objInit ok kX6_init 1 rfl ⟨gw_17, gw_18, gw_19⟩ ⟨Nat.le_of_ble_eq_true rfl, Nat.le_of_ble_eq_true rfl⟩ ?_
  refine Wx.run ok kX6_init 2 2 (lv' := [(0, .inr (.inr (some v0)))]) (st' := [.inl (8 : Int32), .inr (.inr (some v0))]) (pc' := 7) rfl ?_
  refine Wx.newR ok kX6_init 4 rfl (ci := 2) (by decide) na_RX6_9 h (by decide) (by decide) (fun w7 h => ?_)
  refine Wx.putF ok kX6_init 5 rfl lk_RX6_11_2 hnm (gFit_a _ _) h (fun w10 h => ?_)
  refine Wx.run ok kX6_init 6 2 (lv' := [(0, .inr (.inr (some v0)))]) (st' := [.inl (6 : Int32), .inr (.inr (some v0))]) (pc' := 16) rfl ?_
  refine Wx.newR ok kX6_init 8 rfl (ci := 0) (by decide) na_RX6_15 h (by decide) (by decide) (fun w16 h => ?_)
  refine Wx.putF ok kX6_init 9 rfl lk_RX6_17_2 hnm (gFit_a _ _) h (fun w19 h => ?_)
  refine Wx.run ok kX6_init 10 2 (lv' := [(0, .inr (.inr (some v0)))]) (st' := [.inl (4 : Int32), .inr (.inr (some v0))]) (pc' := 24) rfl ?_
  refine Wx.newR ok kX6_init 12 rfl (ci := 4) (by decide) na_RX6_21 h (by decide) (by decide) (fun w24 h => ?_)
  refine Wx.putF ok kX6_init 13 rfl lk_RX6_23_2 hnm (gFit_a _ _) h (fun w27 h => ?_)
  refine Wx.run ok kX6_init 14 2 (lv' := [(1, .inl (0 : Int32)), (0, .inr (.inr (some v0)))]) (st' := []) (pc' := 32) rfl ?_
  refine Wx.sub [1, 0] rfl ?_
  refine aX6_init_l32 ok hnm hres (F := F) 5 _ _ _ _ _ (by decide) (by decide) h
set_option maxRecDepth 100000 in
set_option maxHeartbeats 4000000 in
theorem aX6_lay (l : Launch) (G : gG) {F : Nat} {v0 : Nat} {v1 : Int32} {v2 : Int32} {v3 : Int32} {w : gW} {res : Int32 × gW} (h : mX6_lay F v0 v1 v2 v3 w = some res) : gM l yX6_lay cX6_lay 5 (some .int) rmX6_lay G w (gTs [.inr (.inr (some v0)), .inl v1, .inl v2, .inl v3]) (some (.int res.1)) res.2 := by
  refine gM_of (y := yX6_lay) (by decide +kernel) (Nat.le_of_ble_eq_true rfl) ?_
  intro X ok hl hG hres hnm
  subst hl; subst hG
  unfold mX6_lay at h
  show Wx X w 0 0 0 [(0, .inr (.inr (some v0))), (1, .inl v1), (2, .inl v2), (3, .inl v3)] []
  refine Wx.run ok kX6_lay 0 2 (lv' := [(0, .inr (.inr (some v0))), (1, .inl v1), (2, .inl v2), (3, .inl v3)]) (st' := [.inl v1, .inr (.inr (some v0))]) (pc' := 2) rfl ?_
  obtain ⟨a2, ha2, h⟩ := gob h
  obtain ⟨q2, hq2, h⟩ := gob h
  refine Wx.callV ok kX6_lay 2 rfl lm_RX6_58 cd_X6_sheetAt ha2 [.inl v1] (some (.inr (.inr q2.1))) (aX6_sheetAt _ _ hq2) (by decide) rfl (Nat.le_of_ble_eq_true rfl) rfl rfl ?_
  refine Wx.run ok kX6_lay 3 2 (lv' := [(4, .inr (.inr q2.1)), (0, .inr (.inr (some v0))), (1, .inl v1), (2, .inl v2), (3, .inl v3)]) (st' := [.inr (.inr q2.1)]) (pc' := 9) rfl ?_
  refine Wx.ifnonnull ok kX6_lay 5 (tgt := 14) rfl (by decide) h (fun hc9 h => ?_) (fun hc9 h => ?_)
  · refine Wx.run ok kX6_lay 6 1 (lv' := [(4, .inr (.inr q2.1)), (0, .inr (.inr (some v0))), (1, .inl v1), (2, .inl v2), (3, .inl v3)]) (st' := [.inl (-1 : Int32)]) (pc' := 13) rfl ?_
    exact Wx.ireturn ok kX6_lay 7 rfl hres h (by decide)
  · refine Wx.run ok kX6_lay 8 1 (lv' := [(4, .inr (.inr q2.1)), (0, .inr (.inr (some v0))), (1, .inl v1), (2, .inl v2), (3, .inl v3)]) (st' := [.inr (.inr q2.1)]) (pc' := 16) rfl ?_
    refine Wx.getI ok kX6_lay 9 rfl lk_RX6_70_0 h (fun t16 h => ?_)
    refine Wx.run ok kX6_lay 10 1 (lv' := [(4, .inr (.inr q2.1)), (0, .inr (.inr (some v0))), (1, .inl v1), (2, .inl v2), (3, .inl v3)]) (st' := [.inl (-1 : Int32), .inl t16]) (pc' := 20) rfl ?_
    refine Wx.icmp_ne ok kX6_lay 11 (tgt := 26) rfl (by decide) h (fun hc20 h => ?_) (fun hc20 h => ?_)
    · refine Wx.run ok kX6_lay 12 1 (lv' := [(4, .inr (.inr q2.1)), (0, .inr (.inr (some v0))), (1, .inl v1), (2, .inl v2), (3, .inl v3)]) (st' := [.inl (-11 : Int32)]) (pc' := 25) rfl ?_
      exact Wx.ireturn ok kX6_lay 13 rfl hres h (by decide)
    · refine Wx.run ok kX6_lay 14 1 (lv' := [(4, .inr (.inr q2.1)), (0, .inr (.inr (some v0))), (1, .inl v1), (2, .inl v2), (3, .inl v3)]) (st' := [.inl v2]) (pc' := 27) rfl ?_
      refine Wx.if_lt ok kX6_lay 15 (tgt := 39) rfl (by decide) h (fun hc27 h => ?_) (fun hc27 h => ?_)
      · refine Wx.run ok kX6_lay 20 1 (lv' := [(4, .inr (.inr q2.1)), (0, .inr (.inr (some v0))), (1, .inl v1), (2, .inl v2), (3, .inl v3)]) (st' := [.inl (-12 : Int32)]) (pc' := 41) rfl ?_
        exact Wx.ireturn ok kX6_lay 21 rfl hres h (by decide)
      · refine Wx.run ok kX6_lay 16 2 (lv' := [(4, .inr (.inr q2.1)), (0, .inr (.inr (some v0))), (1, .inl v1), (2, .inl v2), (3, .inl v3)]) (st' := [.inr (.inr q2.1), .inl v2]) (pc' := 33) rfl ?_
        refine Wx.getI ok kX6_lay 18 rfl lk_RX6_73_0 h (fun t33 h => ?_)
        refine Wx.icmp_lt ok kX6_lay 19 (tgt := 42) rfl (by decide) h (fun hc36 h => ?_) (fun hc36 h => ?_)
        · refine Wx.run ok kX6_lay 22 3 (lv' := [(4, .inr (.inr q2.1)), (0, .inr (.inr (some v0))), (1, .inl v1), (2, .inl v2), (3, .inl v3)]) (st' := [.inl v3, .inl v2, .inr (.inr q2.1)]) (pc' := 46) rfl ?_
          obtain ⟨a46, ha46, h⟩ := gob h
          obtain ⟨q46, hq46, h⟩ := gob h
          refine Wx.callV ok kX6_lay 25 rfl lm_RX6_76 cd_X4_put ha46 [.inl v2, .inl v3] none (aX4_put _ _ hq46) (by decide) rfl (Nat.le_of_ble_eq_true rfl) rfl rfl ?_
          refine Wx.run ok kX6_lay 26 1 (lv' := [(4, .inr (.inr q2.1)), (0, .inr (.inr (some v0))), (1, .inl v1), (2, .inl v2), (3, .inl v3)]) (st' := [.inl (1 : Int32)]) (pc' := 50) rfl ?_
          exact Wx.ireturn ok kX6_lay 27 rfl hres h (by decide)
        · refine Wx.run ok kX6_lay 20 1 (lv' := [(4, .inr (.inr q2.1)), (0, .inr (.inr (some v0))), (1, .inl v1), (2, .inl v2), (3, .inl v3)]) (st' := [.inl (-12 : Int32)]) (pc' := 41) rfl ?_
          exact Wx.ireturn ok kX6_lay 21 rfl hres h (by decide)
set_option maxRecDepth 100000 in
set_option maxHeartbeats 4000000 in
theorem aX6_mod (l : Launch) (G : gG) {F : Nat} {v0 : Int32} {v1 : Int32} {w : gW} {res : Int32 × gW} (h : mX6_mod F v0 v1 w = some res) : gM l yX6_mod cX6_mod 2 (some .int) rmX6_mod G w (gTs [.inl v0, .inl v1]) (some (.int res.1)) res.2 := by
  refine gM_of (y := yX6_mod) (by decide +kernel) (Nat.le_of_ble_eq_true rfl) ?_
  intro X ok hl hG hres hnm
  subst hl; subst hG
  unfold mX6_mod at h
  show Wx X w 0 0 0 [(0, .inl v0), (1, .inl v1)] []
  refine Wx.run ok kX6_mod 0 1 (lv' := [(0, .inl v0), (1, .inl v1)]) (st' := [.inl v1]) (pc' := 1) rfl ?_
  refine Wx.if_le ok kX6_mod 1 (tgt := 12) rfl (by decide) h (fun hc1 h => ?_) (fun hc1 h => ?_)
  · refine Wx.run ok kX6_mod 6 1 (lv' := [(0, .inl v0), (1, .inl v1)]) (st' := [.inl (0 : Int32)]) (pc' := 13) rfl ?_
    exact Wx.ireturn ok kX6_mod 7 rfl hres h (by decide)
  · refine Wx.run ok kX6_mod 2 2 (lv' := [(0, .inl v0), (1, .inl v1)]) (st' := [.inl v1, .inl v0]) (pc' := 6) rfl ?_
    obtain ⟨q6, hq6, h⟩ := gob h
    refine Wx.callS ok kX6_mod 4 rfl lm_RX6_248 cd_J9_floorMod_7cf53 [.inl v0, .inl v1] (some (.inl q6.1)) (aJ9_floorMod_7cf53 _ _ hq6) (by decide) rfl (Nat.le_of_ble_eq_true rfl) rfl rfl ?_
    refine Wx.jump ok kX6_mod 5 (tgt := 13) rfl (by decide) ?_
    exact Wx.ireturn ok kX6_mod 7 rfl hres h (by decide)
set_option maxRecDepth 100000 in
set_option maxHeartbeats 4000000 in
theorem aX6_order (l : Launch) (G : gG) {F : Nat} {v0 : Nat} {v1 : Int32} {w : gW} {res : Int32 × gW} (h : mX6_order F v0 v1 w = some res) : gM l yX6_order cX6_order 3 (some .int) rmX6_order G w (gTs [.inr (.inr (some v0)), .inl v1]) (some (.int res.1)) res.2 := by
  refine gM_of (y := yX6_order) (by decide +kernel) (Nat.le_of_ble_eq_true rfl) ?_
  intro X ok hl hG hres hnm
  subst hl; subst hG
  unfold mX6_order at h
  show Wx X w 0 0 0 [(0, .inr (.inr (some v0))), (1, .inl v1)] []
  refine Wx.run ok kX6_order 0 2 (lv' := [(0, .inr (.inr (some v0))), (1, .inl v1)]) (st' := [.inl v1, .inr (.inr (some v0))]) (pc' := 2) rfl ?_
  obtain ⟨a2, ha2, h⟩ := gob h
  obtain ⟨q2, hq2, h⟩ := gob h
  refine Wx.callV ok kX6_order 2 rfl lm_RX6_46 cd_X6_groupAt ha2 [.inl v1] (some (.inr (.inr q2.1))) (aX6_groupAt _ _ hq2) (by decide) rfl (Nat.le_of_ble_eq_true rfl) rfl rfl ?_
  refine Wx.run ok kX6_order 3 2 (lv' := [(2, .inr (.inr q2.1)), (0, .inr (.inr (some v0))), (1, .inl v1)]) (st' := [.inr (.inr q2.1)]) (pc' := 7) rfl ?_
  refine Wx.ifnonnull ok kX6_order 5 (tgt := 14) rfl (by decide) h (fun hc7 h => ?_) (fun hc7 h => ?_)
  · refine Wx.run ok kX6_order 6 1 (lv' := [(2, .inr (.inr q2.1)), (0, .inr (.inr (some v0))), (1, .inl v1)]) (st' := [.inl (-1 : Int32)]) (pc' := 11) rfl ?_
    refine Wx.jump ok kX6_order 7 (tgt := 18) rfl (by decide) ?_
    exact Wx.ireturn ok kX6_order 10 rfl hres h (by decide)
  · refine Wx.run ok kX6_order 8 1 (lv' := [(2, .inr (.inr q2.1)), (0, .inr (.inr (some v0))), (1, .inl v1)]) (st' := [.inr (.inr q2.1)]) (pc' := 15) rfl ?_
    refine Wx.getI ok kX6_order 9 rfl lk_RX6_50_0 h (fun t15 h => ?_)
    exact Wx.ireturn ok kX6_order 10 rfl hres h (by decide)
set_option maxRecDepth 100000 in
set_option maxHeartbeats 4000000 in
theorem aX6_product (l : Launch) (G : gG) {F : Nat} {v0 : Nat} {v1 : Int32} {v2 : Int32} {v3 : Int32} {w : gW} {res : Int32 × gW} (h : mX6_product F v0 v1 v2 v3 w = some res) : gM l yX6_product cX6_product 5 (some .int) rmX6_product G w (gTs [.inr (.inr (some v0)), .inl v1, .inl v2, .inl v3]) (some (.int res.1)) res.2 := by
  refine gM_of (y := yX6_product) (by decide +kernel) (Nat.le_of_ble_eq_true rfl) ?_
  intro X ok hl hG hres hnm
  subst hl; subst hG
  unfold mX6_product at h
  show Wx X w 0 0 0 [(0, .inr (.inr (some v0))), (1, .inl v1), (2, .inl v2), (3, .inl v3)] []
  refine Wx.run ok kX6_product 0 2 (lv' := [(0, .inr (.inr (some v0))), (1, .inl v1), (2, .inl v2), (3, .inl v3)]) (st' := [.inl v1, .inr (.inr (some v0))]) (pc' := 2) rfl ?_
  obtain ⟨a2, ha2, h⟩ := gob h
  obtain ⟨q2, hq2, h⟩ := gob h
  refine Wx.callV ok kX6_product 2 rfl lm_RX6_46 cd_X6_groupAt ha2 [.inl v1] (some (.inr (.inr q2.1))) (aX6_groupAt _ _ hq2) (by decide) rfl (Nat.le_of_ble_eq_true rfl) rfl rfl ?_
  refine Wx.run ok kX6_product 3 2 (lv' := [(4, .inr (.inr q2.1)), (0, .inr (.inr (some v0))), (1, .inl v1), (2, .inl v2), (3, .inl v3)]) (st' := [.inr (.inr q2.1)]) (pc' := 9) rfl ?_
  refine Wx.ifnull ok kX6_product 5 (tgt := 30) rfl (by decide) h (fun hc9 h => ?_) (fun hc9 h => ?_)
  · refine Wx.run ok kX6_product 14 1 (lv' := [(4, .inr (.inr q2.1)), (0, .inr (.inr (some v0))), (1, .inl v1), (2, .inl v2), (3, .inl v3)]) (st' := [.inl (-1 : Int32)]) (pc' := 31) rfl ?_
    exact Wx.ireturn ok kX6_product 15 rfl hres h (by decide)
  · refine Wx.run ok kX6_product 6 2 (lv' := [(4, .inr (.inr q2.1)), (0, .inr (.inr (some v0))), (1, .inl v1), (2, .inl v2), (3, .inl v3)]) (st' := [.inl v2, .inr (.inr q2.1)]) (pc' := 15) rfl ?_
    obtain ⟨a15, ha15, h⟩ := gob h
    obtain ⟨q15, hq15, h⟩ := gob h
    refine Wx.callV ok kX6_product 8 rfl lm_RX6_97 cd_X2_has ha15 [.inl v2] (some (.inl q15.1)) (aX2_has _ _ hq15) (by decide) rfl (Nat.le_of_ble_eq_true rfl) rfl rfl ?_
    refine Wx.if_eq ok kX6_product 9 (tgt := 30) rfl (by decide) h (fun hc18 h => ?_) (fun hc18 h => ?_)
    · refine Wx.run ok kX6_product 14 1 (lv' := [(4, .inr (.inr q2.1)), (0, .inr (.inr (some v0))), (1, .inl v1), (2, .inl v2), (3, .inl v3)]) (st' := [.inl (-1 : Int32)]) (pc' := 31) rfl ?_
      exact Wx.ireturn ok kX6_product 15 rfl hres h (by decide)
    · refine Wx.run ok kX6_product 10 2 (lv' := [(4, .inr (.inr q2.1)), (0, .inr (.inr (some v0))), (1, .inl v1), (2, .inl v2), (3, .inl v3)]) (st' := [.inl v3, .inr (.inr q2.1)]) (pc' := 24) rfl ?_
      obtain ⟨a24, ha24, h⟩ := gob h
      obtain ⟨q24, hq24, h⟩ := gob h
      refine Wx.callV ok kX6_product 12 rfl lm_RX6_97 cd_X2_has ha24 [.inl v3] (some (.inl q24.1)) (aX2_has _ _ hq24) (by decide) rfl (Nat.le_of_ble_eq_true rfl) rfl rfl ?_
      refine Wx.if_ne ok kX6_product 13 (tgt := 32) rfl (by decide) h (fun hc27 h => ?_) (fun hc27 h => ?_)
      · refine Wx.run ok kX6_product 14 1 (lv' := [(4, .inr (.inr q2.1)), (0, .inr (.inr (some v0))), (1, .inl v1), (2, .inl v2), (3, .inl v3)]) (st' := [.inl (-1 : Int32)]) (pc' := 31) rfl ?_
        exact Wx.ireturn ok kX6_product 15 rfl hres h (by decide)
      · refine Wx.run ok kX6_product 16 3 (lv' := [(4, .inr (.inr q2.1)), (0, .inr (.inr (some v0))), (1, .inl v1), (2, .inl v2), (3, .inl v3)]) (st' := [.inl v3, .inl v2, .inr (.inr q2.1)]) (pc' := 36) rfl ?_
        obtain ⟨a36, ha36, h⟩ := gob h
        obtain ⟨q36, hq36, h⟩ := gob h
        refine Wx.callV ok kX6_product 19 rfl lm_RX6_100 cd_X2_mul ha36 [.inl v2, .inl v3] (some (.inl q36.1)) (aX2_mul _ _ hq36) (by decide) rfl (Nat.le_of_ble_eq_true rfl) rfl rfl ?_
        exact Wx.ireturn ok kX6_product 20 rfl hres h (by decide)
set_option maxRecDepth 100000 in
set_option maxHeartbeats 4000000 in
theorem aX6_spareGroup_b39 {X : gX} (ok : gOk X cX6_spareGroup RX6 1 (some (.object "GroupTowers$Group")) rmX6_spareGroup) {res : Option Nat × gW} (hres : gRs X (some (va_rf res.1)) res.2) {F : Nat} : ∀ (v0 : Nat) (w : gW), mX6_spareGroup_b39 F v0 w = some res → Wx X w 7 2509 39 [(0, .inr (.inr (some v0)))] [] := by
  intro v0 w h
  unfold mX6_spareGroup_b39 at h
  refine Wx.run ok kX6_spareGroup 20 1 (lv' := [(0, .inr (.inr (some v0)))]) (st' := [.inr (.inr (some v0))]) (pc' := 40) rfl ?_
  refine Wx.getR ok kX6_spareGroup 21 rfl lk_RX6_11_0 h (fun t40 h => ?_)
  refine Wx.run ok kX6_spareGroup 22 1 (lv' := [(0, .inr (.inr (some v0)))]) (st' := [.inr (.inr (some v0)), .inr (.inr t40)]) (pc' := 44) rfl ?_
  refine Wx.getI ok kX6_spareGroup 23 rfl lk_RX6_87_0 h (fun t44 h => ?_)
  refine Wx.aald ok kX6_spareGroup 24 rfl (ci := 2) (by decide) h (fun t47 h => ?_)
  exact Wx.areturn ok kX6_spareGroup 25 rfl hres h (by decide)
set_option maxRecDepth 100000 in
set_option maxHeartbeats 4000000 in
theorem aX6_spareGroup (l : Launch) (G : gG) {F : Nat} {v0 : Nat} {w : gW} {res : Option Nat × gW} (h : mX6_spareGroup F v0 w = some res) : gM l yX6_spareGroup cX6_spareGroup 1 (some (.object "GroupTowers$Group")) rmX6_spareGroup G w (gTs [.inr (.inr (some v0))]) (some (va_rf res.1)) res.2 := by
  refine gM_of (y := yX6_spareGroup) (by decide +kernel) (Nat.le_of_ble_eq_true rfl) ?_
  intro X ok hl hG hres hnm
  subst hl; subst hG
  unfold mX6_spareGroup at h
  show Wx X w 0 0 0 [(0, .inr (.inr (some v0)))] []
  refine Wx.run ok kX6_spareGroup 0 1 (lv' := [(0, .inr (.inr (some v0)))]) (st' := [.inr (.inr (some v0))]) (pc' := 1) rfl ?_
  refine Wx.getI ok kX6_spareGroup 1 rfl lk_RX6_87_0 h (fun t1 h => ?_)
  refine Wx.run ok kX6_spareGroup 2 1 (lv' := [(0, .inr (.inr (some v0)))]) (st' := [.inl (8 : Int32), .inl t1]) (pc' := 6) rfl ?_
  refine Wx.icmp_lt ok kX6_spareGroup 3 (tgt := 11) rfl (by decide) h (fun hc6 h => ?_) (fun hc6 h => ?_)
  · refine Wx.run ok kX6_spareGroup 6 1 (lv' := [(0, .inr (.inr (some v0)))]) (st' := [.inr (.inr (some v0))]) (pc' := 12) rfl ?_
    refine Wx.getR ok kX6_spareGroup 7 rfl lk_RX6_11_0 h (fun t12 h => ?_)
    refine Wx.run ok kX6_spareGroup 8 1 (lv' := [(0, .inr (.inr (some v0)))]) (st' := [.inr (.inr (some v0)), .inr (.inr t12)]) (pc' := 16) rfl ?_
    refine Wx.getI ok kX6_spareGroup 9 rfl lk_RX6_87_0 h (fun t16 h => ?_)
    refine Wx.aald ok kX6_spareGroup 10 rfl (ci := 2) (by decide) h (fun t19 h => ?_)
    refine Wx.ifnonnull ok kX6_spareGroup 11 (tgt := 39) rfl (by decide) h (fun hc20 h => ?_) (fun hc20 h => ?_)
    · refine Wx.run ok kX6_spareGroup 12 1 (lv' := [(0, .inr (.inr (some v0)))]) (st' := [.inr (.inr (some v0))]) (pc' := 24) rfl ?_
      refine Wx.getR ok kX6_spareGroup 13 rfl lk_RX6_11_0 h (fun t24 h => ?_)
      refine Wx.run ok kX6_spareGroup 14 1 (lv' := [(0, .inr (.inr (some v0)))]) (st' := [.inr (.inr (some v0)), .inr (.inr t24)]) (pc' := 28) rfl ?_
      refine Wx.getI ok kX6_spareGroup 15 rfl lk_RX6_87_0 h (fun t28 h => ?_)
      refine Wx.new ok kX6_spareGroup 16 rfl nw_RX6_9 (by decide) ?_
      refine Wx.run ok kX6_spareGroup 17 1 (lv' := [(0, .inr (.inr (some v0)))]) (st' := [.inr (.inr (some w.2)), .inr (.inr (some w.2)), .inl t28, .inr (.inr t24)]) (pc' := 35) rfl ?_
      obtain ⟨q35, hq35, h⟩ := gob h
      refine Wx.callIN ok kX6_spareGroup 18 rfl lm_RX6_223 cd_X2_init [] (aX2_init _ _ hq35) (by decide) rfl (Nat.le_of_ble_eq_true rfl) rfl ?_
      refine Wx.aast ok kX6_spareGroup 19 rfl (ci := 2) (by decide) h (fun w38 h => ?_)
      exact aX6_spareGroup_b39 ok hres (F := F) _ _ h
    · refine Wx.widen (k := 7) (n := 2509) (by decide) (by decide) ?_
      exact aX6_spareGroup_b39 ok hres (F := F) _ _ h
  · refine Wx.run ok kX6_spareGroup 4 1 (lv' := [(0, .inr (.inr (some v0)))]) (st' := [.inr (.inr none)]) (pc' := 10) rfl ?_
    exact Wx.areturn ok kX6_spareGroup 5 rfl hres h (by decide)
set_option maxRecDepth 100000 in
set_option maxHeartbeats 4000000 in
theorem aX7_classOfLine_h19 {X : gX} (ok : gOk X cX7_classOfLine RX7 4 (some .int) rmX7_classOfLine) {res : Int32 × gW} (hres : gRs X (some (.int res.1)) res.2) {F : Nat} (r : Nat → Int32 → Int32 → Int32 → gW → Option (Int32 × gW)) (k39 : Nat → Int32 → Int32 → Int32 → gW → Option (Int32 × gW)) (hr : ∀ (v0 : Nat) (v1 : Int32) (v2 : Int32) (v3 : Int32) (w : gW), r v0 v1 v2 v3 w = some res → Wx X w 0 0 19 [(0, .inr (.inr (some v0))), (1, .inl v1), (2, .inl v2), (3, .inl v3)] []) (hk39 : ∀ (v0 : Nat) (v1 : Int32) (v2 : Int32) (v3 : Int32) (w : gW), k39 v0 v1 v2 v3 w = some res → Wx X w 0 0 39 [(0, .inr (.inr (some v0))), (1, .inl v1), (2, .inl v2), (3, .inl v3)] []) : ∀ (v0 : Nat) (v1 : Int32) (v2 : Int32) (v3 : Int32) (w : gW), mX7_classOfLine_h19 F r k39 v0 v1 v2 v3 w = some res → Wx X w 0 0 19 [(0, .inr (.inr (some v0))), (1, .inl v1), (2, .inl v2), (3, .inl v3)] [] := by
  intro v0 v1 v2 v3 w h
  unfold mX7_classOfLine_h19 at h
  refine Wx.run ok kX7_classOfLine 13 1 (lv' := [(0, .inr (.inr (some v0))), (1, .inl v1), (2, .inl v2), (3, .inl v3)]) (st' := [.inr (.inr (some v0))]) (pc' := 20) rfl ?_
  refine Wx.getR ok kX7_classOfLine 14 rfl lk_RX7_89_0 h (fun t20 h => ?_)
  refine Wx.run ok kX7_classOfLine 15 5 (lv' := [(0, .inr (.inr (some v0))), (1, .inl v1), (2, .inl v2), (3, .inl v3)]) (st' := [.inl (((98 : Int32) * v2) + v3), .inr (.inr t20)]) (pc' := 29) rfl ?_
  refine Wx.iald ok kX7_classOfLine 20 rfl h (fun t29 h => ?_)
  refine Wx.if_ne ok kX7_classOfLine 21 (tgt := 39) rfl (by decide) h (fun hc30 h => ?_) (fun hc30 h => ?_)
  · refine Wx.run ok kX7_classOfLine 22 1 (lv' := [(3, .inl (v3 + (1 : Int32))), (0, .inr (.inr (some v0))), (1, .inl v1), (2, .inl v2)]) (st' := []) (pc' := 36) rfl ?_
    refine Wx.jump ok kX7_classOfLine 23 (tgt := 19) rfl (by decide) ?_
    refine Wx.sub [1, 2, 3, 0] rfl ?_
    exact hr _ _ _ _ _ h
  · exact hk39 _ _ _ _ _ h
set_option maxRecDepth 100000 in
set_option maxHeartbeats 4000000 in
theorem aX7_classOfLine_l19 {X : gX} (ok : gOk X cX7_classOfLine RX7 4 (some .int) rmX7_classOfLine) {res : Int32 × gW} (hres : gRs X (some (.int res.1)) res.2) {F : Nat} (k39 : Nat → Int32 → Int32 → Int32 → gW → Option (Int32 × gW)) (hk39 : ∀ (v0 : Nat) (v1 : Int32) (v2 : Int32) (v3 : Int32) (w : gW), k39 v0 v1 v2 v3 w = some res → Wx X w 0 0 39 [(0, .inr (.inr (some v0))), (1, .inl v1), (2, .inl v2), (3, .inl v3)] []) : ∀ (n : Nat) (v0 : Nat) (v1 : Int32) (v2 : Int32) (v3 : Int32) (w : gW), mX7_classOfLine_l19 F k39 n v0 v1 v2 v3 w = some res → Wx X w 0 0 19 [(0, .inr (.inr (some v0))), (1, .inl v1), (2, .inl v2), (3, .inl v3)] [] := by
  intro n
  induction n with
  | zero => intro v0 v1 v2 v3 w h; cases (show (none : Option (Int32 × gW)) = some res from h)
  | succ n ih =>
    intro v0 v1 v2 v3 w h
    exact aX7_classOfLine_h19 ok hres (F := F) (mX7_classOfLine_l19 F k39 n) k39 ih hk39 v0 v1 v2 v3 w h
set_option maxRecDepth 100000 in
set_option maxHeartbeats 4000000 in
theorem aX7_classOfLine_h13 {X : gX} (ok : gOk X cX7_classOfLine RX7 4 (some .int) rmX7_classOfLine) {res : Int32 × gW} (hres : gRs X (some (.int res.1)) res.2) {F : Nat} (r : Nat → Int32 → Int32 → gW → Option (Int32 × gW)) (hr : ∀ (v0 : Nat) (v1 : Int32) (v2 : Int32) (w : gW), r v0 v1 v2 w = some res → Wx X w 0 0 13 [(0, .inr (.inr (some v0))), (1, .inl v1), (2, .inl v2)] []) : ∀ (v0 : Nat) (v1 : Int32) (v2 : Int32) (w : gW), mX7_classOfLine_h13 F r v0 v1 v2 w = some res → Wx X w 0 0 13 [(0, .inr (.inr (some v0))), (1, .inl v1), (2, .inl v2)] [] := by
  intro v0 v1 v2 w h
  unfold mX7_classOfLine_h13 at h
  refine Wx.run ok kX7_classOfLine 9 1 (lv' := [(0, .inr (.inr (some v0))), (1, .inl v1), (2, .inl v2)]) (st' := [.inl v2]) (pc' := 14) rfl ?_
  refine Wx.if_lt ok kX7_classOfLine 10 (tgt := 59) rfl (by decide) h (fun hc14 h => ?_) (fun hc14 h => ?_)
  · refine Wx.run ok kX7_classOfLine 36 1 (lv' := [(0, .inr (.inr (some v0))), (1, .inl v1), (2, .inl v2)]) (st' := [.inl v1]) (pc' := 60) rfl ?_
    exact Wx.ireturn ok kX7_classOfLine 37 rfl hres h (by decide)
  · refine Wx.run ok kX7_classOfLine 11 2 (lv' := [(3, .inl (0 : Int32)), (0, .inr (.inr (some v0))), (1, .inl v1), (2, .inl v2)]) (st' := []) (pc' := 19) rfl ?_
    refine Wx.sub [1, 2, 3, 0] rfl ?_
    refine aX7_classOfLine_l19 ok hres (F := F) _ ?_ F _ _ _ _ _ h
    · intro v0 v1 v2 v3 w h
      refine Wx.run ok kX7_classOfLine 24 2 (lv' := [(0, .inr (.inr (some v0))), (1, .inl v1), (2, .inl v2), (3, .inl v3)]) (st' := [.inr (.inr (some v0)), .inl v1]) (pc' := 41) rfl ?_
      refine Wx.getI ok kX7_classOfLine 26 rfl lk_RX7_196_0 h (fun t41 h => ?_)
      refine Wx.run ok kX7_classOfLine 27 2 (lv' := [(0, .inr (.inr (some v0))), (1, .inl v1), (2, .inl v2), (3, .inl v3)]) (st' := [.inr (.inr (some v0)), .inl (v1 * t41)]) (pc' := 46) rfl ?_
      refine Wx.getR ok kX7_classOfLine 29 rfl lk_RX7_67_0 h (fun t46 h => ?_)
      refine Wx.run ok kX7_classOfLine 30 1 (lv' := [(0, .inr (.inr (some v0))), (1, .inl v1), (2, .inl v2), (3, .inl v3)]) (st' := [.inl v3, .inr (.inr t46), .inl (v1 * t41)]) (pc' := 50) rfl ?_
      refine Wx.iald ok kX7_classOfLine 31 rfl h (fun t50 h => ?_)
      refine Wx.run ok kX7_classOfLine 32 3 (lv' := [(2, .inl (v2 + (-1 : Int32))), (1, .inl ((v1 * t41) + t50)), (0, .inr (.inr (some v0))), (3, .inl v3)]) (st' := []) (pc' := 56) rfl ?_
      refine Wx.jump ok kX7_classOfLine 35 (tgt := 13) rfl (by decide) ?_
      refine Wx.sub [2, 1, 0] rfl ?_
      exact hr _ _ _ _ h
set_option maxRecDepth 100000 in
set_option maxHeartbeats 4000000 in
theorem aX7_classOfLine_l13 {X : gX} (ok : gOk X cX7_classOfLine RX7 4 (some .int) rmX7_classOfLine) {res : Int32 × gW} (hres : gRs X (some (.int res.1)) res.2) {F : Nat} : ∀ (n : Nat) (v0 : Nat) (v1 : Int32) (v2 : Int32) (w : gW), mX7_classOfLine_l13 F n v0 v1 v2 w = some res → Wx X w 0 0 13 [(0, .inr (.inr (some v0))), (1, .inl v1), (2, .inl v2)] [] := by
  intro n
  induction n with
  | zero => intro v0 v1 v2 w h; cases (show (none : Option (Int32 × gW)) = some res from h)
  | succ n ih =>
    intro v0 v1 v2 w h
    exact aX7_classOfLine_h13 ok hres (F := F) (mX7_classOfLine_l13 F n) ih v0 v1 v2 w h
set_option maxRecDepth 100000 in
set_option maxHeartbeats 4000000 in
theorem aX7_classOfLine (l : Launch) (G : gG) {F : Nat} {v0 : Nat} {w : gW} {res : Int32 × gW} (h : mX7_classOfLine F v0 w = some res) : gM l yX7_classOfLine cX7_classOfLine 4 (some .int) rmX7_classOfLine G w (gTs [.inr (.inr (some v0))]) (some (.int res.1)) res.2 := by
  refine gM_of (y := yX7_classOfLine) (by decide +kernel) (Nat.le_of_ble_eq_true rfl) ?_
  intro X ok hl hG hres hnm
  subst hl; subst hG
  unfold mX7_classOfLine at h
  show Wx X w 0 0 0 [(0, .inr (.inr (some v0)))] []
  refine Wx.run ok kX7_classOfLine 0 1 (lv' := [(0, .inr (.inr (some v0)))]) (st' := [.inr (.inr (some v0))]) (pc' := 1) rfl ?_
  obtain ⟨a1, ha1, h⟩ := gob h
  obtain ⟨q1, hq1, h⟩ := gob h
  refine Wx.callV ok kX7_classOfLine 1 rfl lm_RX7_252 cd_X7_lessBound ha1 [] none (aX7_lessBound _ _ hq1) (by decide) rfl (Nat.le_of_ble_eq_true rfl) rfl rfl ?_
  refine Wx.run ok kX7_classOfLine 2 3 (lv' := [(1, .inl (0 : Int32)), (0, .inr (.inr (some v0)))]) (st' := [.inr (.inr (some v0))]) (pc' := 7) rfl ?_
  refine Wx.getI ok kX7_classOfLine 5 rfl lk_RX7_255_0 h (fun t7 h => ?_)
  refine Wx.run ok kX7_classOfLine 6 3 (lv' := [(2, .inl (t7 - (1 : Int32))), (1, .inl (0 : Int32)), (0, .inr (.inr (some v0)))]) (st' := []) (pc' := 13) rfl ?_
  refine Wx.sub [2, 1, 0] rfl ?_
  refine aX7_classOfLine_l13 ok hres (F := F) F _ _ _ _ h
set_option maxRecDepth 100000 in
set_option maxHeartbeats 4000000 in
theorem aX7_cyclic_h35 {X : gX} (ok : gOk X cX7_cyclic RX7 4 (some .int) rmX7_cyclic) {res : Int32 × gW} (hres : gRs X (some (.int res.1)) res.2) {F : Nat} (r : Nat → Int32 → Int32 → Int32 → gW → Option (Int32 × gW)) (k57 : Nat → Int32 → Int32 → gW → Option (Int32 × gW)) (hr : ∀ (v0 : Nat) (v1 : Int32) (v2 : Int32) (v3 : Int32) (w : gW), r v0 v1 v2 v3 w = some res → Wx X w 0 0 35 [(0, .inr (.inr (some v0))), (1, .inl v1), (2, .inl v2), (3, .inl v3)] []) (hk57 : ∀ (v0 : Nat) (v1 : Int32) (v2 : Int32) (w : gW), k57 v0 v1 v2 w = some res → Wx X w 0 0 57 [(0, .inr (.inr (some v0))), (1, .inl v1), (2, .inl v2)] []) : ∀ (v0 : Nat) (v1 : Int32) (v2 : Int32) (v3 : Int32) (w : gW), mX7_cyclic_h35 F r k57 v0 v1 v2 v3 w = some res → Wx X w 0 0 35 [(0, .inr (.inr (some v0))), (1, .inl v1), (2, .inl v2), (3, .inl v3)] [] := by
  intro v0 v1 v2 v3 w h
  unfold mX7_cyclic_h35 at h
  refine Wx.run ok kX7_cyclic 21 2 (lv' := [(0, .inr (.inr (some v0))), (1, .inl v1), (2, .inl v2), (3, .inl v3)]) (st' := [.inl v1, .inl v3]) (pc' := 37) rfl ?_
  refine Wx.icmp_ge ok kX7_cyclic 23 (tgt := 57) rfl (by decide) h (fun hc37 h => ?_) (fun hc37 h => ?_)
  · refine Wx.sub [0, 1, 2] rfl ?_
    exact hk57 _ _ _ _ h
  · refine Wx.run ok kX7_cyclic 24 7 (lv' := [(0, .inr (.inr (some v0))), (1, .inl v1), (2, .inl v2), (3, .inl v3)]) (st' := [.inl v1, .inl (v2 + v3), .inl v3, .inl v2, .inr (.inr (some v0))]) (pc' := 47) rfl ?_
    refine Wx.irem ok kX7_cyclic 31 rfl h (fun t47 h => ?_)
    obtain ⟨a48, ha48, h⟩ := gob h
    obtain ⟨q48, hq48, h⟩ := gob h
    refine Wx.callV ok kX7_cyclic 32 rfl lm_RX7_104 cd_X7_set ha48 [.inl v2, .inl v3, .inl t47] none (aX7_set _ _ hq48) (by decide) rfl (Nat.le_of_ble_eq_true rfl) rfl rfl ?_
    refine Wx.run ok kX7_cyclic 33 1 (lv' := [(3, .inl (v3 + (1 : Int32))), (0, .inr (.inr (some v0))), (1, .inl v1), (2, .inl v2)]) (st' := []) (pc' := 54) rfl ?_
    refine Wx.jump ok kX7_cyclic 34 (tgt := 35) rfl (by decide) ?_
    refine Wx.sub [1, 2, 3, 0] rfl ?_
    exact hr _ _ _ _ _ h
set_option maxRecDepth 100000 in
set_option maxHeartbeats 4000000 in
theorem aX7_cyclic_l35 {X : gX} (ok : gOk X cX7_cyclic RX7 4 (some .int) rmX7_cyclic) {res : Int32 × gW} (hres : gRs X (some (.int res.1)) res.2) {F : Nat} (k57 : Nat → Int32 → Int32 → gW → Option (Int32 × gW)) (hk57 : ∀ (v0 : Nat) (v1 : Int32) (v2 : Int32) (w : gW), k57 v0 v1 v2 w = some res → Wx X w 0 0 57 [(0, .inr (.inr (some v0))), (1, .inl v1), (2, .inl v2)] []) : ∀ (n : Nat) (v0 : Nat) (v1 : Int32) (v2 : Int32) (v3 : Int32) (w : gW), mX7_cyclic_l35 F k57 n v0 v1 v2 v3 w = some res → Wx X w 0 0 35 [(0, .inr (.inr (some v0))), (1, .inl v1), (2, .inl v2), (3, .inl v3)] [] := by
  intro n
  induction n with
  | zero => intro v0 v1 v2 v3 w h; cases (show (none : Option (Int32 × gW)) = some res from h)
  | succ n ih =>
    intro v0 v1 v2 v3 w h
    exact aX7_cyclic_h35 ok hres (F := F) (mX7_cyclic_l35 F k57 n) k57 ih hk57 v0 v1 v2 v3 w h
set_option maxRecDepth 100000 in
set_option maxHeartbeats 4000000 in
theorem aX7_cyclic_h28 {X : gX} (ok : gOk X cX7_cyclic RX7 4 (some .int) rmX7_cyclic) {res : Int32 × gW} (hres : gRs X (some (.int res.1)) res.2) {F : Nat} (r : Nat → Int32 → Int32 → gW → Option (Int32 × gW)) (k63 : Nat → Int32 → gW → Option (Int32 × gW)) (hr : ∀ (v0 : Nat) (v1 : Int32) (v2 : Int32) (w : gW), r v0 v1 v2 w = some res → Wx X w 0 0 28 [(0, .inr (.inr (some v0))), (1, .inl v1), (2, .inl v2)] []) (hk63 : ∀ (v0 : Nat) (v1 : Int32) (w : gW), k63 v0 v1 w = some res → Wx X w 0 0 63 [(0, .inr (.inr (some v0))), (1, .inl v1)] []) : ∀ (v0 : Nat) (v1 : Int32) (v2 : Int32) (w : gW), mX7_cyclic_h28 F r k63 v0 v1 v2 w = some res → Wx X w 0 0 28 [(0, .inr (.inr (some v0))), (1, .inl v1), (2, .inl v2)] [] := by
  intro v0 v1 v2 w h
  unfold mX7_cyclic_h28 at h
  refine Wx.run ok kX7_cyclic 16 2 (lv' := [(0, .inr (.inr (some v0))), (1, .inl v1), (2, .inl v2)]) (st' := [.inl v1, .inl v2]) (pc' := 30) rfl ?_
  refine Wx.icmp_ge ok kX7_cyclic 18 (tgt := 63) rfl (by decide) h (fun hc30 h => ?_) (fun hc30 h => ?_)
  · refine Wx.sub [0, 1] rfl ?_
    exact hk63 _ _ _ h
  · refine Wx.run ok kX7_cyclic 19 2 (lv' := [(3, .inl (0 : Int32)), (0, .inr (.inr (some v0))), (1, .inl v1), (2, .inl v2)]) (st' := []) (pc' := 35) rfl ?_
    refine Wx.sub [1, 2, 3, 0] rfl ?_
    refine aX7_cyclic_l35 ok hres (F := F) _ ?_ F _ _ _ _ _ h
    · intro v0 v1 v2 w h
      refine Wx.run ok kX7_cyclic 35 1 (lv' := [(2, .inl (v2 + (1 : Int32))), (0, .inr (.inr (some v0))), (1, .inl v1)]) (st' := []) (pc' := 60) rfl ?_
      refine Wx.jump ok kX7_cyclic 36 (tgt := 28) rfl (by decide) ?_
      refine Wx.sub [1, 2, 0] rfl ?_
      exact hr _ _ _ _ h
set_option maxRecDepth 100000 in
set_option maxHeartbeats 4000000 in
theorem aX7_cyclic_l28 {X : gX} (ok : gOk X cX7_cyclic RX7 4 (some .int) rmX7_cyclic) {res : Int32 × gW} (hres : gRs X (some (.int res.1)) res.2) {F : Nat} (k63 : Nat → Int32 → gW → Option (Int32 × gW)) (hk63 : ∀ (v0 : Nat) (v1 : Int32) (w : gW), k63 v0 v1 w = some res → Wx X w 0 0 63 [(0, .inr (.inr (some v0))), (1, .inl v1)] []) : ∀ (n : Nat) (v0 : Nat) (v1 : Int32) (v2 : Int32) (w : gW), mX7_cyclic_l28 F k63 n v0 v1 v2 w = some res → Wx X w 0 0 28 [(0, .inr (.inr (some v0))), (1, .inl v1), (2, .inl v2)] [] := by
  intro n
  induction n with
  | zero => intro v0 v1 v2 w h; cases (show (none : Option (Int32 × gW)) = some res from h)
  | succ n ih =>
    intro v0 v1 v2 w h
    exact aX7_cyclic_h28 ok hres (F := F) (mX7_cyclic_l28 F k63 n) k63 ih hk63 v0 v1 v2 w h
set_option maxRecDepth 100000 in
set_option maxHeartbeats 4000000 in
theorem aX7_cyclic (l : Launch) (G : gG) {F : Nat} {v0 : Nat} {v1 : Int32} {w : gW} {res : Int32 × gW} (h : mX7_cyclic F v0 v1 w = some res) : gM l yX7_cyclic cX7_cyclic 4 (some .int) rmX7_cyclic G w (gTs [.inr (.inr (some v0)), .inl v1]) (some (.int res.1)) res.2 := by
  refine gM_of (y := yX7_cyclic) (by decide +kernel) (Nat.le_of_ble_eq_true rfl) ?_
  intro X ok hl hG hres hnm
  subst hl; subst hG
  unfold mX7_cyclic at h
  show Wx X w 0 0 0 [(0, .inr (.inr (some v0))), (1, .inl v1)] []
  refine Wx.run ok kX7_cyclic 0 3 (lv' := [(0, .inr (.inr (some v0))), (1, .inl v1)]) (st' := [.inr (.inl (1 : Int64)), .inr (.inl ((v1).toInt64))]) (pc' := 3) rfl ?_
  refine Wx.ldc2 ok kX7_cyclic 3 rfl gw_823 ?_
  obtain ⟨q6, hq6, h⟩ := gob h
  refine Wx.callS ok kX7_cyclic 4 rfl lm_RX7_100 cd_X7_in [.inr (.inl ((v1).toInt64)), .inr (.inl (1 : Int64)), .inr (.inl (48 : Int64))] (some (.inl q6.1)) (aX7_in _ _ hq6) (by decide) rfl (Nat.le_of_ble_eq_true rfl) rfl rfl ?_
  refine Wx.if_ne ok kX7_cyclic 5 (tgt := 14) rfl (by decide) h (fun hc9 h => ?_) (fun hc9 h => ?_)
  · refine Wx.run ok kX7_cyclic 6 1 (lv' := [(0, .inr (.inr (some v0))), (1, .inl v1)]) (st' := [.inl (-1 : Int32)]) (pc' := 13) rfl ?_
    exact Wx.ireturn ok kX7_cyclic 7 rfl hres h (by decide)
  · refine Wx.run ok kX7_cyclic 8 1 (lv' := [(0, .inr (.inr (some v0))), (1, .inl v1)]) (st' := [.inr (.inr (some v0))]) (pc' := 15) rfl ?_
    refine Wx.getI ok kX7_cyclic 9 rfl lk_RX7_95_0 h (fun t15 h => ?_)
    refine Wx.run ok kX7_cyclic 10 1 (lv' := [(0, .inr (.inr (some v0))), (1, .inl v1)]) (st' := [.inl (8 : Int32), .inl t15]) (pc' := 20) rfl ?_
    refine Wx.icmp_ne ok kX7_cyclic 11 (tgt := 26) rfl (by decide) h (fun hc20 h => ?_) (fun hc20 h => ?_)
    · refine Wx.run ok kX7_cyclic 12 1 (lv' := [(0, .inr (.inr (some v0))), (1, .inl v1)]) (st' := [.inl (-3 : Int32)]) (pc' := 25) rfl ?_
      exact Wx.ireturn ok kX7_cyclic 13 rfl hres h (by decide)
    · refine Wx.run ok kX7_cyclic 14 2 (lv' := [(2, .inl (0 : Int32)), (0, .inr (.inr (some v0))), (1, .inl v1)]) (st' := []) (pc' := 28) rfl ?_
      refine Wx.sub [1, 2, 0] rfl ?_
      refine aX7_cyclic_l28 ok hres (F := F) _ ?_ F _ _ _ _ h
      · intro v0 v1 w h
        refine Wx.run ok kX7_cyclic 37 2 (lv' := [(0, .inr (.inr (some v0))), (1, .inl v1)]) (st' := [.inl v1, .inr (.inr (some v0))]) (pc' := 65) rfl ?_
        obtain ⟨a65, ha65, h⟩ := gob h
        obtain ⟨q65, hq65, h⟩ := gob h
        refine Wx.callV ok kX7_cyclic 39 rfl lm_RX7_108 cd_X7_added ha65 [.inl v1] (some (.inl q65.1)) (aX7_added _ _ hq65) (by decide) rfl (Nat.le_of_ble_eq_true rfl) rfl rfl ?_
        exact Wx.ireturn ok kX7_cyclic 40 rfl hres h (by decide)
