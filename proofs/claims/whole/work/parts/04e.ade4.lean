set_option maxRecDepth 100000 in
set_option maxHeartbeats 4000000 in
theorem aX7_dimensionNone_b70 {X : gX} (ok : gOk X cX7_dimensionNone RX7 4 none rmX7_dimensionNone) {res : gW} (hres : gRs X none res) {F : Nat} (r : Nat → Int32 → Int32 → Int32 → gW → Option (gW)) (k80 : Nat → Int32 → Int32 → gW → Option (gW)) (hr : ∀ (v0 : Nat) (v1 : Int32) (v2 : Int32) (v3 : Int32) (w : gW), r v0 v1 v2 v3 w = some res → Wx X w 0 0 39 [(0, .inr (.inr (some v0))), (1, .inl v1), (2, .inl v2), (3, .inl v3)] []) (hk80 : ∀ (v0 : Nat) (v1 : Int32) (v2 : Int32) (w : gW), k80 v0 v1 v2 w = some res → Wx X w 0 0 80 [(0, .inr (.inr (some v0))), (1, .inl v1), (2, .inl v2)] []) : ∀ (v0 : Nat) (v1 : Int32) (v2 : Int32) (v3 : Int32) (s0 : Option Nat) (s1 : Int32) (s2 : Int32) (s3 : Int32) (w : gW), mX7_dimensionNone_b70 F r k80 v0 v1 v2 v3 s0 s1 s2 s3 w = some res → Wx X w 0 0 70 [(0, .inr (.inr (some v0))), (1, .inl v1), (2, .inl v2), (3, .inl v3)] [.inl s3, .inl s2, .inl s1, .inr (.inr s0)] := by
  intro v0 v1 v2 v3 s0 s1 s2 s3 w h
  unfold mX7_dimensionNone_b70 at h
  refine Wx.run ok kX7_dimensionNone 42 1 (lv' := [(0, .inr (.inr (some v0))), (1, .inl v1), (2, .inl v2), (3, .inl v3)]) (st' := [.inl (s2 - s3), .inl s1, .inr (.inr s0)]) (pc' := 71) rfl ?_
  obtain ⟨a71, ha71, h⟩ := gob h
  obtain ⟨q71, hq71, h⟩ := gob h
  refine Wx.callV ok kX7_dimensionNone 43 rfl lm_RX7_223 cd_X7_addTo ha71 [.inl s1, .inl (s2 - s3)] none (aX7_addTo _ _ hq71) (by decide) rfl (Nat.le_of_ble_eq_true rfl) rfl rfl ?_
  refine Wx.run ok kX7_dimensionNone 44 1 (lv' := [(3, .inl (v3 + (1 : Int32))), (0, .inr (.inr (some v0))), (1, .inl v1), (2, .inl v2)]) (st' := []) (pc' := 77) rfl ?_
  refine Wx.jump ok kX7_dimensionNone 45 (tgt := 39) rfl (by decide) ?_
  refine Wx.sub [1, 2, 3, 0] rfl ?_
  exact hr _ _ _ _ _ h
set_option maxRecDepth 100000 in
set_option maxHeartbeats 4000000 in
theorem aX7_dimensionNone_h39 {X : gX} (ok : gOk X cX7_dimensionNone RX7 4 none rmX7_dimensionNone) {res : gW} (hres : gRs X none res) {F : Nat} (r : Nat → Int32 → Int32 → Int32 → gW → Option (gW)) (k80 : Nat → Int32 → Int32 → gW → Option (gW)) (hr : ∀ (v0 : Nat) (v1 : Int32) (v2 : Int32) (v3 : Int32) (w : gW), r v0 v1 v2 v3 w = some res → Wx X w 0 0 39 [(0, .inr (.inr (some v0))), (1, .inl v1), (2, .inl v2), (3, .inl v3)] []) (hk80 : ∀ (v0 : Nat) (v1 : Int32) (v2 : Int32) (w : gW), k80 v0 v1 v2 w = some res → Wx X w 0 0 80 [(0, .inr (.inr (some v0))), (1, .inl v1), (2, .inl v2)] []) : ∀ (v0 : Nat) (v1 : Int32) (v2 : Int32) (v3 : Int32) (w : gW), mX7_dimensionNone_h39 F r k80 v0 v1 v2 v3 w = some res → Wx X w 0 0 39 [(0, .inr (.inr (some v0))), (1, .inl v1), (2, .inl v2), (3, .inl v3)] [] := by
  intro v0 v1 v2 v3 w h
  unfold mX7_dimensionNone_h39 at h
  refine Wx.run ok kX7_dimensionNone 23 2 (lv' := [(0, .inr (.inr (some v0))), (1, .inl v1), (2, .inl v2), (3, .inl v3)]) (st' := [.inr (.inr (some v0)), .inl v3]) (pc' := 41) rfl ?_
  refine Wx.getI ok kX7_dimensionNone 25 rfl lk_RX7_211_0 h (fun t41 h => ?_)
  refine Wx.icmp_ge ok kX7_dimensionNone 26 (tgt := 80) rfl (by decide) h (fun hc44 h => ?_) (fun hc44 h => ?_)
  · refine Wx.sub [0, 1, 2] rfl ?_
    exact hk80 _ _ _ _ h
  · refine Wx.run ok kX7_dimensionNone 27 4 (lv' := [(0, .inr (.inr (some v0))), (1, .inl v1), (2, .inl v2), (3, .inl v3)]) (st' := [.inr (.inr (some v0)), .inr (.inr (some v0)), .inl v3, .inr (.inr (some v0))]) (pc' := 51) rfl ?_
    refine Wx.getI ok kX7_dimensionNone 31 rfl lk_RX7_214_0 h (fun t51 h => ?_)
    refine Wx.run ok kX7_dimensionNone 32 3 (lv' := [(0, .inr (.inr (some v0))), (1, .inl v1), (2, .inl v2), (3, .inl v3)]) (st' := [.inl v3, .inl v2, .inl v1, .inl t51, .inr (.inr (some v0)), .inl v3, .inr (.inr (some v0))]) (pc' := 57) rfl ?_
    obtain ⟨a57, ha57, h⟩ := gob h
    obtain ⟨q57, hq57, h⟩ := gob h
    refine Wx.callV ok kX7_dimensionNone 35 rfl lm_RX7_193 cd_X7_matrix ha57 [.inl t51, .inl v1, .inl v2, .inl v3] (some (.inl q57.1)) (aX7_matrix _ _ hq57) (by decide) rfl (Nat.le_of_ble_eq_true rfl) rfl rfl ?_
    refine Wx.run ok kX7_dimensionNone 36 2 (lv' := [(0, .inr (.inr (some v0))), (1, .inl v1), (2, .inl v2), (3, .inl v3)]) (st' := [.inl v3, .inl v2, .inl q57.1, .inl v3, .inr (.inr (some v0))]) (pc' := 62) rfl ?_
    refine Wx.icmp_ne ok kX7_dimensionNone 38 (tgt := 69) rfl (by decide) h (fun hc62 h => ?_) (fun hc62 h => ?_)
    · refine Wx.run ok kX7_dimensionNone 39 1 (lv' := [(0, .inr (.inr (some v0))), (1, .inl v1), (2, .inl v2), (3, .inl v3)]) (st' := [.inl (1 : Int32), .inl q57.1, .inl v3, .inr (.inr (some v0))]) (pc' := 66) rfl ?_
      refine Wx.jump ok kX7_dimensionNone 40 (tgt := 70) rfl (by decide) ?_
      exact aX7_dimensionNone_b70 ok hres (F := F) r k80 hr hk80 _ _ _ _ _ _ _ _ _ h
    · refine Wx.run ok kX7_dimensionNone 41 1 (lv' := [(0, .inr (.inr (some v0))), (1, .inl v1), (2, .inl v2), (3, .inl v3)]) (st' := [.inl (0 : Int32), .inl q57.1, .inl v3, .inr (.inr (some v0))]) (pc' := 70) rfl ?_
      exact aX7_dimensionNone_b70 ok hres (F := F) r k80 hr hk80 _ _ _ _ _ _ _ _ _ h
set_option maxRecDepth 100000 in
set_option maxHeartbeats 4000000 in
theorem aX7_dimensionNone_l39 {X : gX} (ok : gOk X cX7_dimensionNone RX7 4 none rmX7_dimensionNone) {res : gW} (hres : gRs X none res) {F : Nat} (k80 : Nat → Int32 → Int32 → gW → Option (gW)) (hk80 : ∀ (v0 : Nat) (v1 : Int32) (v2 : Int32) (w : gW), k80 v0 v1 v2 w = some res → Wx X w 0 0 80 [(0, .inr (.inr (some v0))), (1, .inl v1), (2, .inl v2)] []) : ∀ (n : Nat) (v0 : Nat) (v1 : Int32) (v2 : Int32) (v3 : Int32) (w : gW), mX7_dimensionNone_l39 F k80 n v0 v1 v2 v3 w = some res → Wx X w 0 0 39 [(0, .inr (.inr (some v0))), (1, .inl v1), (2, .inl v2), (3, .inl v3)] [] := by
  intro n
  induction n with
  | zero => intro v0 v1 v2 v3 w h; cases (show (none : Option (gW)) = some res from h)
  | succ n ih =>
    intro v0 v1 v2 v3 w h
    exact aX7_dimensionNone_h39 ok hres (F := F) (mX7_dimensionNone_l39 F k80 n) k80 ih hk80 v0 v1 v2 v3 w h
set_option maxRecDepth 100000 in
set_option maxHeartbeats 4000000 in
theorem aX7_dimensionNone_h25 {X : gX} (ok : gOk X cX7_dimensionNone RX7 4 none rmX7_dimensionNone) {res : gW} (hres : gRs X none res) {F : Nat} (r : Nat → Int32 → Int32 → gW → Option (gW)) (k90 : Nat → Int32 → gW → Option (gW)) (hr : ∀ (v0 : Nat) (v1 : Int32) (v2 : Int32) (w : gW), r v0 v1 v2 w = some res → Wx X w 0 0 25 [(0, .inr (.inr (some v0))), (1, .inl v1), (2, .inl v2)] []) (hk90 : ∀ (v0 : Nat) (v1 : Int32) (w : gW), k90 v0 v1 w = some res → Wx X w 0 0 90 [(0, .inr (.inr (some v0))), (1, .inl v1)] []) : ∀ (v0 : Nat) (v1 : Int32) (v2 : Int32) (w : gW), mX7_dimensionNone_h25 F r k90 v0 v1 v2 w = some res → Wx X w 0 0 25 [(0, .inr (.inr (some v0))), (1, .inl v1), (2, .inl v2)] [] := by
  intro v0 v1 v2 w h
  unfold mX7_dimensionNone_h25 at h
  refine Wx.run ok kX7_dimensionNone 15 2 (lv' := [(0, .inr (.inr (some v0))), (1, .inl v1), (2, .inl v2)]) (st' := [.inr (.inr (some v0)), .inl v2]) (pc' := 27) rfl ?_
  refine Wx.getI ok kX7_dimensionNone 17 rfl lk_RX7_211_0 h (fun t27 h => ?_)
  refine Wx.icmp_ge ok kX7_dimensionNone 18 (tgt := 90) rfl (by decide) h (fun hc30 h => ?_) (fun hc30 h => ?_)
  · refine Wx.sub [0, 1] rfl ?_
    exact hk90 _ _ _ h
  · refine Wx.run ok kX7_dimensionNone 19 1 (lv' := [(0, .inr (.inr (some v0))), (1, .inl v1), (2, .inl v2)]) (st' := [.inr (.inr (some v0))]) (pc' := 34) rfl ?_
    obtain ⟨a34, ha34, h⟩ := gob h
    obtain ⟨q34, hq34, h⟩ := gob h
    refine Wx.callV ok kX7_dimensionNone 20 rfl lm_RX7_220 cd_X7_clearLine ha34 [] none (aX7_clearLine _ _ hq34) (by decide) rfl (Nat.le_of_ble_eq_true rfl) rfl rfl ?_
    refine Wx.run ok kX7_dimensionNone 21 2 (lv' := [(3, .inl (0 : Int32)), (0, .inr (.inr (some v0))), (1, .inl v1), (2, .inl v2)]) (st' := []) (pc' := 39) rfl ?_
    refine Wx.sub [1, 2, 3, 0] rfl ?_
    refine aX7_dimensionNone_l39 ok hres (F := F) _ ?_ F _ _ _ _ _ h
    · intro v0 v1 v2 w h
      refine Wx.run ok kX7_dimensionNone 46 1 (lv' := [(0, .inr (.inr (some v0))), (1, .inl v1), (2, .inl v2)]) (st' := [.inr (.inr (some v0))]) (pc' := 81) rfl ?_
      obtain ⟨a81, ha81, h⟩ := gob h
      obtain ⟨q81, hq81, h⟩ := gob h
      refine Wx.callV ok kX7_dimensionNone 47 rfl lm_RX7_226 cd_X7_settles ha81 [] none (aX7_settles _ _ hq81) (by decide) rfl (Nat.le_of_ble_eq_true rfl) rfl rfl ?_
      refine Wx.run ok kX7_dimensionNone 48 1 (lv' := [(2, .inl (v2 + (1 : Int32))), (0, .inr (.inr (some v0))), (1, .inl v1)]) (st' := []) (pc' := 87) rfl ?_
      refine Wx.jump ok kX7_dimensionNone 49 (tgt := 25) rfl (by decide) ?_
      refine Wx.sub [1, 2, 0] rfl ?_
      exact hr _ _ _ _ h
set_option maxRecDepth 100000 in
set_option maxHeartbeats 4000000 in
theorem aX7_dimensionNone_l25 {X : gX} (ok : gOk X cX7_dimensionNone RX7 4 none rmX7_dimensionNone) {res : gW} (hres : gRs X none res) {F : Nat} (k90 : Nat → Int32 → gW → Option (gW)) (hk90 : ∀ (v0 : Nat) (v1 : Int32) (w : gW), k90 v0 v1 w = some res → Wx X w 0 0 90 [(0, .inr (.inr (some v0))), (1, .inl v1)] []) : ∀ (n : Nat) (v0 : Nat) (v1 : Int32) (v2 : Int32) (w : gW), mX7_dimensionNone_l25 F k90 n v0 v1 v2 w = some res → Wx X w 0 0 25 [(0, .inr (.inr (some v0))), (1, .inl v1), (2, .inl v2)] [] := by
  intro n
  induction n with
  | zero => intro v0 v1 v2 w h; cases (show (none : Option (gW)) = some res from h)
  | succ n ih =>
    intro v0 v1 v2 w h
    exact aX7_dimensionNone_h25 ok hres (F := F) (mX7_dimensionNone_l25 F k90 n) k90 ih hk90 v0 v1 v2 w h
set_option maxRecDepth 100000 in
set_option maxHeartbeats 4000000 in
theorem aX7_dimensionNone_h15 {X : gX} (ok : gOk X cX7_dimensionNone RX7 4 none rmX7_dimensionNone) {res : gW} (hres : gRs X none res) {F : Nat} (r : Nat → Int32 → gW → Option (gW)) (k96 : Nat → gW → Option (gW)) (hr : ∀ (v0 : Nat) (v1 : Int32) (w : gW), r v0 v1 w = some res → Wx X w 0 0 15 [(0, .inr (.inr (some v0))), (1, .inl v1)] []) (hk96 : ∀ (v0 : Nat) (w : gW), k96 v0 w = some res → Wx X w 0 0 96 [(0, .inr (.inr (some v0)))] []) : ∀ (v0 : Nat) (v1 : Int32) (w : gW), mX7_dimensionNone_h15 F r k96 v0 v1 w = some res → Wx X w 0 0 15 [(0, .inr (.inr (some v0))), (1, .inl v1)] [] := by
  intro v0 v1 w h
  unfold mX7_dimensionNone_h15 at h
  refine Wx.run ok kX7_dimensionNone 9 2 (lv' := [(0, .inr (.inr (some v0))), (1, .inl v1)]) (st' := [.inr (.inr (some v0)), .inl v1]) (pc' := 17) rfl ?_
  refine Wx.getI ok kX7_dimensionNone 11 rfl lk_RX7_208_0 h (fun t17 h => ?_)
  refine Wx.icmp_ge ok kX7_dimensionNone 12 (tgt := 96) rfl (by decide) h (fun hc20 h => ?_) (fun hc20 h => ?_)
  · refine Wx.sub [0] rfl ?_
    exact hk96 _ _ h
  · refine Wx.run ok kX7_dimensionNone 13 2 (lv' := [(2, .inl (0 : Int32)), (0, .inr (.inr (some v0))), (1, .inl v1)]) (st' := []) (pc' := 25) rfl ?_
    refine Wx.sub [1, 2, 0] rfl ?_
    refine aX7_dimensionNone_l25 ok hres (F := F) _ ?_ F _ _ _ _ h
    · intro v0 v1 w h
      refine Wx.run ok kX7_dimensionNone 50 1 (lv' := [(1, .inl (v1 + (1 : Int32))), (0, .inr (.inr (some v0)))]) (st' := []) (pc' := 93) rfl ?_
      refine Wx.jump ok kX7_dimensionNone 51 (tgt := 15) rfl (by decide) ?_
      refine Wx.sub [1, 0] rfl ?_
      exact hr _ _ _ h
set_option maxRecDepth 100000 in
set_option maxHeartbeats 4000000 in
theorem aX7_dimensionNone_l15 {X : gX} (ok : gOk X cX7_dimensionNone RX7 4 none rmX7_dimensionNone) {res : gW} (hres : gRs X none res) {F : Nat} (k96 : Nat → gW → Option (gW)) (hk96 : ∀ (v0 : Nat) (w : gW), k96 v0 w = some res → Wx X w 0 0 96 [(0, .inr (.inr (some v0)))] []) : ∀ (n : Nat) (v0 : Nat) (v1 : Int32) (w : gW), mX7_dimensionNone_l15 F k96 n v0 v1 w = some res → Wx X w 0 0 15 [(0, .inr (.inr (some v0))), (1, .inl v1)] [] := by
  intro n
  induction n with
  | zero => intro v0 v1 w h; cases (show (none : Option (gW)) = some res from h)
  | succ n ih =>
    intro v0 v1 w h
    exact aX7_dimensionNone_h15 ok hres (F := F) (mX7_dimensionNone_l15 F k96 n) k96 ih hk96 v0 v1 w h
set_option maxRecDepth 100000 in
set_option maxHeartbeats 4000000 in
theorem aX7_dimensionNone (l : Launch) (G : gG) {F : Nat} {v0 : Nat} {w : gW} {res : gW} (h : mX7_dimensionNone F v0 w = some res) : gM l yX7_dimensionNone cX7_dimensionNone 4 none rmX7_dimensionNone G w (gTs [.inr (.inr (some v0))]) none res := by
  refine gM_of (y := yX7_dimensionNone) (by decide +kernel) (Nat.le_of_ble_eq_true rfl) ?_
  intro X ok hl hG hres hnm
  subst hl; subst hG
  unfold mX7_dimensionNone at h
  show Wx X w 0 0 0 [(0, .inr (.inr (some v0)))] []
  refine Wx.run ok kX7_dimensionNone 0 2 (lv' := [(0, .inr (.inr (some v0)))]) (st' := [.inl (0 : Int32), .inr (.inr (some v0))]) (pc' := 2) rfl ?_
  refine Wx.put ok kX7_dimensionNone 2 rfl lk_RX7_199_1 (gFit_i _) h (fun w2 h => ?_)
  refine Wx.run ok kX7_dimensionNone 3 2 (lv' := [(0, .inr (.inr (some v0)))]) (st' := [.inr (.inr (some v0)), .inr (.inr (some v0))]) (pc' := 7) rfl ?_
  refine Wx.getI ok kX7_dimensionNone 5 rfl lk_RX7_211_0 h (fun t7 h => ?_)
  refine Wx.put ok kX7_dimensionNone 6 rfl lk_RX7_202_1 (gFit_i _) h (fun w10 h => ?_)
  refine Wx.run ok kX7_dimensionNone 7 2 (lv' := [(1, .inl (0 : Int32)), (0, .inr (.inr (some v0)))]) (st' := []) (pc' := 15) rfl ?_
  refine Wx.sub [1, 0] rfl ?_
  refine aX7_dimensionNone_l15 ok hres (F := F) _ ?_ F _ _ _ h
  · intro v0 w h
    refine Wx.run ok kX7_dimensionNone 52 1 (lv' := [(0, .inr (.inr (some v0)))]) (st' := [.inr (.inr (some v0))]) (pc' := 97) rfl ?_
    refine Wx.getR ok kX7_dimensionNone 53 rfl lk_RX7_80_0 h (fun t97 h => ?_)
    refine Wx.run ok kX7_dimensionNone 54 2 (lv' := [(0, .inr (.inr (some v0)))]) (st' := [.inr (.inr (some v0)), .inl (0 : Int32), .inr (.inr t97)]) (pc' := 102) rfl ?_
    refine Wx.getI ok kX7_dimensionNone 56 rfl lk_RX7_211_0 h (fun t102 h => ?_)
    refine Wx.run ok kX7_dimensionNone 57 1 (lv' := [(0, .inr (.inr (some v0)))]) (st' := [.inr (.inr (some v0)), .inl t102, .inl (0 : Int32), .inr (.inr t97)]) (pc' := 106) rfl ?_
    refine Wx.getI ok kX7_dimensionNone 58 rfl lk_RX7_199_0 h (fun t106 h => ?_)
    refine Wx.run ok kX7_dimensionNone 59 1 (lv' := [(0, .inr (.inr (some v0)))]) (st' := [.inl (t102 - t106), .inl (0 : Int32), .inr (.inr t97)]) (pc' := 110) rfl ?_
    refine Wx.iast ok kX7_dimensionNone 60 rfl h (fun w110 h => ?_)
    refine Wx.run ok kX7_dimensionNone 61 1 (lv' := [(0, .inr (.inr (some v0)))]) (st' := [.inr (.inr (some v0))]) (pc' := 112) rfl ?_
    refine Wx.getR ok kX7_dimensionNone 62 rfl lk_RX7_80_0 h (fun t112 h => ?_)
    refine Wx.run ok kX7_dimensionNone 63 2 (lv' := [(0, .inr (.inr (some v0)))]) (st' := [.inr (.inr (some v0)), .inl (2 : Int32), .inr (.inr t112)]) (pc' := 117) rfl ?_
    refine Wx.getI ok kX7_dimensionNone 65 rfl lk_RX7_199_0 h (fun t117 h => ?_)
    refine Wx.iast ok kX7_dimensionNone 66 rfl h (fun w120 h => ?_)
    exact Wx.vreturn ok kX7_dimensionNone 67 rfl hres h (by decide)
set_option maxRecDepth 100000 in
set_option maxHeartbeats 4000000 in
theorem aX7_dimensionOne_h105 {X : gX} (ok : gOk X cX7_dimensionOne RX7 6 none rmX7_dimensionOne) {res : gW} (hres : gRs X none res) {F : Nat} (r : Nat → Int32 → Int32 → Int32 → Int32 → gW → Option (gW)) (k148 : Nat → Int32 → Int32 → Int32 → gW → Option (gW)) (hr : ∀ (v0 : Nat) (v1 : Int32) (v2 : Int32) (v3 : Int32) (v5 : Int32) (w : gW), r v0 v1 v2 v3 v5 w = some res → Wx X w 0 0 105 [(0, .inr (.inr (some v0))), (1, .inl v1), (2, .inl v2), (3, .inl v3), (5, .inl v5)] []) (hk148 : ∀ (v0 : Nat) (v1 : Int32) (v2 : Int32) (v3 : Int32) (w : gW), k148 v0 v1 v2 v3 w = some res → Wx X w 0 0 148 [(0, .inr (.inr (some v0))), (1, .inl v1), (2, .inl v2), (3, .inl v3)] []) : ∀ (v0 : Nat) (v1 : Int32) (v2 : Int32) (v3 : Int32) (v5 : Int32) (w : gW), mX7_dimensionOne_h105 F r k148 v0 v1 v2 v3 v5 w = some res → Wx X w 0 0 105 [(0, .inr (.inr (some v0))), (1, .inl v1), (2, .inl v2), (3, .inl v3), (5, .inl v5)] [] := by
  intro v0 v1 v2 v3 v5 w h
  unfold mX7_dimensionOne_h105 at h
  refine Wx.run ok kX7_dimensionOne 65 2 (lv' := [(0, .inr (.inr (some v0))), (1, .inl v1), (2, .inl v2), (3, .inl v3), (5, .inl v5)]) (st' := [.inr (.inr (some v0)), .inl v5]) (pc' := 108) rfl ?_
  refine Wx.getI ok kX7_dimensionOne 67 rfl lk_RX7_211_0 h (fun t108 h => ?_)
  refine Wx.icmp_ge ok kX7_dimensionOne 68 (tgt := 148) rfl (by decide) h (fun hc111 h => ?_) (fun hc111 h => ?_)
  · refine Wx.sub [0, 1, 2, 3] rfl ?_
    exact hk148 _ _ _ _ _ h
  · refine Wx.run ok kX7_dimensionOne 69 5 (lv' := [(0, .inr (.inr (some v0))), (1, .inl v1), (2, .inl v2), (3, .inl v3), (5, .inl v5)]) (st' := [.inr (.inr (some v0)), .inl (v2 - (1 : Int32)), .inr (.inr (some v0))]) (pc' := 119) rfl ?_
    refine Wx.getI ok kX7_dimensionOne 74 rfl lk_RX7_211_0 h (fun t119 h => ?_)
    refine Wx.run ok kX7_dimensionOne 75 5 (lv' := [(0, .inr (.inr (some v0))), (1, .inl v1), (2, .inl v2), (3, .inl v3), (5, .inl v5)]) (st' := [.inr (.inr (some v0)), .inr (.inr (some v0)), .inl (((v2 - (1 : Int32)) * t119) + v5), .inr (.inr (some v0))]) (pc' := 128) rfl ?_
    refine Wx.getI ok kX7_dimensionOne 80 rfl lk_RX7_214_0 h (fun t128 h => ?_)
    refine Wx.run ok kX7_dimensionOne 81 3 (lv' := [(0, .inr (.inr (some v0))), (1, .inl v1), (2, .inl v2), (3, .inl v3), (5, .inl v5)]) (st' := [.inl v5, .inl v3, .inl v1, .inl t128, .inr (.inr (some v0)), .inl (((v2 - (1 : Int32)) * t119) + v5), .inr (.inr (some v0))]) (pc' := 135) rfl ?_
    obtain ⟨a135, ha135, h⟩ := gob h
    obtain ⟨q135, hq135, h⟩ := gob h
    refine Wx.callV ok kX7_dimensionOne 84 rfl lm_RX7_193 cd_X7_matrix ha135 [.inl t128, .inl v1, .inl v3, .inl v5] (some (.inl q135.1)) (aX7_matrix _ _ hq135) (by decide) rfl (Nat.le_of_ble_eq_true rfl) rfl rfl ?_
    refine Wx.run ok kX7_dimensionOne 85 1 (lv' := [(0, .inr (.inr (some v0))), (1, .inl v1), (2, .inl v2), (3, .inl v3), (5, .inl v5)]) (st' := [.inl (-q135.1), .inl (((v2 - (1 : Int32)) * t119) + v5), .inr (.inr (some v0))]) (pc' := 139) rfl ?_
    obtain ⟨a139, ha139, h⟩ := gob h
    obtain ⟨q139, hq139, h⟩ := gob h
    refine Wx.callV ok kX7_dimensionOne 86 rfl lm_RX7_223 cd_X7_addTo ha139 [.inl (((v2 - (1 : Int32)) * t119) + v5), .inl (-q135.1)] none (aX7_addTo _ _ hq139) (by decide) rfl (Nat.le_of_ble_eq_true rfl) rfl rfl ?_
    refine Wx.run ok kX7_dimensionOne 87 1 (lv' := [(5, .inl (v5 + (1 : Int32))), (0, .inr (.inr (some v0))), (1, .inl v1), (2, .inl v2), (3, .inl v3)]) (st' := []) (pc' := 145) rfl ?_
    refine Wx.jump ok kX7_dimensionOne 88 (tgt := 105) rfl (by decide) ?_
    refine Wx.sub [1, 2, 3, 4, 0] rfl ?_
    exact hr _ _ _ _ _ _ h
set_option maxRecDepth 100000 in
set_option maxHeartbeats 4000000 in
theorem aX7_dimensionOne_l105 {X : gX} (ok : gOk X cX7_dimensionOne RX7 6 none rmX7_dimensionOne) {res : gW} (hres : gRs X none res) {F : Nat} (k148 : Nat → Int32 → Int32 → Int32 → gW → Option (gW)) (hk148 : ∀ (v0 : Nat) (v1 : Int32) (v2 : Int32) (v3 : Int32) (w : gW), k148 v0 v1 v2 v3 w = some res → Wx X w 0 0 148 [(0, .inr (.inr (some v0))), (1, .inl v1), (2, .inl v2), (3, .inl v3)] []) : ∀ (n : Nat) (v0 : Nat) (v1 : Int32) (v2 : Int32) (v3 : Int32) (v5 : Int32) (w : gW), mX7_dimensionOne_l105 F k148 n v0 v1 v2 v3 v5 w = some res → Wx X w 0 0 105 [(0, .inr (.inr (some v0))), (1, .inl v1), (2, .inl v2), (3, .inl v3), (5, .inl v5)] [] := by
  intro n
  induction n with
  | zero => intro v0 v1 v2 v3 v5 w h; cases (show (none : Option (gW)) = some res from h)
  | succ n ih =>
    intro v0 v1 v2 v3 v5 w h
    exact aX7_dimensionOne_h105 ok hres (F := F) (mX7_dimensionOne_l105 F k148 n) k148 ih hk148 v0 v1 v2 v3 v5 w h
set_option maxRecDepth 100000 in
set_option maxHeartbeats 4000000 in
theorem aX7_dimensionOne_b87 {X : gX} (ok : gOk X cX7_dimensionOne RX7 6 none rmX7_dimensionOne) {res : gW} (hres : gRs X none res) {F : Nat} (r : Nat → Int32 → Int32 → Int32 → gW → Option (gW)) (k158 : Nat → Int32 → Int32 → gW → Option (gW)) (hr : ∀ (v0 : Nat) (v1 : Int32) (v2 : Int32) (v3 : Int32) (w : gW), r v0 v1 v2 v3 w = some res → Wx X w 0 0 42 [(0, .inr (.inr (some v0))), (1, .inl v1), (2, .inl v2), (3, .inl v3)] []) (hk158 : ∀ (v0 : Nat) (v1 : Int32) (v2 : Int32) (w : gW), k158 v0 v1 v2 w = some res → Wx X w 0 0 158 [(0, .inr (.inr (some v0))), (1, .inl v1), (2, .inl v2)] []) : ∀ (v0 : Nat) (v1 : Int32) (v2 : Int32) (v3 : Int32) (w : gW), mX7_dimensionOne_b87 F r k158 v0 v1 v2 v3 w = some res → Wx X w 0 0 87 [(0, .inr (.inr (some v0))), (1, .inl v1), (2, .inl v2), (3, .inl v3)] [] := by
  intro v0 v1 v2 v3 w h
  unfold mX7_dimensionOne_b87 at h
  refine Wx.run ok kX7_dimensionOne 52 5 (lv' := [(0, .inr (.inr (some v0))), (1, .inl v1), (2, .inl v2), (3, .inl v3)]) (st' := [.inr (.inr (some v0)), .inl (v1 - (1 : Int32)), .inr (.inr (some v0))]) (pc' := 92) rfl ?_
  refine Wx.getI ok kX7_dimensionOne 57 rfl lk_RX7_211_0 h (fun t92 h => ?_)
  refine Wx.run ok kX7_dimensionOne 58 4 (lv' := [(0, .inr (.inr (some v0))), (1, .inl v1), (2, .inl v2), (3, .inl v3)]) (st' := [.inl (-1 : Int32), .inl (((v1 - (1 : Int32)) * t92) + v3), .inr (.inr (some v0))]) (pc' := 99) rfl ?_
  obtain ⟨a99, ha99, h⟩ := gob h
  obtain ⟨q99, hq99, h⟩ := gob h
  refine Wx.callV ok kX7_dimensionOne 62 rfl lm_RX7_223 cd_X7_addTo ha99 [.inl (((v1 - (1 : Int32)) * t92) + v3), .inl (-1 : Int32)] none (aX7_addTo _ _ hq99) (by decide) rfl (Nat.le_of_ble_eq_true rfl) rfl rfl ?_
  refine Wx.run ok kX7_dimensionOne 63 2 (lv' := [(5, .inl (0 : Int32)), (0, .inr (.inr (some v0))), (1, .inl v1), (2, .inl v2), (3, .inl v3)]) (st' := []) (pc' := 105) rfl ?_
  refine Wx.sub [1, 2, 3, 4, 0] rfl ?_
  refine aX7_dimensionOne_l105 ok hres (F := F) _ ?_ F _ _ _ _ _ _ h
  · intro v0 v1 v2 v3 w h
    refine Wx.run ok kX7_dimensionOne 89 1 (lv' := [(0, .inr (.inr (some v0))), (1, .inl v1), (2, .inl v2), (3, .inl v3)]) (st' := [.inr (.inr (some v0))]) (pc' := 149) rfl ?_
    obtain ⟨a149, ha149, h⟩ := gob h
    obtain ⟨q149, hq149, h⟩ := gob h
    refine Wx.callV ok kX7_dimensionOne 90 rfl lm_RX7_226 cd_X7_settles ha149 [] none (aX7_settles _ _ hq149) (by decide) rfl (Nat.le_of_ble_eq_true rfl) rfl rfl ?_
    refine Wx.run ok kX7_dimensionOne 91 1 (lv' := [(3, .inl (v3 + (1 : Int32))), (0, .inr (.inr (some v0))), (1, .inl v1), (2, .inl v2)]) (st' := []) (pc' := 155) rfl ?_
    refine Wx.jump ok kX7_dimensionOne 92 (tgt := 42) rfl (by decide) ?_
    refine Wx.sub [1, 2, 3, 0] rfl ?_
    exact hr _ _ _ _ _ h
set_option maxRecDepth 100000 in
set_option maxHeartbeats 4000000 in
theorem aX7_dimensionOne_h42 {X : gX} (ok : gOk X cX7_dimensionOne RX7 6 none rmX7_dimensionOne) {res : gW} (hres : gRs X none res) {F : Nat} (r : Nat → Int32 → Int32 → Int32 → gW → Option (gW)) (k158 : Nat → Int32 → Int32 → gW → Option (gW)) (hr : ∀ (v0 : Nat) (v1 : Int32) (v2 : Int32) (v3 : Int32) (w : gW), r v0 v1 v2 v3 w = some res → Wx X w 0 0 42 [(0, .inr (.inr (some v0))), (1, .inl v1), (2, .inl v2), (3, .inl v3)] []) (hk158 : ∀ (v0 : Nat) (v1 : Int32) (v2 : Int32) (w : gW), k158 v0 v1 v2 w = some res → Wx X w 0 0 158 [(0, .inr (.inr (some v0))), (1, .inl v1), (2, .inl v2)] []) : ∀ (v0 : Nat) (v1 : Int32) (v2 : Int32) (v3 : Int32) (w : gW), mX7_dimensionOne_h42 F r k158 v0 v1 v2 v3 w = some res → Wx X w 0 0 42 [(0, .inr (.inr (some v0))), (1, .inl v1), (2, .inl v2), (3, .inl v3)] [] := by
  intro v0 v1 v2 v3 w h
  unfold mX7_dimensionOne_h42 at h
  refine Wx.run ok kX7_dimensionOne 26 2 (lv' := [(0, .inr (.inr (some v0))), (1, .inl v1), (2, .inl v2), (3, .inl v3)]) (st' := [.inr (.inr (some v0)), .inl v3]) (pc' := 44) rfl ?_
  refine Wx.getI ok kX7_dimensionOne 28 rfl lk_RX7_211_0 h (fun t44 h => ?_)
  refine Wx.icmp_ge ok kX7_dimensionOne 29 (tgt := 158) rfl (by decide) h (fun hc47 h => ?_) (fun hc47 h => ?_)
  · refine Wx.sub [0, 1, 2] rfl ?_
    exact hk158 _ _ _ _ h
  · refine Wx.run ok kX7_dimensionOne 30 1 (lv' := [(0, .inr (.inr (some v0))), (1, .inl v1), (2, .inl v2), (3, .inl v3)]) (st' := [.inr (.inr (some v0))]) (pc' := 51) rfl ?_
    obtain ⟨a51, ha51, h⟩ := gob h
    obtain ⟨q51, hq51, h⟩ := gob h
    refine Wx.callV ok kX7_dimensionOne 31 rfl lm_RX7_220 cd_X7_clearLine ha51 [] none (aX7_clearLine _ _ hq51) (by decide) rfl (Nat.le_of_ble_eq_true rfl) rfl rfl ?_
    refine Wx.run ok kX7_dimensionOne 32 2 (lv' := [(0, .inr (.inr (some v0))), (1, .inl v1), (2, .inl v2), (3, .inl v3)]) (st' := [.inr (.inr (some v0)), .inr (.inr (some v0))]) (pc' := 56) rfl ?_
    refine Wx.getI ok kX7_dimensionOne 34 rfl lk_RX7_217_0 h (fun t56 h => ?_)
    refine Wx.run ok kX7_dimensionOne 35 2 (lv' := [(0, .inr (.inr (some v0))), (1, .inl v1), (2, .inl v2), (3, .inl v3)]) (st' := [.inl v2, .inl v1, .inl t56, .inr (.inr (some v0))]) (pc' := 61) rfl ?_
    obtain ⟨a61, ha61, h⟩ := gob h
    obtain ⟨q61, hq61, h⟩ := gob h
    refine Wx.callV ok kX7_dimensionOne 37 rfl lm_RX7_118 cd_X7_prod ha61 [.inl t56, .inl v1, .inl v2] (some (.inl q61.1)) (aX7_prod _ _ hq61) (by decide) rfl (Nat.le_of_ble_eq_true rfl) rfl rfl ?_
    refine Wx.run ok kX7_dimensionOne 38 2 (lv' := [(4, .inl q61.1), (0, .inr (.inr (some v0))), (1, .inl v1), (2, .inl v2), (3, .inl v3)]) (st' := [.inl q61.1]) (pc' := 68) rfl ?_
    refine Wx.if_le ok kX7_dimensionOne 40 (tgt := 87) rfl (by decide) h (fun hc68 h => ?_) (fun hc68 h => ?_)
    · refine Wx.sub [1, 2, 3, 4] rfl ?_
      exact aX7_dimensionOne_b87 ok hres (F := F) r k158 hr hk158 _ _ _ _ _ h
    · refine Wx.run ok kX7_dimensionOne 41 5 (lv' := [(4, .inl q61.1), (0, .inr (.inr (some v0))), (1, .inl v1), (2, .inl v2), (3, .inl v3)]) (st' := [.inr (.inr (some v0)), .inl (q61.1 - (1 : Int32)), .inr (.inr (some v0))]) (pc' := 77) rfl ?_
      refine Wx.getI ok kX7_dimensionOne 46 rfl lk_RX7_211_0 h (fun t77 h => ?_)
      refine Wx.run ok kX7_dimensionOne 47 4 (lv' := [(4, .inl q61.1), (0, .inr (.inr (some v0))), (1, .inl v1), (2, .inl v2), (3, .inl v3)]) (st' := [.inl (1 : Int32), .inl (((q61.1 - (1 : Int32)) * t77) + v3), .inr (.inr (some v0))]) (pc' := 84) rfl ?_
      obtain ⟨a84, ha84, h⟩ := gob h
      obtain ⟨q84, hq84, h⟩ := gob h
      refine Wx.callV ok kX7_dimensionOne 51 rfl lm_RX7_223 cd_X7_addTo ha84 [.inl (((q61.1 - (1 : Int32)) * t77) + v3), .inl (1 : Int32)] none (aX7_addTo _ _ hq84) (by decide) rfl (Nat.le_of_ble_eq_true rfl) rfl rfl ?_
      refine Wx.sub [1, 2, 3, 4] rfl ?_
      exact aX7_dimensionOne_b87 ok hres (F := F) r k158 hr hk158 _ _ _ _ _ h
set_option maxRecDepth 100000 in
set_option maxHeartbeats 4000000 in
theorem aX7_dimensionOne_l42 {X : gX} (ok : gOk X cX7_dimensionOne RX7 6 none rmX7_dimensionOne) {res : gW} (hres : gRs X none res) {F : Nat} (k158 : Nat → Int32 → Int32 → gW → Option (gW)) (hk158 : ∀ (v0 : Nat) (v1 : Int32) (v2 : Int32) (w : gW), k158 v0 v1 v2 w = some res → Wx X w 0 0 158 [(0, .inr (.inr (some v0))), (1, .inl v1), (2, .inl v2)] []) : ∀ (n : Nat) (v0 : Nat) (v1 : Int32) (v2 : Int32) (v3 : Int32) (w : gW), mX7_dimensionOne_l42 F k158 n v0 v1 v2 v3 w = some res → Wx X w 0 0 42 [(0, .inr (.inr (some v0))), (1, .inl v1), (2, .inl v2), (3, .inl v3)] [] := by
  intro n
  induction n with
  | zero => intro v0 v1 v2 v3 w h; cases (show (none : Option (gW)) = some res from h)
  | succ n ih =>
    intro v0 v1 v2 v3 w h
    exact aX7_dimensionOne_h42 ok hres (F := F) (mX7_dimensionOne_l42 F k158 n) k158 ih hk158 v0 v1 v2 v3 w h
set_option maxRecDepth 100000 in
set_option maxHeartbeats 4000000 in
theorem aX7_dimensionOne_h32 {X : gX} (ok : gOk X cX7_dimensionOne RX7 6 none rmX7_dimensionOne) {res : gW} (hres : gRs X none res) {F : Nat} (r : Nat → Int32 → Int32 → gW → Option (gW)) (k164 : Nat → Int32 → gW → Option (gW)) (hr : ∀ (v0 : Nat) (v1 : Int32) (v2 : Int32) (w : gW), r v0 v1 v2 w = some res → Wx X w 0 0 32 [(0, .inr (.inr (some v0))), (1, .inl v1), (2, .inl v2)] []) (hk164 : ∀ (v0 : Nat) (v1 : Int32) (w : gW), k164 v0 v1 w = some res → Wx X w 0 0 164 [(0, .inr (.inr (some v0))), (1, .inl v1)] []) : ∀ (v0 : Nat) (v1 : Int32) (v2 : Int32) (w : gW), mX7_dimensionOne_h32 F r k164 v0 v1 v2 w = some res → Wx X w 0 0 32 [(0, .inr (.inr (some v0))), (1, .inl v1), (2, .inl v2)] [] := by
  intro v0 v1 v2 w h
  unfold mX7_dimensionOne_h32 at h
  refine Wx.run ok kX7_dimensionOne 20 2 (lv' := [(0, .inr (.inr (some v0))), (1, .inl v1), (2, .inl v2)]) (st' := [.inr (.inr (some v0)), .inl v2]) (pc' := 34) rfl ?_
  refine Wx.getI ok kX7_dimensionOne 22 rfl lk_RX7_208_0 h (fun t34 h => ?_)
  refine Wx.icmp_ge ok kX7_dimensionOne 23 (tgt := 164) rfl (by decide) h (fun hc37 h => ?_) (fun hc37 h => ?_)
  · refine Wx.sub [0, 1] rfl ?_
    exact hk164 _ _ _ h
  · refine Wx.run ok kX7_dimensionOne 24 2 (lv' := [(3, .inl (0 : Int32)), (0, .inr (.inr (some v0))), (1, .inl v1), (2, .inl v2)]) (st' := []) (pc' := 42) rfl ?_
    refine Wx.sub [1, 2, 3, 0] rfl ?_
    refine aX7_dimensionOne_l42 ok hres (F := F) _ ?_ F _ _ _ _ _ h
    · intro v0 v1 v2 w h
      refine Wx.run ok kX7_dimensionOne 93 1 (lv' := [(2, .inl (v2 + (1 : Int32))), (0, .inr (.inr (some v0))), (1, .inl v1)]) (st' := []) (pc' := 161) rfl ?_
      refine Wx.jump ok kX7_dimensionOne 94 (tgt := 32) rfl (by decide) ?_
      refine Wx.sub [1, 2, 0] rfl ?_
      exact hr _ _ _ _ h
set_option maxRecDepth 100000 in
set_option maxHeartbeats 4000000 in
theorem aX7_dimensionOne_l32 {X : gX} (ok : gOk X cX7_dimensionOne RX7 6 none rmX7_dimensionOne) {res : gW} (hres : gRs X none res) {F : Nat} (k164 : Nat → Int32 → gW → Option (gW)) (hk164 : ∀ (v0 : Nat) (v1 : Int32) (w : gW), k164 v0 v1 w = some res → Wx X w 0 0 164 [(0, .inr (.inr (some v0))), (1, .inl v1)] []) : ∀ (n : Nat) (v0 : Nat) (v1 : Int32) (v2 : Int32) (w : gW), mX7_dimensionOne_l32 F k164 n v0 v1 v2 w = some res → Wx X w 0 0 32 [(0, .inr (.inr (some v0))), (1, .inl v1), (2, .inl v2)] [] := by
  intro n
  induction n with
  | zero => intro v0 v1 v2 w h; cases (show (none : Option (gW)) = some res from h)
  | succ n ih =>
    intro v0 v1 v2 w h
    exact aX7_dimensionOne_h32 ok hres (F := F) (mX7_dimensionOne_l32 F k164 n) k164 ih hk164 v0 v1 v2 w h
set_option maxRecDepth 100000 in
set_option maxHeartbeats 4000000 in
theorem aX7_dimensionOne_h22 {X : gX} (ok : gOk X cX7_dimensionOne RX7 6 none rmX7_dimensionOne) {res : gW} (hres : gRs X none res) {F : Nat} (r : Nat → Int32 → gW → Option (gW)) (k170 : Nat → gW → Option (gW)) (hr : ∀ (v0 : Nat) (v1 : Int32) (w : gW), r v0 v1 w = some res → Wx X w 0 0 22 [(0, .inr (.inr (some v0))), (1, .inl v1)] []) (hk170 : ∀ (v0 : Nat) (w : gW), k170 v0 w = some res → Wx X w 0 0 170 [(0, .inr (.inr (some v0)))] []) : ∀ (v0 : Nat) (v1 : Int32) (w : gW), mX7_dimensionOne_h22 F r k170 v0 v1 w = some res → Wx X w 0 0 22 [(0, .inr (.inr (some v0))), (1, .inl v1)] [] := by
  intro v0 v1 w h
  unfold mX7_dimensionOne_h22 at h
  refine Wx.run ok kX7_dimensionOne 14 2 (lv' := [(0, .inr (.inr (some v0))), (1, .inl v1)]) (st' := [.inr (.inr (some v0)), .inl v1]) (pc' := 24) rfl ?_
  refine Wx.getI ok kX7_dimensionOne 16 rfl lk_RX7_208_0 h (fun t24 h => ?_)
  refine Wx.icmp_ge ok kX7_dimensionOne 17 (tgt := 170) rfl (by decide) h (fun hc27 h => ?_) (fun hc27 h => ?_)
  · refine Wx.sub [0] rfl ?_
    exact hk170 _ _ h
  · refine Wx.run ok kX7_dimensionOne 18 2 (lv' := [(2, .inl (1 : Int32)), (0, .inr (.inr (some v0))), (1, .inl v1)]) (st' := []) (pc' := 32) rfl ?_
    refine Wx.sub [1, 2, 0] rfl ?_
    refine aX7_dimensionOne_l32 ok hres (F := F) _ ?_ F _ _ _ _ h
    · intro v0 v1 w h
      refine Wx.run ok kX7_dimensionOne 95 1 (lv' := [(1, .inl (v1 + (1 : Int32))), (0, .inr (.inr (some v0)))]) (st' := []) (pc' := 167) rfl ?_
      refine Wx.jump ok kX7_dimensionOne 96 (tgt := 22) rfl (by decide) ?_
      refine Wx.sub [1, 0] rfl ?_
      exact hr _ _ _ h
set_option maxRecDepth 100000 in
set_option maxHeartbeats 4000000 in
theorem aX7_dimensionOne_l22 {X : gX} (ok : gOk X cX7_dimensionOne RX7 6 none rmX7_dimensionOne) {res : gW} (hres : gRs X none res) {F : Nat} (k170 : Nat → gW → Option (gW)) (hk170 : ∀ (v0 : Nat) (w : gW), k170 v0 w = some res → Wx X w 0 0 170 [(0, .inr (.inr (some v0)))] []) : ∀ (n : Nat) (v0 : Nat) (v1 : Int32) (w : gW), mX7_dimensionOne_l22 F k170 n v0 v1 w = some res → Wx X w 0 0 22 [(0, .inr (.inr (some v0))), (1, .inl v1)] [] := by
  intro n
  induction n with
  | zero => intro v0 v1 w h; cases (show (none : Option (gW)) = some res from h)
  | succ n ih =>
    intro v0 v1 w h
    exact aX7_dimensionOne_h22 ok hres (F := F) (mX7_dimensionOne_l22 F k170 n) k170 ih hk170 v0 v1 w h
set_option maxRecDepth 100000 in
set_option maxHeartbeats 4000000 in
theorem aX7_dimensionOne (l : Launch) (G : gG) {F : Nat} {v0 : Nat} {w : gW} {res : gW} (h : mX7_dimensionOne F v0 w = some res) : gM l yX7_dimensionOne cX7_dimensionOne 6 none rmX7_dimensionOne G w (gTs [.inr (.inr (some v0))]) none res := by
  refine gM_of (y := yX7_dimensionOne) (by decide +kernel) (Nat.le_of_ble_eq_true rfl) ?_
  intro X ok hl hG hres hnm
  subst hl; subst hG
  unfold mX7_dimensionOne at h
  show Wx X w 0 0 0 [(0, .inr (.inr (some v0)))] []
  refine Wx.run ok kX7_dimensionOne 0 2 (lv' := [(0, .inr (.inr (some v0)))]) (st' := [.inl (0 : Int32), .inr (.inr (some v0))]) (pc' := 2) rfl ?_
  refine Wx.put ok kX7_dimensionOne 2 rfl lk_RX7_199_1 (gFit_i _) h (fun w2 h => ?_)
  refine Wx.run ok kX7_dimensionOne 3 2 (lv' := [(0, .inr (.inr (some v0)))]) (st' := [.inr (.inr (some v0)), .inr (.inr (some v0))]) (pc' := 7) rfl ?_
  refine Wx.getI ok kX7_dimensionOne 5 rfl lk_RX7_208_0 h (fun t7 h => ?_)
  refine Wx.run ok kX7_dimensionOne 6 3 (lv' := [(0, .inr (.inr (some v0)))]) (st' := [.inr (.inr (some v0)), .inl (t7 - (1 : Int32)), .inr (.inr (some v0))]) (pc' := 13) rfl ?_
  refine Wx.getI ok kX7_dimensionOne 9 rfl lk_RX7_211_0 h (fun t13 h => ?_)
  refine Wx.run ok kX7_dimensionOne 10 1 (lv' := [(0, .inr (.inr (some v0)))]) (st' := [.inl ((t7 - (1 : Int32)) * t13), .inr (.inr (some v0))]) (pc' := 17) rfl ?_
  refine Wx.put ok kX7_dimensionOne 11 rfl lk_RX7_202_1 (gFit_i _) h (fun w17 h => ?_)
  refine Wx.run ok kX7_dimensionOne 12 2 (lv' := [(1, .inl (1 : Int32)), (0, .inr (.inr (some v0)))]) (st' := []) (pc' := 22) rfl ?_
  refine Wx.sub [1, 0] rfl ?_
  refine aX7_dimensionOne_l22 ok hres (F := F) _ ?_ F _ _ _ h
  · intro v0 w h
    refine Wx.run ok kX7_dimensionOne 97 1 (lv' := [(0, .inr (.inr (some v0)))]) (st' := [.inr (.inr (some v0))]) (pc' := 171) rfl ?_
    refine Wx.getR ok kX7_dimensionOne 98 rfl lk_RX7_80_0 h (fun t171 h => ?_)
    refine Wx.run ok kX7_dimensionOne 99 2 (lv' := [(0, .inr (.inr (some v0)))]) (st' := [.inr (.inr (some v0)), .inl (1 : Int32), .inr (.inr t171)]) (pc' := 176) rfl ?_
    refine Wx.getI ok kX7_dimensionOne 101 rfl lk_RX7_202_0 h (fun t176 h => ?_)
    refine Wx.run ok kX7_dimensionOne 102 1 (lv' := [(0, .inr (.inr (some v0)))]) (st' := [.inr (.inr (some v0)), .inl t176, .inl (1 : Int32), .inr (.inr t171)]) (pc' := 180) rfl ?_
    refine Wx.getI ok kX7_dimensionOne 103 rfl lk_RX7_199_0 h (fun t180 h => ?_)
    refine Wx.run ok kX7_dimensionOne 104 1 (lv' := [(0, .inr (.inr (some v0)))]) (st' := [.inl (t176 - t180), .inl (1 : Int32), .inr (.inr t171)]) (pc' := 184) rfl ?_
    refine Wx.iast ok kX7_dimensionOne 105 rfl h (fun w184 h => ?_)
    exact Wx.vreturn ok kX7_dimensionOne 106 rfl hres h (by decide)
set_option maxRecDepth 100000 in
set_option maxHeartbeats 4000000 in
theorem aX7_isCocycle_h97 {X : gX} (ok : gOk X cX7_isCocycle RX7 8 (some .boolean) rmX7_isCocycle) {res : Int32 × gW} (hres : gRs X (some (.int res.1)) res.2) {F : Nat} (r : Nat → Int32 → Int32 → Int32 → Int32 → Int32 → Int32 → Int32 → gW → Option (Int32 × gW)) (k140 : Nat → Int32 → Int32 → Int32 → Int32 → Int32 → Int32 → gW → Option (Int32 × gW)) (hr : ∀ (v0 : Nat) (v1 : Int32) (v2 : Int32) (v3 : Int32) (v4 : Int32) (v5 : Int32) (v6 : Int32) (v7 : Int32) (w : gW), r v0 v1 v2 v3 v4 v5 v6 v7 w = some res → Wx X w 0 0 97 [(0, .inr (.inr (some v0))), (1, .inl v1), (2, .inl v2), (3, .inl v3), (4, .inl v4), (5, .inl v5), (6, .inl v6), (7, .inl v7)] []) (hk140 : ∀ (v0 : Nat) (v1 : Int32) (v2 : Int32) (v3 : Int32) (v4 : Int32) (v5 : Int32) (v6 : Int32) (w : gW), k140 v0 v1 v2 v3 v4 v5 v6 w = some res → Wx X w 0 0 140 [(0, .inr (.inr (some v0))), (1, .inl v1), (2, .inl v2), (3, .inl v3), (4, .inl v4), (5, .inl v5), (6, .inl v6)] []) : ∀ (v0 : Nat) (v1 : Int32) (v2 : Int32) (v3 : Int32) (v4 : Int32) (v5 : Int32) (v6 : Int32) (v7 : Int32) (w : gW), mX7_isCocycle_h97 F r k140 v0 v1 v2 v3 v4 v5 v6 v7 w = some res → Wx X w 0 0 97 [(0, .inr (.inr (some v0))), (1, .inl v1), (2, .inl v2), (3, .inl v3), (4, .inl v4), (5, .inl v5), (6, .inl v6), (7, .inl v7)] [] := by
  intro v0 v1 v2 v3 v4 v5 v6 v7 w h
  unfold mX7_isCocycle_h97 at h
  refine Wx.run ok kX7_isCocycle 56 2 (lv' := [(0, .inr (.inr (some v0))), (1, .inl v1), (2, .inl v2), (3, .inl v3), (4, .inl v4), (5, .inl v5), (6, .inl v6), (7, .inl v7)]) (st' := [.inr (.inr (some v0)), .inl v7]) (pc' := 100) rfl ?_
  refine Wx.getI ok kX7_isCocycle 58 rfl lk_RX7_211_0 h (fun t100 h => ?_)
  refine Wx.icmp_ge ok kX7_isCocycle 59 (tgt := 140) rfl (by decide) h (fun hc103 h => ?_) (fun hc103 h => ?_)
  · refine Wx.sub [0, 1, 2, 3, 4, 5, 6] rfl ?_
    exact hk140 _ _ _ _ _ _ _ _ h
  · refine Wx.run ok kX7_isCocycle 60 3 (lv' := [(0, .inr (.inr (some v0))), (1, .inl v1), (2, .inl v2), (3, .inl v3), (4, .inl v4), (5, .inl v5), (6, .inl v6), (7, .inl v7)]) (st' := [.inr (.inr (some v0)), .inr (.inr (some v0)), .inl v6]) (pc' := 110) rfl ?_
    refine Wx.getI ok kX7_isCocycle 63 rfl lk_RX7_214_0 h (fun t110 h => ?_)
    refine Wx.run ok kX7_isCocycle 64 3 (lv' := [(0, .inr (.inr (some v0))), (1, .inl v1), (2, .inl v2), (3, .inl v3), (4, .inl v4), (5, .inl v5), (6, .inl v6), (7, .inl v7)]) (st' := [.inl v7, .inl v5, .inl v2, .inl t110, .inr (.inr (some v0)), .inl v6]) (pc' := 118) rfl ?_
    obtain ⟨a118, ha118, h⟩ := gob h
    obtain ⟨q118, hq118, h⟩ := gob h
    refine Wx.callV ok kX7_isCocycle 67 rfl lm_RX7_193 cd_X7_matrix ha118 [.inl t110, .inl v2, .inl v5, .inl v7] (some (.inl q118.1)) (aX7_matrix _ _ hq118) (by decide) rfl (Nat.le_of_ble_eq_true rfl) rfl rfl ?_
    refine Wx.run ok kX7_isCocycle 68 4 (lv' := [(0, .inr (.inr (some v0))), (1, .inl v1), (2, .inl v2), (3, .inl v3), (4, .inl v4), (5, .inl v5), (6, .inl v6), (7, .inl v7)]) (st' := [.inl v7, .inl v4, .inl v3, .inr (.inr (some v0)), .inl q118.1, .inl v6]) (pc' := 127) rfl ?_
    obtain ⟨a127, ha127, h⟩ := gob h
    obtain ⟨q127, hq127, h⟩ := gob h
    refine Wx.callV ok kX7_isCocycle 72 rfl lm_RX7_275 cd_X7_twisted ha127 [.inl v3, .inl v4, .inl v7] (some (.inl q127.1)) (aX7_twisted _ _ hq127) (by decide) rfl (Nat.le_of_ble_eq_true rfl) rfl rfl ?_
    refine Wx.run ok kX7_isCocycle 73 4 (lv' := [(7, .inl (v7 + (1 : Int32))), (6, .inl (v6 + (q118.1 * q127.1))), (0, .inr (.inr (some v0))), (1, .inl v1), (2, .inl v2), (3, .inl v3), (4, .inl v4), (5, .inl v5)]) (st' := []) (pc' := 137) rfl ?_
    refine Wx.jump ok kX7_isCocycle 77 (tgt := 97) rfl (by decide) ?_
    refine Wx.sub [2, 3, 4, 5, 6, 7, 1, 0] rfl ?_
    exact hr _ _ _ _ _ _ _ _ _ h
set_option maxRecDepth 100000 in
set_option maxHeartbeats 4000000 in
theorem aX7_isCocycle_l97 {X : gX} (ok : gOk X cX7_isCocycle RX7 8 (some .boolean) rmX7_isCocycle) {res : Int32 × gW} (hres : gRs X (some (.int res.1)) res.2) {F : Nat} (k140 : Nat → Int32 → Int32 → Int32 → Int32 → Int32 → Int32 → gW → Option (Int32 × gW)) (hk140 : ∀ (v0 : Nat) (v1 : Int32) (v2 : Int32) (v3 : Int32) (v4 : Int32) (v5 : Int32) (v6 : Int32) (w : gW), k140 v0 v1 v2 v3 v4 v5 v6 w = some res → Wx X w 0 0 140 [(0, .inr (.inr (some v0))), (1, .inl v1), (2, .inl v2), (3, .inl v3), (4, .inl v4), (5, .inl v5), (6, .inl v6)] []) : ∀ (n : Nat) (v0 : Nat) (v1 : Int32) (v2 : Int32) (v3 : Int32) (v4 : Int32) (v5 : Int32) (v6 : Int32) (v7 : Int32) (w : gW), mX7_isCocycle_l97 F k140 n v0 v1 v2 v3 v4 v5 v6 v7 w = some res → Wx X w 0 0 97 [(0, .inr (.inr (some v0))), (1, .inl v1), (2, .inl v2), (3, .inl v3), (4, .inl v4), (5, .inl v5), (6, .inl v6), (7, .inl v7)] [] := by
  intro n
  induction n with
  | zero => intro v0 v1 v2 v3 v4 v5 v6 v7 w h; cases (show (none : Option (Int32 × gW)) = some res from h)
  | succ n ih =>
    intro v0 v1 v2 v3 v4 v5 v6 v7 w h
    exact aX7_isCocycle_h97 ok hres (F := F) (mX7_isCocycle_l97 F k140 n) k140 ih hk140 v0 v1 v2 v3 v4 v5 v6 v7 w h
set_option maxRecDepth 100000 in
set_option maxHeartbeats 4000000 in
theorem aX7_isCocycle_b159 {X : gX} (ok : gOk X cX7_isCocycle RX7 8 (some .boolean) rmX7_isCocycle) {res : Int32 × gW} (hres : gRs X (some (.int res.1)) res.2) {F : Nat} (r : Nat → Int32 → Int32 → Int32 → Int32 → Int32 → gW → Option (Int32 × gW)) (k166 : Nat → Int32 → Int32 → Int32 → Int32 → gW → Option (Int32 × gW)) (hr : ∀ (v0 : Nat) (v1 : Int32) (v2 : Int32) (v3 : Int32) (v4 : Int32) (v5 : Int32) (w : gW), r v0 v1 v2 v3 v4 v5 w = some res → Wx X w 0 0 37 [(0, .inr (.inr (some v0))), (1, .inl v1), (2, .inl v2), (3, .inl v3), (4, .inl v4), (5, .inl v5)] []) (hk166 : ∀ (v0 : Nat) (v1 : Int32) (v2 : Int32) (v3 : Int32) (v4 : Int32) (w : gW), k166 v0 v1 v2 v3 v4 w = some res → Wx X w 0 0 166 [(0, .inr (.inr (some v0))), (1, .inl v1), (2, .inl v2), (3, .inl v3), (4, .inl v4)] []) : ∀ (v0 : Nat) (v2 : Int32) (v3 : Int32) (v4 : Int32) (v5 : Int32) (s0 : Int32) (w : gW), mX7_isCocycle_b159 F r k166 v0 v2 v3 v4 v5 s0 w = some res → Wx X w 0 0 159 [(0, .inr (.inr (some v0))), (2, .inl v2), (3, .inl v3), (4, .inl v4), (5, .inl v5)] [.inl s0] := by
  intro v0 v2 v3 v4 v5 s0 w h
  unfold mX7_isCocycle_b159 at h
  refine Wx.run ok kX7_isCocycle 88 2 (lv' := [(5, .inl (v5 + (1 : Int32))), (1, .inl s0), (0, .inr (.inr (some v0))), (2, .inl v2), (3, .inl v3), (4, .inl v4)]) (st' := []) (pc' := 163) rfl ?_
  refine Wx.jump ok kX7_isCocycle 90 (tgt := 37) rfl (by decide) ?_
  refine Wx.sub [2, 1, 3, 4, 5, 0] rfl ?_
  exact hr _ _ _ _ _ _ _ h
set_option maxRecDepth 100000 in
set_option maxHeartbeats 4000000 in
theorem aX7_isCocycle_b158 {X : gX} (ok : gOk X cX7_isCocycle RX7 8 (some .boolean) rmX7_isCocycle) {res : Int32 × gW} (hres : gRs X (some (.int res.1)) res.2) {F : Nat} (r : Nat → Int32 → Int32 → Int32 → Int32 → Int32 → gW → Option (Int32 × gW)) (k166 : Nat → Int32 → Int32 → Int32 → Int32 → gW → Option (Int32 × gW)) (hr : ∀ (v0 : Nat) (v1 : Int32) (v2 : Int32) (v3 : Int32) (v4 : Int32) (v5 : Int32) (w : gW), r v0 v1 v2 v3 v4 v5 w = some res → Wx X w 0 0 37 [(0, .inr (.inr (some v0))), (1, .inl v1), (2, .inl v2), (3, .inl v3), (4, .inl v4), (5, .inl v5)] []) (hk166 : ∀ (v0 : Nat) (v1 : Int32) (v2 : Int32) (v3 : Int32) (v4 : Int32) (w : gW), k166 v0 v1 v2 v3 v4 w = some res → Wx X w 0 0 166 [(0, .inr (.inr (some v0))), (1, .inl v1), (2, .inl v2), (3, .inl v3), (4, .inl v4)] []) : ∀ (v0 : Nat) (v2 : Int32) (v3 : Int32) (v4 : Int32) (v5 : Int32) (w : gW), mX7_isCocycle_b158 F r k166 v0 v2 v3 v4 v5 w = some res → Wx X w 0 0 158 [(0, .inr (.inr (some v0))), (2, .inl v2), (3, .inl v3), (4, .inl v4), (5, .inl v5)] [] := by
  intro v0 v2 v3 v4 v5 w h
  unfold mX7_isCocycle_b158 at h
  refine Wx.run ok kX7_isCocycle 87 1 (lv' := [(0, .inr (.inr (some v0))), (2, .inl v2), (3, .inl v3), (4, .inl v4), (5, .inl v5)]) (st' := [.inl (0 : Int32)]) (pc' := 159) rfl ?_
  exact aX7_isCocycle_b159 ok hres (F := F) r k166 hr hk166 _ _ _ _ _ _ _ h
set_option maxRecDepth 100000 in
set_option maxHeartbeats 4000000 in
theorem aX7_isCocycle_h37 {X : gX} (ok : gOk X cX7_isCocycle RX7 8 (some .boolean) rmX7_isCocycle) {res : Int32 × gW} (hres : gRs X (some (.int res.1)) res.2) {F : Nat} (r : Nat → Int32 → Int32 → Int32 → Int32 → Int32 → gW → Option (Int32 × gW)) (k166 : Nat → Int32 → Int32 → Int32 → Int32 → gW → Option (Int32 × gW)) (hr : ∀ (v0 : Nat) (v1 : Int32) (v2 : Int32) (v3 : Int32) (v4 : Int32) (v5 : Int32) (w : gW), r v0 v1 v2 v3 v4 v5 w = some res → Wx X w 0 0 37 [(0, .inr (.inr (some v0))), (1, .inl v1), (2, .inl v2), (3, .inl v3), (4, .inl v4), (5, .inl v5)] []) (hk166 : ∀ (v0 : Nat) (v1 : Int32) (v2 : Int32) (v3 : Int32) (v4 : Int32) (w : gW), k166 v0 v1 v2 v3 v4 w = some res → Wx X w 0 0 166 [(0, .inr (.inr (some v0))), (1, .inl v1), (2, .inl v2), (3, .inl v3), (4, .inl v4)] []) : ∀ (v0 : Nat) (v1 : Int32) (v2 : Int32) (v3 : Int32) (v4 : Int32) (v5 : Int32) (w : gW), mX7_isCocycle_h37 F r k166 v0 v1 v2 v3 v4 v5 w = some res → Wx X w 0 0 37 [(0, .inr (.inr (some v0))), (1, .inl v1), (2, .inl v2), (3, .inl v3), (4, .inl v4), (5, .inl v5)] [] := by
  intro v0 v1 v2 v3 v4 v5 w h
  unfold mX7_isCocycle_h37 at h
  refine Wx.run ok kX7_isCocycle 22 2 (lv' := [(0, .inr (.inr (some v0))), (1, .inl v1), (2, .inl v2), (3, .inl v3), (4, .inl v4), (5, .inl v5)]) (st' := [.inr (.inr (some v0)), .inl v5]) (pc' := 40) rfl ?_
  refine Wx.getI ok kX7_isCocycle 24 rfl lk_RX7_211_0 h (fun t40 h => ?_)
  refine Wx.icmp_ge ok kX7_isCocycle 25 (tgt := 166) rfl (by decide) h (fun hc43 h => ?_) (fun hc43 h => ?_)
  · refine Wx.sub [0, 1, 2, 3, 4] rfl ?_
    exact hk166 _ _ _ _ _ _ h
  · refine Wx.run ok kX7_isCocycle 26 4 (lv' := [(0, .inr (.inr (some v0))), (1, .inl v1), (2, .inl v2), (3, .inl v3), (4, .inl v4), (5, .inl v5)]) (st' := [.inr (.inr (some v0)), .inr (.inr (some v0)), .inl v2, .inr (.inr (some v0))]) (pc' := 50) rfl ?_
    refine Wx.getI ok kX7_isCocycle 30 rfl lk_RX7_217_0 h (fun t50 h => ?_)
    refine Wx.run ok kX7_isCocycle 31 2 (lv' := [(0, .inr (.inr (some v0))), (1, .inl v1), (2, .inl v2), (3, .inl v3), (4, .inl v4), (5, .inl v5)]) (st' := [.inl v4, .inl v3, .inl t50, .inr (.inr (some v0)), .inl v2, .inr (.inr (some v0))]) (pc' := 56) rfl ?_
    obtain ⟨a56, ha56, h⟩ := gob h
    obtain ⟨q56, hq56, h⟩ := gob h
    refine Wx.callV ok kX7_isCocycle 33 rfl lm_RX7_118 cd_X7_prod ha56 [.inl t50, .inl v3, .inl v4] (some (.inl q56.1)) (aX7_prod _ _ hq56) (by decide) rfl (Nat.le_of_ble_eq_true rfl) rfl rfl ?_
    refine Wx.run ok kX7_isCocycle 34 1 (lv' := [(0, .inr (.inr (some v0))), (1, .inl v1), (2, .inl v2), (3, .inl v3), (4, .inl v4), (5, .inl v5)]) (st' := [.inl v5, .inl q56.1, .inl v2, .inr (.inr (some v0))]) (pc' := 61) rfl ?_
    obtain ⟨a61, ha61, h⟩ := gob h
    obtain ⟨q61, hq61, h⟩ := gob h
    refine Wx.callV ok kX7_isCocycle 35 rfl lm_RX7_275 cd_X7_twisted ha61 [.inl v2, .inl q56.1, .inl v5] (some (.inl q61.1)) (aX7_twisted _ _ hq61) (by decide) rfl (Nat.le_of_ble_eq_true rfl) rfl rfl ?_
    refine Wx.run ok kX7_isCocycle 36 3 (lv' := [(0, .inr (.inr (some v0))), (1, .inl v1), (2, .inl v2), (3, .inl v3), (4, .inl v4), (5, .inl v5)]) (st' := [.inr (.inr (some v0)), .inr (.inr (some v0)), .inr (.inr (some v0)), .inl q61.1]) (pc' := 67) rfl ?_
    refine Wx.getI ok kX7_isCocycle 39 rfl lk_RX7_217_0 h (fun t67 h => ?_)
    refine Wx.run ok kX7_isCocycle 40 2 (lv' := [(0, .inr (.inr (some v0))), (1, .inl v1), (2, .inl v2), (3, .inl v3), (4, .inl v4), (5, .inl v5)]) (st' := [.inl v3, .inl v2, .inl t67, .inr (.inr (some v0)), .inr (.inr (some v0)), .inl q61.1]) (pc' := 72) rfl ?_
    obtain ⟨a72, ha72, h⟩ := gob h
    obtain ⟨q72, hq72, h⟩ := gob h
    refine Wx.callV ok kX7_isCocycle 42 rfl lm_RX7_118 cd_X7_prod ha72 [.inl t67, .inl v2, .inl v3] (some (.inl q72.1)) (aX7_prod _ _ hq72) (by decide) rfl (Nat.le_of_ble_eq_true rfl) rfl rfl ?_
    refine Wx.run ok kX7_isCocycle 43 2 (lv' := [(0, .inr (.inr (some v0))), (1, .inl v1), (2, .inl v2), (3, .inl v3), (4, .inl v4), (5, .inl v5)]) (st' := [.inl v5, .inl v4, .inl q72.1, .inr (.inr (some v0)), .inl q61.1]) (pc' := 79) rfl ?_
    obtain ⟨a79, ha79, h⟩ := gob h
    obtain ⟨q79, hq79, h⟩ := gob h
    refine Wx.callV ok kX7_isCocycle 45 rfl lm_RX7_275 cd_X7_twisted ha79 [.inl q72.1, .inl v4, .inl v5] (some (.inl q79.1)) (aX7_twisted _ _ hq79) (by decide) rfl (Nat.le_of_ble_eq_true rfl) rfl rfl ?_
    refine Wx.run ok kX7_isCocycle 46 5 (lv' := [(0, .inr (.inr (some v0))), (1, .inl v1), (2, .inl v2), (3, .inl v3), (4, .inl v4), (5, .inl v5)]) (st' := [.inl v5, .inl v3, .inl v2, .inr (.inr (some v0)), .inl (q61.1 - q79.1)]) (pc' := 88) rfl ?_
    obtain ⟨a88, ha88, h⟩ := gob h
    obtain ⟨q88, hq88, h⟩ := gob h
    refine Wx.callV ok kX7_isCocycle 51 rfl lm_RX7_275 cd_X7_twisted ha88 [.inl v2, .inl v3, .inl v5] (some (.inl q88.1)) (aX7_twisted _ _ hq88) (by decide) rfl (Nat.le_of_ble_eq_true rfl) rfl rfl ?_
    refine Wx.run ok kX7_isCocycle 52 4 (lv' := [(7, .inl (0 : Int32)), (6, .inl ((q61.1 - q79.1) - q88.1)), (0, .inr (.inr (some v0))), (1, .inl v1), (2, .inl v2), (3, .inl v3), (4, .inl v4), (5, .inl v5)]) (st' := []) (pc' := 97) rfl ?_
    refine Wx.sub [2, 3, 4, 5, 6, 7, 1, 0] rfl ?_
    refine aX7_isCocycle_l97 ok hres (F := F) _ ?_ F _ _ _ _ _ _ _ _ _ h
    · intro v0 v1 v2 v3 v4 v5 v6 w h
      refine Wx.run ok kX7_isCocycle 78 1 (lv' := [(0, .inr (.inr (some v0))), (1, .inl v1), (2, .inl v2), (3, .inl v3), (4, .inl v4), (5, .inl v5), (6, .inl v6)]) (st' := [.inl v1]) (pc' := 141) rfl ?_
      refine Wx.if_eq ok kX7_isCocycle 79 (tgt := 158) rfl (by decide) h (fun hc141 h => ?_) (fun hc141 h => ?_)
      · refine Wx.sub [0, 2, 3, 4, 5] rfl ?_
        exact aX7_isCocycle_b158 ok hres (F := F) r k166 hr hk166 _ _ _ _ _ _ h
      · refine Wx.run ok kX7_isCocycle 80 2 (lv' := [(0, .inr (.inr (some v0))), (1, .inl v1), (2, .inl v2), (3, .inl v3), (4, .inl v4), (5, .inl v5), (6, .inl v6)]) (st' := [.inr (.inr (some v0)), .inl v6]) (pc' := 147) rfl ?_
        refine Wx.getI ok kX7_isCocycle 82 rfl lk_RX7_196_0 h (fun t147 h => ?_)
        refine Wx.irem ok kX7_isCocycle 83 rfl h (fun t150 h => ?_)
        refine Wx.if_ne ok kX7_isCocycle 84 (tgt := 158) rfl (by decide) h (fun hc151 h => ?_) (fun hc151 h => ?_)
        · refine Wx.run ok kX7_isCocycle 85 1 (lv' := [(0, .inr (.inr (some v0))), (1, .inl v1), (2, .inl v2), (3, .inl v3), (4, .inl v4), (5, .inl v5), (6, .inl v6)]) (st' := [.inl (1 : Int32)]) (pc' := 155) rfl ?_
          refine Wx.jump ok kX7_isCocycle 86 (tgt := 159) rfl (by decide) ?_
          refine Wx.sub [0, 2, 3, 4, 5] rfl ?_
          exact aX7_isCocycle_b159 ok hres (F := F) r k166 hr hk166 _ _ _ _ _ _ _ h
        · refine Wx.sub [0, 2, 3, 4, 5] rfl ?_
          exact aX7_isCocycle_b158 ok hres (F := F) r k166 hr hk166 _ _ _ _ _ _ h
set_option maxRecDepth 100000 in
set_option maxHeartbeats 4000000 in
theorem aX7_isCocycle_l37 {X : gX} (ok : gOk X cX7_isCocycle RX7 8 (some .boolean) rmX7_isCocycle) {res : Int32 × gW} (hres : gRs X (some (.int res.1)) res.2) {F : Nat} (k166 : Nat → Int32 → Int32 → Int32 → Int32 → gW → Option (Int32 × gW)) (hk166 : ∀ (v0 : Nat) (v1 : Int32) (v2 : Int32) (v3 : Int32) (v4 : Int32) (w : gW), k166 v0 v1 v2 v3 v4 w = some res → Wx X w 0 0 166 [(0, .inr (.inr (some v0))), (1, .inl v1), (2, .inl v2), (3, .inl v3), (4, .inl v4)] []) : ∀ (n : Nat) (v0 : Nat) (v1 : Int32) (v2 : Int32) (v3 : Int32) (v4 : Int32) (v5 : Int32) (w : gW), mX7_isCocycle_l37 F k166 n v0 v1 v2 v3 v4 v5 w = some res → Wx X w 0 0 37 [(0, .inr (.inr (some v0))), (1, .inl v1), (2, .inl v2), (3, .inl v3), (4, .inl v4), (5, .inl v5)] [] := by
  intro n
  induction n with
  | zero => intro v0 v1 v2 v3 v4 v5 w h; cases (show (none : Option (Int32 × gW)) = some res from h)
  | succ n ih =>
    intro v0 v1 v2 v3 v4 v5 w h
    exact aX7_isCocycle_h37 ok hres (F := F) (mX7_isCocycle_l37 F k166 n) k166 ih hk166 v0 v1 v2 v3 v4 v5 w h
set_option maxRecDepth 100000 in
set_option maxHeartbeats 4000000 in
theorem aX7_isCocycle_h25 {X : gX} (ok : gOk X cX7_isCocycle RX7 8 (some .boolean) rmX7_isCocycle) {res : Int32 × gW} (hres : gRs X (some (.int res.1)) res.2) {F : Nat} (r : Nat → Int32 → Int32 → Int32 → Int32 → gW → Option (Int32 × gW)) (k172 : Nat → Int32 → Int32 → Int32 → gW → Option (Int32 × gW)) (hr : ∀ (v0 : Nat) (v1 : Int32) (v2 : Int32) (v3 : Int32) (v4 : Int32) (w : gW), r v0 v1 v2 v3 v4 w = some res → Wx X w 0 0 25 [(0, .inr (.inr (some v0))), (1, .inl v1), (2, .inl v2), (3, .inl v3), (4, .inl v4)] []) (hk172 : ∀ (v0 : Nat) (v1 : Int32) (v2 : Int32) (v3 : Int32) (w : gW), k172 v0 v1 v2 v3 w = some res → Wx X w 0 0 172 [(0, .inr (.inr (some v0))), (1, .inl v1), (2, .inl v2), (3, .inl v3)] []) : ∀ (v0 : Nat) (v1 : Int32) (v2 : Int32) (v3 : Int32) (v4 : Int32) (w : gW), mX7_isCocycle_h25 F r k172 v0 v1 v2 v3 v4 w = some res → Wx X w 0 0 25 [(0, .inr (.inr (some v0))), (1, .inl v1), (2, .inl v2), (3, .inl v3), (4, .inl v4)] [] := by
  intro v0 v1 v2 v3 v4 w h
  unfold mX7_isCocycle_h25 at h
  refine Wx.run ok kX7_isCocycle 16 2 (lv' := [(0, .inr (.inr (some v0))), (1, .inl v1), (2, .inl v2), (3, .inl v3), (4, .inl v4)]) (st' := [.inr (.inr (some v0)), .inl v4]) (pc' := 28) rfl ?_
  refine Wx.getI ok kX7_isCocycle 18 rfl lk_RX7_208_0 h (fun t28 h => ?_)
  refine Wx.icmp_ge ok kX7_isCocycle 19 (tgt := 172) rfl (by decide) h (fun hc31 h => ?_) (fun hc31 h => ?_)
  · refine Wx.sub [0, 1, 2, 3] rfl ?_
    exact hk172 _ _ _ _ _ h
  · refine Wx.run ok kX7_isCocycle 20 2 (lv' := [(5, .inl (0 : Int32)), (0, .inr (.inr (some v0))), (1, .inl v1), (2, .inl v2), (3, .inl v3), (4, .inl v4)]) (st' := []) (pc' := 37) rfl ?_
    refine Wx.sub [1, 2, 3, 4, 5, 0] rfl ?_
    refine aX7_isCocycle_l37 ok hres (F := F) _ ?_ F _ _ _ _ _ _ _ h
    · intro v0 v1 v2 v3 v4 w h
      refine Wx.run ok kX7_isCocycle 91 1 (lv' := [(4, .inl (v4 + (1 : Int32))), (0, .inr (.inr (some v0))), (1, .inl v1), (2, .inl v2), (3, .inl v3)]) (st' := []) (pc' := 169) rfl ?_
      refine Wx.jump ok kX7_isCocycle 92 (tgt := 25) rfl (by decide) ?_
      refine Wx.sub [1, 2, 3, 4, 0] rfl ?_
      exact hr _ _ _ _ _ _ h
set_option maxRecDepth 100000 in
set_option maxHeartbeats 4000000 in
theorem aX7_isCocycle_l25 {X : gX} (ok : gOk X cX7_isCocycle RX7 8 (some .boolean) rmX7_isCocycle) {res : Int32 × gW} (hres : gRs X (some (.int res.1)) res.2) {F : Nat} (k172 : Nat → Int32 → Int32 → Int32 → gW → Option (Int32 × gW)) (hk172 : ∀ (v0 : Nat) (v1 : Int32) (v2 : Int32) (v3 : Int32) (w : gW), k172 v0 v1 v2 v3 w = some res → Wx X w 0 0 172 [(0, .inr (.inr (some v0))), (1, .inl v1), (2, .inl v2), (3, .inl v3)] []) : ∀ (n : Nat) (v0 : Nat) (v1 : Int32) (v2 : Int32) (v3 : Int32) (v4 : Int32) (w : gW), mX7_isCocycle_l25 F k172 n v0 v1 v2 v3 v4 w = some res → Wx X w 0 0 25 [(0, .inr (.inr (some v0))), (1, .inl v1), (2, .inl v2), (3, .inl v3), (4, .inl v4)] [] := by
  intro n
  induction n with
  | zero => intro v0 v1 v2 v3 v4 w h; cases (show (none : Option (Int32 × gW)) = some res from h)
  | succ n ih =>
    intro v0 v1 v2 v3 v4 w h
    exact aX7_isCocycle_h25 ok hres (F := F) (mX7_isCocycle_l25 F k172 n) k172 ih hk172 v0 v1 v2 v3 v4 w h
set_option maxRecDepth 100000 in
set_option maxHeartbeats 4000000 in
theorem aX7_isCocycle_h14 {X : gX} (ok : gOk X cX7_isCocycle RX7 8 (some .boolean) rmX7_isCocycle) {res : Int32 × gW} (hres : gRs X (some (.int res.1)) res.2) {F : Nat} (r : Nat → Int32 → Int32 → Int32 → gW → Option (Int32 × gW)) (k178 : Nat → Int32 → Int32 → gW → Option (Int32 × gW)) (hr : ∀ (v0 : Nat) (v1 : Int32) (v2 : Int32) (v3 : Int32) (w : gW), r v0 v1 v2 v3 w = some res → Wx X w 0 0 14 [(0, .inr (.inr (some v0))), (1, .inl v1), (2, .inl v2), (3, .inl v3)] []) (hk178 : ∀ (v0 : Nat) (v1 : Int32) (v2 : Int32) (w : gW), k178 v0 v1 v2 w = some res → Wx X w 0 0 178 [(0, .inr (.inr (some v0))), (1, .inl v1), (2, .inl v2)] []) : ∀ (v0 : Nat) (v1 : Int32) (v2 : Int32) (v3 : Int32) (w : gW), mX7_isCocycle_h14 F r k178 v0 v1 v2 v3 w = some res → Wx X w 0 0 14 [(0, .inr (.inr (some v0))), (1, .inl v1), (2, .inl v2), (3, .inl v3)] [] := by
  intro v0 v1 v2 v3 w h
  unfold mX7_isCocycle_h14 at h
  refine Wx.run ok kX7_isCocycle 10 2 (lv' := [(0, .inr (.inr (some v0))), (1, .inl v1), (2, .inl v2), (3, .inl v3)]) (st' := [.inr (.inr (some v0)), .inl v3]) (pc' := 16) rfl ?_
  refine Wx.getI ok kX7_isCocycle 12 rfl lk_RX7_208_0 h (fun t16 h => ?_)
  refine Wx.icmp_ge ok kX7_isCocycle 13 (tgt := 178) rfl (by decide) h (fun hc19 h => ?_) (fun hc19 h => ?_)
  · refine Wx.sub [0, 1, 2] rfl ?_
    exact hk178 _ _ _ _ h
  · refine Wx.run ok kX7_isCocycle 14 2 (lv' := [(4, .inl (1 : Int32)), (0, .inr (.inr (some v0))), (1, .inl v1), (2, .inl v2), (3, .inl v3)]) (st' := []) (pc' := 25) rfl ?_
    refine Wx.sub [1, 2, 3, 4, 0] rfl ?_
    refine aX7_isCocycle_l25 ok hres (F := F) _ ?_ F _ _ _ _ _ _ h
    · intro v0 v1 v2 v3 w h
      refine Wx.run ok kX7_isCocycle 93 1 (lv' := [(3, .inl (v3 + (1 : Int32))), (0, .inr (.inr (some v0))), (1, .inl v1), (2, .inl v2)]) (st' := []) (pc' := 175) rfl ?_
      refine Wx.jump ok kX7_isCocycle 94 (tgt := 14) rfl (by decide) ?_
      refine Wx.sub [1, 2, 3, 0] rfl ?_
      exact hr _ _ _ _ _ h
set_option maxRecDepth 100000 in
set_option maxHeartbeats 4000000 in
theorem aX7_isCocycle_l14 {X : gX} (ok : gOk X cX7_isCocycle RX7 8 (some .boolean) rmX7_isCocycle) {res : Int32 × gW} (hres : gRs X (some (.int res.1)) res.2) {F : Nat} (k178 : Nat → Int32 → Int32 → gW → Option (Int32 × gW)) (hk178 : ∀ (v0 : Nat) (v1 : Int32) (v2 : Int32) (w : gW), k178 v0 v1 v2 w = some res → Wx X w 0 0 178 [(0, .inr (.inr (some v0))), (1, .inl v1), (2, .inl v2)] []) : ∀ (n : Nat) (v0 : Nat) (v1 : Int32) (v2 : Int32) (v3 : Int32) (w : gW), mX7_isCocycle_l14 F k178 n v0 v1 v2 v3 w = some res → Wx X w 0 0 14 [(0, .inr (.inr (some v0))), (1, .inl v1), (2, .inl v2), (3, .inl v3)] [] := by
  intro n
  induction n with
  | zero => intro v0 v1 v2 v3 w h; cases (show (none : Option (Int32 × gW)) = some res from h)
  | succ n ih =>
    intro v0 v1 v2 v3 w h
    exact aX7_isCocycle_h14 ok hres (F := F) (mX7_isCocycle_l14 F k178 n) k178 ih hk178 v0 v1 v2 v3 w h
set_option maxRecDepth 100000 in
set_option maxHeartbeats 4000000 in
theorem aX7_isCocycle_h4 {X : gX} (ok : gOk X cX7_isCocycle RX7 8 (some .boolean) rmX7_isCocycle) {res : Int32 × gW} (hres : gRs X (some (.int res.1)) res.2) {F : Nat} (r : Nat → Int32 → Int32 → gW → Option (Int32 × gW)) (hr : ∀ (v0 : Nat) (v1 : Int32) (v2 : Int32) (w : gW), r v0 v1 v2 w = some res → Wx X w 0 0 4 [(0, .inr (.inr (some v0))), (1, .inl v1), (2, .inl v2)] []) : ∀ (v0 : Nat) (v1 : Int32) (v2 : Int32) (w : gW), mX7_isCocycle_h4 F r v0 v1 v2 w = some res → Wx X w 0 0 4 [(0, .inr (.inr (some v0))), (1, .inl v1), (2, .inl v2)] [] := by
  intro v0 v1 v2 w h
  unfold mX7_isCocycle_h4 at h
  refine Wx.run ok kX7_isCocycle 4 2 (lv' := [(0, .inr (.inr (some v0))), (1, .inl v1), (2, .inl v2)]) (st' := [.inr (.inr (some v0)), .inl v2]) (pc' := 6) rfl ?_
  refine Wx.getI ok kX7_isCocycle 6 rfl lk_RX7_208_0 h (fun t6 h => ?_)
  refine Wx.icmp_ge ok kX7_isCocycle 7 (tgt := 184) rfl (by decide) h (fun hc9 h => ?_) (fun hc9 h => ?_)
  · refine Wx.run ok kX7_isCocycle 97 1 (lv' := [(0, .inr (.inr (some v0))), (1, .inl v1), (2, .inl v2)]) (st' := [.inl v1]) (pc' := 185) rfl ?_
    exact Wx.zreturnB ok kX7_isCocycle 98 rfl hres h (by decide)
  · refine Wx.run ok kX7_isCocycle 8 2 (lv' := [(3, .inl (1 : Int32)), (0, .inr (.inr (some v0))), (1, .inl v1), (2, .inl v2)]) (st' := []) (pc' := 14) rfl ?_
    refine Wx.sub [1, 2, 3, 0] rfl ?_
    refine aX7_isCocycle_l14 ok hres (F := F) _ ?_ F _ _ _ _ _ h
    · intro v0 v1 v2 w h
      refine Wx.run ok kX7_isCocycle 95 1 (lv' := [(2, .inl (v2 + (1 : Int32))), (0, .inr (.inr (some v0))), (1, .inl v1)]) (st' := []) (pc' := 181) rfl ?_
      refine Wx.jump ok kX7_isCocycle 96 (tgt := 4) rfl (by decide) ?_
      refine Wx.sub [1, 2, 0] rfl ?_
      exact hr _ _ _ _ h
set_option maxRecDepth 100000 in
set_option maxHeartbeats 4000000 in
theorem aX7_isCocycle_l4 {X : gX} (ok : gOk X cX7_isCocycle RX7 8 (some .boolean) rmX7_isCocycle) {res : Int32 × gW} (hres : gRs X (some (.int res.1)) res.2) {F : Nat} : ∀ (n : Nat) (v0 : Nat) (v1 : Int32) (v2 : Int32) (w : gW), mX7_isCocycle_l4 F n v0 v1 v2 w = some res → Wx X w 0 0 4 [(0, .inr (.inr (some v0))), (1, .inl v1), (2, .inl v2)] [] := by
  intro n
  induction n with
  | zero => intro v0 v1 v2 w h; cases (show (none : Option (Int32 × gW)) = some res from h)
  | succ n ih =>
    intro v0 v1 v2 w h
    exact aX7_isCocycle_h4 ok hres (F := F) (mX7_isCocycle_l4 F n) ih v0 v1 v2 w h
set_option maxRecDepth 100000 in
set_option maxHeartbeats 4000000 in
theorem aX7_isCocycle (l : Launch) (G : gG) {F : Nat} {v0 : Nat} {w : gW} {res : Int32 × gW} (h : mX7_isCocycle F v0 w = some res) : gM l yX7_isCocycle cX7_isCocycle 8 (some .boolean) rmX7_isCocycle G w (gTs [.inr (.inr (some v0))]) (some (.int res.1)) res.2 := by
  refine gM_of (y := yX7_isCocycle) (by decide +kernel) (Nat.le_of_ble_eq_true rfl) ?_
  intro X ok hl hG hres hnm
  subst hl; subst hG
  unfold mX7_isCocycle at h
  show Wx X w 0 0 0 [(0, .inr (.inr (some v0)))] []
  refine Wx.run ok kX7_isCocycle 0 4 (lv' := [(2, .inl (1 : Int32)), (1, .inl (1 : Int32)), (0, .inr (.inr (some v0)))]) (st' := []) (pc' := 4) rfl ?_
  refine Wx.sub [2, 1, 0] rfl ?_
  refine aX7_isCocycle_l4 ok hres (F := F) F _ _ _ _ h
set_option maxRecDepth 100000 in
set_option maxHeartbeats 4000000 in
theorem aX7_isElement_b30 {X : gX} (ok : gOk X cX7_isElement RX7 3 (some .boolean) rmX7_isElement) {res : Int32 × gW} (hres : gRs X (some (.int res.1)) res.2) {F : Nat} : ∀  (w : gW), mX7_isElement_b30 F w = some res → Wx X w 0 0 30 [] [] := by
  intro w h
  unfold mX7_isElement_b30 at h
  refine Wx.run ok kX7_isElement 18 1 (lv' := []) (st' := [.inl (0 : Int32)]) (pc' := 31) rfl ?_
  exact Wx.zreturn ok kX7_isElement 19 rfl gNz0 hres h (by decide)
set_option maxRecDepth 100000 in
set_option maxHeartbeats 4000000 in
theorem aX7_isElement (l : Launch) (G : gG) {F : Nat} {v0 : Nat} {v1 : Int32} {v2 : Int32} {w : gW} {res : Int32 × gW} (h : mX7_isElement F v0 v1 v2 w = some res) : gM l yX7_isElement cX7_isElement 3 (some .boolean) rmX7_isElement G w (gTs [.inr (.inr (some v0)), .inl v1, .inl v2]) (some (.int res.1)) res.2 := by
  refine gM_of (y := yX7_isElement) (by decide +kernel) (Nat.le_of_ble_eq_true rfl) ?_
  intro X ok hl hG hres hnm
  subst hl; subst hG
  unfold mX7_isElement at h
  show Wx X w 0 0 0 [(0, .inr (.inr (some v0))), (1, .inl v1), (2, .inl v2)] []
  refine Wx.run ok kX7_isElement 0 2 (lv' := [(0, .inr (.inr (some v0))), (1, .inl v1), (2, .inl v2)]) (st' := [.inl v1, .inr (.inr (some v0))]) (pc' := 2) rfl ?_
  obtain ⟨a2, ha2, h⟩ := gob h
  obtain ⟨q2, hq2, h⟩ := gob h
  refine Wx.callV ok kX7_isElement 2 rfl lm_RX7_114 cd_X7_isGroup ha2 [.inl v1] (some (.inl q2.1)) (aX7_isGroup _ _ hq2) (by decide) rfl (Nat.le_of_ble_eq_true rfl) rfl rfl ?_
  refine Wx.if_eq ok kX7_isElement 3 (tgt := 30) rfl (by decide) h (fun hc5 h => ?_) (fun hc5 h => ?_)
  · refine Wx.sub [] rfl ?_
    exact aX7_isElement_b30 ok hres (F := F)  _ h
  · refine Wx.run ok kX7_isElement 4 4 (lv' := [(0, .inr (.inr (some v0))), (1, .inl v1), (2, .inl v2)]) (st' := [.inr (.inr (some v0)), .inr (.inl (0 : Int64)), .inr (.inl ((v2).toInt64))]) (pc' := 12) rfl ?_
    refine Wx.getR ok kX7_isElement 8 rfl lk_RX7_7_0 h (fun t12 h => ?_)
    refine Wx.run ok kX7_isElement 9 1 (lv' := [(0, .inr (.inr (some v0))), (1, .inl v1), (2, .inl v2)]) (st' := [.inl v1, .inr (.inr t12), .inr (.inl (0 : Int64)), .inr (.inl ((v2).toInt64))]) (pc' := 16) rfl ?_
    refine Wx.iald ok kX7_isElement 10 rfl h (fun t16 h => ?_)
    refine Wx.run ok kX7_isElement 11 3 (lv' := [(0, .inr (.inr (some v0))), (1, .inl v1), (2, .inl v2)]) (st' := [.inr (.inl (((t16 - (1 : Int32))).toInt64)), .inr (.inl (0 : Int64)), .inr (.inl ((v2).toInt64))]) (pc' := 20) rfl ?_
    obtain ⟨q20, hq20, h⟩ := gob h
    refine Wx.callS ok kX7_isElement 14 rfl lm_RX7_100 cd_X7_in [.inr (.inl ((v2).toInt64)), .inr (.inl (0 : Int64)), .inr (.inl (((t16 - (1 : Int32))).toInt64))] (some (.inl q20.1)) (aX7_in _ _ hq20) (by decide) rfl (Nat.le_of_ble_eq_true rfl) rfl rfl ?_
    refine Wx.if_eq ok kX7_isElement 15 (tgt := 30) rfl (by decide) h (fun hc23 h => ?_) (fun hc23 h => ?_)
    · refine Wx.sub [] rfl ?_
      exact aX7_isElement_b30 ok hres (F := F)  _ h
    · refine Wx.run ok kX7_isElement 16 1 (lv' := [(0, .inr (.inr (some v0))), (1, .inl v1), (2, .inl v2)]) (st' := [.inl (1 : Int32)]) (pc' := 27) rfl ?_
      refine Wx.jump ok kX7_isElement 17 (tgt := 31) rfl (by decide) ?_
      exact Wx.zreturn ok kX7_isElement 19 rfl gNz1 hres h (by decide)
set_option maxRecDepth 100000 in
set_option maxHeartbeats 4000000 in
theorem aX7_leastMakers_b388 {X : gX} (ok : gOk X cX7_leastMakers RX7 16 (some .int) rmX7_leastMakers) {res : Int32 × gW} (hres : gRs X (some (.int res.1)) res.2) {F : Nat} (r : Nat → Int32 → Int32 → Int32 → Int32 → Int32 → Int32 → Int64 → Int64 → Int32 → gW → Option (Int32 × gW)) (k394 : Nat → Int32 → Int32 → Int32 → Int32 → Int32 → Int32 → gW → Option (Int32 × gW)) (hr : ∀ (v0 : Nat) (v1 : Int32) (v3 : Int32) (v4 : Int32) (v5 : Int32) (v6 : Int32) (v7 : Int32) (v8 : Int64) (v10 : Int64) (v12 : Int32) (w : gW), r v0 v1 v3 v4 v5 v6 v7 v8 v10 v12 w = some res → Wx X w 0 0 99 [(0, .inr (.inr (some v0))), (1, .inl v1), (3, .inl v3), (4, .inl v4), (5, .inl v5), (6, .inl v6), (7, .inl v7), (8, .inr (.inl v8)), (10, .inr (.inl v10)), (12, .inl v12)] []) (hk394 : ∀ (v0 : Nat) (v1 : Int32) (v3 : Int32) (v4 : Int32) (v5 : Int32) (v6 : Int32) (v7 : Int32) (w : gW), k394 v0 v1 v3 v4 v5 v6 v7 w = some res → Wx X w 0 0 394 [(0, .inr (.inr (some v0))), (1, .inl v1), (3, .inl v3), (4, .inl v4), (5, .inl v5), (6, .inl v6), (7, .inl v7)] []) : ∀ (v0 : Nat) (v1 : Int32) (v3 : Int32) (v4 : Int32) (v5 : Int32) (v6 : Int32) (v7 : Int32) (v8 : Int64) (v10 : Int64) (v12 : Int32) (w : gW), mX7_leastMakers_b388 F r k394 v0 v1 v3 v4 v5 v6 v7 v8 v10 v12 w = some res → Wx X w 0 0 388 [(0, .inr (.inr (some v0))), (1, .inl v1), (3, .inl v3), (4, .inl v4), (5, .inl v5), (6, .inl v6), (7, .inl v7), (8, .inr (.inl v8)), (10, .inr (.inl v10)), (12, .inl v12)] [] := by
  intro v0 v1 v3 v4 v5 v6 v7 v8 v10 v12 w h
  unfold mX7_leastMakers_b388 at h
  refine Wx.run ok kX7_leastMakers 215 1 (lv' := [(12, .inl (v12 + (1 : Int32))), (0, .inr (.inr (some v0))), (1, .inl v1), (3, .inl v3), (4, .inl v4), (5, .inl v5), (6, .inl v6), (7, .inl v7), (8, .inr (.inl v8)), (10, .inr (.inl v10))]) (st' := []) (pc' := 391) rfl ?_
  refine Wx.jump ok kX7_leastMakers 216 (tgt := 99) rfl (by decide) ?_
  refine Wx.sub [1, 2, 3, 4, 5, 6, 7, 8, 9, 0] rfl ?_
  exact hr _ _ _ _ _ _ _ _ _ _ _ h
set_option maxRecDepth 100000 in
set_option maxHeartbeats 4000000 in
theorem aX7_leastMakers_h172 {X : gX} (ok : gOk X cX7_leastMakers RX7 16 (some .int) rmX7_leastMakers) {res : Int32 × gW} (hres : gRs X (some (.int res.1)) res.2) {F : Nat} (r : Nat → Int32 → Int32 → Int32 → Int32 → Int32 → Int64 → Int64 → Int32 → Int32 → gW → Option (Int32 × gW)) (k205 : Nat → Int32 → Int32 → Int32 → Int32 → Int32 → Int64 → Int64 → Int32 → gW → Option (Int32 × gW)) (hr : ∀ (v0 : Nat) (v1 : Int32) (v3 : Int32) (v4 : Int32) (v6 : Int32) (v7 : Int32) (v8 : Int64) (v10 : Int64) (v12 : Int32) (v14 : Int32) (w : gW), r v0 v1 v3 v4 v6 v7 v8 v10 v12 v14 w = some res → Wx X w 0 0 172 [(0, .inr (.inr (some v0))), (1, .inl v1), (3, .inl v3), (4, .inl v4), (6, .inl v6), (7, .inl v7), (8, .inr (.inl v8)), (10, .inr (.inl v10)), (12, .inl v12), (14, .inl v14)] []) (hk205 : ∀ (v0 : Nat) (v1 : Int32) (v3 : Int32) (v4 : Int32) (v6 : Int32) (v7 : Int32) (v8 : Int64) (v10 : Int64) (v12 : Int32) (w : gW), k205 v0 v1 v3 v4 v6 v7 v8 v10 v12 w = some res → Wx X w 0 0 205 [(0, .inr (.inr (some v0))), (1, .inl v1), (3, .inl v3), (4, .inl v4), (6, .inl v6), (7, .inl v7), (8, .inr (.inl v8)), (10, .inr (.inl v10)), (12, .inl v12)] []) : ∀ (v0 : Nat) (v1 : Int32) (v3 : Int32) (v4 : Int32) (v6 : Int32) (v7 : Int32) (v8 : Int64) (v10 : Int64) (v12 : Int32) (v14 : Int32) (w : gW), mX7_leastMakers_h172 F r k205 v0 v1 v3 v4 v6 v7 v8 v10 v12 v14 w = some res → Wx X w 0 0 172 [(0, .inr (.inr (some v0))), (1, .inl v1), (3, .inl v3), (4, .inl v4), (6, .inl v6), (7, .inl v7), (8, .inr (.inl v8)), (10, .inr (.inl v10)), (12, .inl v12), (14, .inl v14)] [] := by
  intro v0 v1 v3 v4 v6 v7 v8 v10 v12 v14 w h
  unfold mX7_leastMakers_h172 at h
  refine Wx.run ok kX7_leastMakers 101 2 (lv' := [(0, .inr (.inr (some v0))), (1, .inl v1), (3, .inl v3), (4, .inl v4), (6, .inl v6), (7, .inl v7), (8, .inr (.inl v8)), (10, .inr (.inl v10)), (12, .inl v12), (14, .inl v14)]) (st' := [.inl v4, .inl v14]) (pc' := 176) rfl ?_
  refine Wx.icmp_ge ok kX7_leastMakers 103 (tgt := 205) rfl (by decide) h (fun hc176 h => ?_) (fun hc176 h => ?_)
  · refine Wx.sub [0, 1, 2, 3, 4, 5, 6, 7, 8] rfl ?_
    exact hk205 _ _ _ _ _ _ _ _ _ _ h
  · refine Wx.run ok kX7_leastMakers 104 1 (lv' := [(0, .inr (.inr (some v0))), (1, .inl v1), (3, .inl v3), (4, .inl v4), (6, .inl v6), (7, .inl v7), (8, .inr (.inl v8)), (10, .inr (.inl v10)), (12, .inl v12), (14, .inl v14)]) (st' := [.inr (.inr (some v0))]) (pc' := 180) rfl ?_
    refine Wx.getR ok kX7_leastMakers 105 rfl lk_RX7_41_0 h (fun t180 h => ?_)
    refine Wx.run ok kX7_leastMakers 106 2 (lv' := [(0, .inr (.inr (some v0))), (1, .inl v1), (3, .inl v3), (4, .inl v4), (6, .inl v6), (7, .inl v7), (8, .inr (.inl v8)), (10, .inr (.inl v10)), (12, .inl v12), (14, .inl v14)]) (st' := [.inr (.inr (some v0)), .inl v14, .inr (.inr t180)]) (pc' := 186) rfl ?_
    refine Wx.getR ok kX7_leastMakers 108 rfl lk_RX7_55_0 h (fun t186 h => ?_)
    refine Wx.run ok kX7_leastMakers 109 5 (lv' := [(0, .inr (.inr (some v0))), (1, .inl v1), (3, .inl v3), (4, .inl v4), (6, .inl v6), (7, .inl v7), (8, .inr (.inl v8)), (10, .inr (.inl v10)), (12, .inl v12), (14, .inl v14)]) (st' := [.inl (((8 : Int32) * v7) + v14), .inr (.inr t186), .inl v14, .inr (.inr t180)]) (pc' := 197) rfl ?_
    refine Wx.iald ok kX7_leastMakers 114 rfl h (fun t197 h => ?_)
    refine Wx.iast ok kX7_leastMakers 115 rfl h (fun w198 h => ?_)
    refine Wx.run ok kX7_leastMakers 116 1 (lv' := [(14, .inl (v14 + (1 : Int32))), (0, .inr (.inr (some v0))), (1, .inl v1), (3, .inl v3), (4, .inl v4), (6, .inl v6), (7, .inl v7), (8, .inr (.inl v8)), (10, .inr (.inl v10)), (12, .inl v12)]) (st' := []) (pc' := 202) rfl ?_
    refine Wx.jump ok kX7_leastMakers 117 (tgt := 172) rfl (by decide) ?_
    refine Wx.sub [1, 2, 3, 4, 5, 6, 7, 8, 9, 0] rfl ?_
    exact hr _ _ _ _ _ _ _ _ _ _ _ h
set_option maxRecDepth 100000 in
set_option maxHeartbeats 4000000 in
theorem aX7_leastMakers_l172 {X : gX} (ok : gOk X cX7_leastMakers RX7 16 (some .int) rmX7_leastMakers) {res : Int32 × gW} (hres : gRs X (some (.int res.1)) res.2) {F : Nat} (k205 : Nat → Int32 → Int32 → Int32 → Int32 → Int32 → Int64 → Int64 → Int32 → gW → Option (Int32 × gW)) (hk205 : ∀ (v0 : Nat) (v1 : Int32) (v3 : Int32) (v4 : Int32) (v6 : Int32) (v7 : Int32) (v8 : Int64) (v10 : Int64) (v12 : Int32) (w : gW), k205 v0 v1 v3 v4 v6 v7 v8 v10 v12 w = some res → Wx X w 0 0 205 [(0, .inr (.inr (some v0))), (1, .inl v1), (3, .inl v3), (4, .inl v4), (6, .inl v6), (7, .inl v7), (8, .inr (.inl v8)), (10, .inr (.inl v10)), (12, .inl v12)] []) : ∀ (n : Nat) (v0 : Nat) (v1 : Int32) (v3 : Int32) (v4 : Int32) (v6 : Int32) (v7 : Int32) (v8 : Int64) (v10 : Int64) (v12 : Int32) (v14 : Int32) (w : gW), mX7_leastMakers_l172 F k205 n v0 v1 v3 v4 v6 v7 v8 v10 v12 v14 w = some res → Wx X w 0 0 172 [(0, .inr (.inr (some v0))), (1, .inl v1), (3, .inl v3), (4, .inl v4), (6, .inl v6), (7, .inl v7), (8, .inr (.inl v8)), (10, .inr (.inl v10)), (12, .inl v12), (14, .inl v14)] [] := by
  intro n
  induction n with
  | zero => intro v0 v1 v3 v4 v6 v7 v8 v10 v12 v14 w h; cases (show (none : Option (Int32 × gW)) = some res from h)
  | succ n ih =>
    intro v0 v1 v3 v4 v6 v7 v8 v10 v12 v14 w h
    exact aX7_leastMakers_h172 ok hres (F := F) (mX7_leastMakers_l172 F k205 n) k205 ih hk205 v0 v1 v3 v4 v6 v7 v8 v10 v12 v14 w h
set_option maxRecDepth 100000 in
set_option maxHeartbeats 4000000 in
theorem aX7_leastMakers_b314 {X : gX} (ok : gOk X cX7_leastMakers RX7 16 (some .int) rmX7_leastMakers) {res : Int32 × gW} (hres : gRs X (some (.int res.1)) res.2) {F : Nat} (r : Nat → Int32 → Int32 → Int32 → Int32 → Int32 → Int32 → Int64 → Int64 → Int32 → Int32 → Int32 → gW → Option (Int32 × gW)) (k322 : Nat → Int32 → Int32 → Int32 → Int32 → Int32 → Int32 → Int64 → Int64 → Int32 → Int32 → gW → Option (Int32 × gW)) (hr : ∀ (v0 : Nat) (v1 : Int32) (v3 : Int32) (v4 : Int32) (v5 : Int32) (v6 : Int32) (v7 : Int32) (v8 : Int64) (v10 : Int64) (v12 : Int32) (v14 : Int32) (v15 : Int32) (w : gW), r v0 v1 v3 v4 v5 v6 v7 v8 v10 v12 v14 v15 w = some res → Wx X w 0 0 267 [(0, .inr (.inr (some v0))), (1, .inl v1), (3, .inl v3), (4, .inl v4), (5, .inl v5), (6, .inl v6), (7, .inl v7), (8, .inr (.inl v8)), (10, .inr (.inl v10)), (12, .inl v12), (14, .inl v14), (15, .inl v15)] []) (hk322 : ∀ (v0 : Nat) (v1 : Int32) (v3 : Int32) (v4 : Int32) (v5 : Int32) (v6 : Int32) (v7 : Int32) (v8 : Int64) (v10 : Int64) (v12 : Int32) (v14 : Int32) (w : gW), k322 v0 v1 v3 v4 v5 v6 v7 v8 v10 v12 v14 w = some res → Wx X w 0 0 322 [(0, .inr (.inr (some v0))), (1, .inl v1), (3, .inl v3), (4, .inl v4), (5, .inl v5), (6, .inl v6), (7, .inl v7), (8, .inr (.inl v8)), (10, .inr (.inl v10)), (12, .inl v12), (14, .inl v14)] []) : ∀ (v0 : Nat) (v1 : Int32) (v3 : Int32) (v4 : Int32) (v5 : Int32) (v6 : Int32) (v7 : Int32) (v8 : Int64) (v10 : Int64) (v12 : Int32) (v15 : Int32) (s0 : Int32) (w : gW), mX7_leastMakers_b314 F r k322 v0 v1 v3 v4 v5 v6 v7 v8 v10 v12 v15 s0 w = some res → Wx X w 0 0 314 [(0, .inr (.inr (some v0))), (1, .inl v1), (3, .inl v3), (4, .inl v4), (5, .inl v5), (6, .inl v6), (7, .inl v7), (8, .inr (.inl v8)), (10, .inr (.inl v10)), (12, .inl v12), (15, .inl v15)] [.inl s0] := by
  intro v0 v1 v3 v4 v5 v6 v7 v8 v10 v12 v15 s0 w h
  unfold mX7_leastMakers_b314 at h
  refine Wx.run ok kX7_leastMakers 178 2 (lv' := [(15, .inl (v15 + (1 : Int32))), (14, .inl s0), (0, .inr (.inr (some v0))), (1, .inl v1), (3, .inl v3), (4, .inl v4), (5, .inl v5), (6, .inl v6), (7, .inl v7), (8, .inr (.inl v8)), (10, .inr (.inl v10)), (12, .inl v12)]) (st' := []) (pc' := 319) rfl ?_
  refine Wx.jump ok kX7_leastMakers 180 (tgt := 267) rfl (by decide) ?_
  refine Wx.sub [2, 3, 4, 5, 6, 7, 8, 9, 10, 11, 1, 0] rfl ?_
  exact hr _ _ _ _ _ _ _ _ _ _ _ _ _ h
set_option maxRecDepth 100000 in
set_option maxHeartbeats 4000000 in
theorem aX7_leastMakers_b309 {X : gX} (ok : gOk X cX7_leastMakers RX7 16 (some .int) rmX7_leastMakers) {res : Int32 × gW} (hres : gRs X (some (.int res.1)) res.2) {F : Nat} (r : Nat → Int32 → Int32 → Int32 → Int32 → Int32 → Int32 → Int64 → Int64 → Int32 → Int32 → Int32 → gW → Option (Int32 × gW)) (k322 : Nat → Int32 → Int32 → Int32 → Int32 → Int32 → Int32 → Int64 → Int64 → Int32 → Int32 → gW → Option (Int32 × gW)) (hr : ∀ (v0 : Nat) (v1 : Int32) (v3 : Int32) (v4 : Int32) (v5 : Int32) (v6 : Int32) (v7 : Int32) (v8 : Int64) (v10 : Int64) (v12 : Int32) (v14 : Int32) (v15 : Int32) (w : gW), r v0 v1 v3 v4 v5 v6 v7 v8 v10 v12 v14 v15 w = some res → Wx X w 0 0 267 [(0, .inr (.inr (some v0))), (1, .inl v1), (3, .inl v3), (4, .inl v4), (5, .inl v5), (6, .inl v6), (7, .inl v7), (8, .inr (.inl v8)), (10, .inr (.inl v10)), (12, .inl v12), (14, .inl v14), (15, .inl v15)] []) (hk322 : ∀ (v0 : Nat) (v1 : Int32) (v3 : Int32) (v4 : Int32) (v5 : Int32) (v6 : Int32) (v7 : Int32) (v8 : Int64) (v10 : Int64) (v12 : Int32) (v14 : Int32) (w : gW), k322 v0 v1 v3 v4 v5 v6 v7 v8 v10 v12 v14 w = some res → Wx X w 0 0 322 [(0, .inr (.inr (some v0))), (1, .inl v1), (3, .inl v3), (4, .inl v4), (5, .inl v5), (6, .inl v6), (7, .inl v7), (8, .inr (.inl v8)), (10, .inr (.inl v10)), (12, .inl v12), (14, .inl v14)] []) : ∀ (v0 : Nat) (v1 : Int32) (v3 : Int32) (v4 : Int32) (v5 : Int32) (v6 : Int32) (v7 : Int32) (v8 : Int64) (v10 : Int64) (v12 : Int32) (v15 : Int32) (w : gW), mX7_leastMakers_b309 F r k322 v0 v1 v3 v4 v5 v6 v7 v8 v10 v12 v15 w = some res → Wx X w 0 0 309 [(0, .inr (.inr (some v0))), (1, .inl v1), (3, .inl v3), (4, .inl v4), (5, .inl v5), (6, .inl v6), (7, .inl v7), (8, .inr (.inl v8)), (10, .inr (.inl v10)), (12, .inl v12), (15, .inl v15)] [] := by
  intro v0 v1 v3 v4 v5 v6 v7 v8 v10 v12 v15 w h
  unfold mX7_leastMakers_b309 at h
  refine Wx.run ok kX7_leastMakers 175 1 (lv' := [(0, .inr (.inr (some v0))), (1, .inl v1), (3, .inl v3), (4, .inl v4), (5, .inl v5), (6, .inl v6), (7, .inl v7), (8, .inr (.inl v8)), (10, .inr (.inl v10)), (12, .inl v12), (15, .inl v15)]) (st' := [.inl (1 : Int32)]) (pc' := 310) rfl ?_
  refine Wx.jump ok kX7_leastMakers 176 (tgt := 314) rfl (by decide) ?_
  exact aX7_leastMakers_b314 ok hres (F := F) r k322 hr hk322 _ _ _ _ _ _ _ _ _ _ _ _ _ h
set_option maxRecDepth 100000 in
set_option maxHeartbeats 4000000 in
theorem aX7_leastMakers_b313 {X : gX} (ok : gOk X cX7_leastMakers RX7 16 (some .int) rmX7_leastMakers) {res : Int32 × gW} (hres : gRs X (some (.int res.1)) res.2) {F : Nat} (r : Nat → Int32 → Int32 → Int32 → Int32 → Int32 → Int32 → Int64 → Int64 → Int32 → Int32 → Int32 → gW → Option (Int32 × gW)) (k322 : Nat → Int32 → Int32 → Int32 → Int32 → Int32 → Int32 → Int64 → Int64 → Int32 → Int32 → gW → Option (Int32 × gW)) (hr : ∀ (v0 : Nat) (v1 : Int32) (v3 : Int32) (v4 : Int32) (v5 : Int32) (v6 : Int32) (v7 : Int32) (v8 : Int64) (v10 : Int64) (v12 : Int32) (v14 : Int32) (v15 : Int32) (w : gW), r v0 v1 v3 v4 v5 v6 v7 v8 v10 v12 v14 v15 w = some res → Wx X w 0 0 267 [(0, .inr (.inr (some v0))), (1, .inl v1), (3, .inl v3), (4, .inl v4), (5, .inl v5), (6, .inl v6), (7, .inl v7), (8, .inr (.inl v8)), (10, .inr (.inl v10)), (12, .inl v12), (14, .inl v14), (15, .inl v15)] []) (hk322 : ∀ (v0 : Nat) (v1 : Int32) (v3 : Int32) (v4 : Int32) (v5 : Int32) (v6 : Int32) (v7 : Int32) (v8 : Int64) (v10 : Int64) (v12 : Int32) (v14 : Int32) (w : gW), k322 v0 v1 v3 v4 v5 v6 v7 v8 v10 v12 v14 w = some res → Wx X w 0 0 322 [(0, .inr (.inr (some v0))), (1, .inl v1), (3, .inl v3), (4, .inl v4), (5, .inl v5), (6, .inl v6), (7, .inl v7), (8, .inr (.inl v8)), (10, .inr (.inl v10)), (12, .inl v12), (14, .inl v14)] []) : ∀ (v0 : Nat) (v1 : Int32) (v3 : Int32) (v4 : Int32) (v5 : Int32) (v6 : Int32) (v7 : Int32) (v8 : Int64) (v10 : Int64) (v12 : Int32) (v15 : Int32) (w : gW), mX7_leastMakers_b313 F r k322 v0 v1 v3 v4 v5 v6 v7 v8 v10 v12 v15 w = some res → Wx X w 0 0 313 [(0, .inr (.inr (some v0))), (1, .inl v1), (3, .inl v3), (4, .inl v4), (5, .inl v5), (6, .inl v6), (7, .inl v7), (8, .inr (.inl v8)), (10, .inr (.inl v10)), (12, .inl v12), (15, .inl v15)] [] := by
  intro v0 v1 v3 v4 v5 v6 v7 v8 v10 v12 v15 w h
  unfold mX7_leastMakers_b313 at h
  refine Wx.run ok kX7_leastMakers 177 1 (lv' := [(0, .inr (.inr (some v0))), (1, .inl v1), (3, .inl v3), (4, .inl v4), (5, .inl v5), (6, .inl v6), (7, .inl v7), (8, .inr (.inl v8)), (10, .inr (.inl v10)), (12, .inl v12), (15, .inl v15)]) (st' := [.inl (0 : Int32)]) (pc' := 314) rfl ?_
  exact aX7_leastMakers_b314 ok hres (F := F) r k322 hr hk322 _ _ _ _ _ _ _ _ _ _ _ _ _ h
set_option maxRecDepth 100000 in
set_option maxHeartbeats 4000000 in
theorem aX7_leastMakers_h267 {X : gX} (ok : gOk X cX7_leastMakers RX7 16 (some .int) rmX7_leastMakers) {res : Int32 × gW} (hres : gRs X (some (.int res.1)) res.2) {F : Nat} (r : Nat → Int32 → Int32 → Int32 → Int32 → Int32 → Int32 → Int64 → Int64 → Int32 → Int32 → Int32 → gW → Option (Int32 × gW)) (k322 : Nat → Int32 → Int32 → Int32 → Int32 → Int32 → Int32 → Int64 → Int64 → Int32 → Int32 → gW → Option (Int32 × gW)) (hr : ∀ (v0 : Nat) (v1 : Int32) (v3 : Int32) (v4 : Int32) (v5 : Int32) (v6 : Int32) (v7 : Int32) (v8 : Int64) (v10 : Int64) (v12 : Int32) (v14 : Int32) (v15 : Int32) (w : gW), r v0 v1 v3 v4 v5 v6 v7 v8 v10 v12 v14 v15 w = some res → Wx X w 0 0 267 [(0, .inr (.inr (some v0))), (1, .inl v1), (3, .inl v3), (4, .inl v4), (5, .inl v5), (6, .inl v6), (7, .inl v7), (8, .inr (.inl v8)), (10, .inr (.inl v10)), (12, .inl v12), (14, .inl v14), (15, .inl v15)] []) (hk322 : ∀ (v0 : Nat) (v1 : Int32) (v3 : Int32) (v4 : Int32) (v5 : Int32) (v6 : Int32) (v7 : Int32) (v8 : Int64) (v10 : Int64) (v12 : Int32) (v14 : Int32) (w : gW), k322 v0 v1 v3 v4 v5 v6 v7 v8 v10 v12 v14 w = some res → Wx X w 0 0 322 [(0, .inr (.inr (some v0))), (1, .inl v1), (3, .inl v3), (4, .inl v4), (5, .inl v5), (6, .inl v6), (7, .inl v7), (8, .inr (.inl v8)), (10, .inr (.inl v10)), (12, .inl v12), (14, .inl v14)] []) : ∀ (v0 : Nat) (v1 : Int32) (v3 : Int32) (v4 : Int32) (v5 : Int32) (v6 : Int32) (v7 : Int32) (v8 : Int64) (v10 : Int64) (v12 : Int32) (v14 : Int32) (v15 : Int32) (w : gW), mX7_leastMakers_h267 F r k322 v0 v1 v3 v4 v5 v6 v7 v8 v10 v12 v14 v15 w = some res → Wx X w 0 0 267 [(0, .inr (.inr (some v0))), (1, .inl v1), (3, .inl v3), (4, .inl v4), (5, .inl v5), (6, .inl v6), (7, .inl v7), (8, .inr (.inl v8)), (10, .inr (.inl v10)), (12, .inl v12), (14, .inl v14), (15, .inl v15)] [] := by
  intro v0 v1 v3 v4 v5 v6 v7 v8 v10 v12 v14 v15 w h
  unfold mX7_leastMakers_h267 at h
  refine Wx.run ok kX7_leastMakers 154 2 (lv' := [(0, .inr (.inr (some v0))), (1, .inl v1), (3, .inl v3), (4, .inl v4), (5, .inl v5), (6, .inl v6), (7, .inl v7), (8, .inr (.inl v8)), (10, .inr (.inl v10)), (12, .inl v12), (14, .inl v14), (15, .inl v15)]) (st' := [.inl v6, .inl v15]) (pc' := 271) rfl ?_
  refine Wx.icmp_ge ok kX7_leastMakers 156 (tgt := 322) rfl (by decide) h (fun hc271 h => ?_) (fun hc271 h => ?_)
  · refine Wx.sub [0, 1, 2, 3, 4, 5, 6, 7, 8, 9, 10] rfl ?_
    exact hk322 _ _ _ _ _ _ _ _ _ _ _ _ h
  · refine Wx.run ok kX7_leastMakers 157 1 (lv' := [(0, .inr (.inr (some v0))), (1, .inl v1), (3, .inl v3), (4, .inl v4), (5, .inl v5), (6, .inl v6), (7, .inl v7), (8, .inr (.inl v8)), (10, .inr (.inl v10)), (12, .inl v12), (14, .inl v14), (15, .inl v15)]) (st' := [.inl v14]) (pc' := 276) rfl ?_
    refine Wx.if_ne ok kX7_leastMakers 158 (tgt := 309) rfl (by decide) h (fun hc276 h => ?_) (fun hc276 h => ?_)
    · refine Wx.run ok kX7_leastMakers 159 1 (lv' := [(0, .inr (.inr (some v0))), (1, .inl v1), (3, .inl v3), (4, .inl v4), (5, .inl v5), (6, .inl v6), (7, .inl v7), (8, .inr (.inl v8)), (10, .inr (.inl v10)), (12, .inl v12), (14, .inl v14), (15, .inl v15)]) (st' := [.inr (.inr (some v0))]) (pc' := 280) rfl ?_
      refine Wx.getR ok kX7_leastMakers 160 rfl lk_RX7_47_0 h (fun t280 h => ?_)
      refine Wx.run ok kX7_leastMakers 161 1 (lv' := [(0, .inr (.inr (some v0))), (1, .inl v1), (3, .inl v3), (4, .inl v4), (5, .inl v5), (6, .inl v6), (7, .inl v7), (8, .inr (.inl v8)), (10, .inr (.inl v10)), (12, .inl v12), (14, .inl v14), (15, .inl v15)]) (st' := [.inl v15, .inr (.inr t280)]) (pc' := 285) rfl ?_
      refine Wx.lald ok kX7_leastMakers 162 rfl h (fun t285 h => ?_)
      refine Wx.run ok kX7_leastMakers 163 1 (lv' := [(0, .inr (.inr (some v0))), (1, .inl v1), (3, .inl v3), (4, .inl v4), (5, .inl v5), (6, .inl v6), (7, .inl v7), (8, .inr (.inl v8)), (10, .inr (.inl v10)), (12, .inl v12), (14, .inl v14), (15, .inl v15)]) (st' := [.inr (.inr (some v0)), .inr (.inl t285)]) (pc' := 287) rfl ?_
      refine Wx.getL ok kX7_leastMakers 164 rfl lk_RX7_149_0 h (fun t287 h => ?_)
      refine Wx.run ok kX7_leastMakers 165 1 (lv' := [(0, .inr (.inr (some v0))), (1, .inl v1), (3, .inl v3), (4, .inl v4), (5, .inl v5), (6, .inl v6), (7, .inl v7), (8, .inr (.inl v8)), (10, .inr (.inl v10)), (12, .inl v12), (14, .inl v14), (15, .inl v15)]) (st' := [.inl (lg_cmp t285 t287)]) (pc' := 291) rfl ?_
      refine Wx.if_ne ok kX7_leastMakers 166 (tgt := 313) rfl (by decide) h (fun hc291 h => ?_) (fun hc291 h => ?_)
      · refine Wx.run ok kX7_leastMakers 167 1 (lv' := [(0, .inr (.inr (some v0))), (1, .inl v1), (3, .inl v3), (4, .inl v4), (5, .inl v5), (6, .inl v6), (7, .inl v7), (8, .inr (.inl v8)), (10, .inr (.inl v10)), (12, .inl v12), (14, .inl v14), (15, .inl v15)]) (st' := [.inr (.inr (some v0))]) (pc' := 295) rfl ?_
        refine Wx.getR ok kX7_leastMakers 168 rfl lk_RX7_51_0 h (fun t295 h => ?_)
        refine Wx.run ok kX7_leastMakers 169 1 (lv' := [(0, .inr (.inr (some v0))), (1, .inl v1), (3, .inl v3), (4, .inl v4), (5, .inl v5), (6, .inl v6), (7, .inl v7), (8, .inr (.inl v8)), (10, .inr (.inl v10)), (12, .inl v12), (14, .inl v14), (15, .inl v15)]) (st' := [.inl v15, .inr (.inr t295)]) (pc' := 300) rfl ?_
        refine Wx.lald ok kX7_leastMakers 170 rfl h (fun t300 h => ?_)
        refine Wx.run ok kX7_leastMakers 171 1 (lv' := [(0, .inr (.inr (some v0))), (1, .inl v1), (3, .inl v3), (4, .inl v4), (5, .inl v5), (6, .inl v6), (7, .inl v7), (8, .inr (.inl v8)), (10, .inr (.inl v10)), (12, .inl v12), (14, .inl v14), (15, .inl v15)]) (st' := [.inr (.inr (some v0)), .inr (.inl t300)]) (pc' := 302) rfl ?_
        refine Wx.getL ok kX7_leastMakers 172 rfl lk_RX7_153_0 h (fun t302 h => ?_)
        refine Wx.run ok kX7_leastMakers 173 1 (lv' := [(0, .inr (.inr (some v0))), (1, .inl v1), (3, .inl v3), (4, .inl v4), (5, .inl v5), (6, .inl v6), (7, .inl v7), (8, .inr (.inl v8)), (10, .inr (.inl v10)), (12, .inl v12), (14, .inl v14), (15, .inl v15)]) (st' := [.inl (lg_cmp t300 t302)]) (pc' := 306) rfl ?_
        refine Wx.if_ne ok kX7_leastMakers 174 (tgt := 313) rfl (by decide) h (fun hc306 h => ?_) (fun hc306 h => ?_)
        · refine Wx.sub [0, 1, 2, 3, 4, 5, 6, 7, 8, 9, 11] rfl ?_
          exact aX7_leastMakers_b309 ok hres (F := F) r k322 hr hk322 _ _ _ _ _ _ _ _ _ _ _ _ h
        · refine Wx.sub [0, 1, 2, 3, 4, 5, 6, 7, 8, 9, 11] rfl ?_
          exact aX7_leastMakers_b313 ok hres (F := F) r k322 hr hk322 _ _ _ _ _ _ _ _ _ _ _ _ h
      · refine Wx.sub [0, 1, 2, 3, 4, 5, 6, 7, 8, 9, 11] rfl ?_
        exact aX7_leastMakers_b313 ok hres (F := F) r k322 hr hk322 _ _ _ _ _ _ _ _ _ _ _ _ h
    · refine Wx.sub [0, 1, 2, 3, 4, 5, 6, 7, 8, 9, 11] rfl ?_
      exact aX7_leastMakers_b309 ok hres (F := F) r k322 hr hk322 _ _ _ _ _ _ _ _ _ _ _ _ h
set_option maxRecDepth 100000 in
set_option maxHeartbeats 4000000 in
theorem aX7_leastMakers_l267 {X : gX} (ok : gOk X cX7_leastMakers RX7 16 (some .int) rmX7_leastMakers) {res : Int32 × gW} (hres : gRs X (some (.int res.1)) res.2) {F : Nat} (k322 : Nat → Int32 → Int32 → Int32 → Int32 → Int32 → Int32 → Int64 → Int64 → Int32 → Int32 → gW → Option (Int32 × gW)) (hk322 : ∀ (v0 : Nat) (v1 : Int32) (v3 : Int32) (v4 : Int32) (v5 : Int32) (v6 : Int32) (v7 : Int32) (v8 : Int64) (v10 : Int64) (v12 : Int32) (v14 : Int32) (w : gW), k322 v0 v1 v3 v4 v5 v6 v7 v8 v10 v12 v14 w = some res → Wx X w 0 0 322 [(0, .inr (.inr (some v0))), (1, .inl v1), (3, .inl v3), (4, .inl v4), (5, .inl v5), (6, .inl v6), (7, .inl v7), (8, .inr (.inl v8)), (10, .inr (.inl v10)), (12, .inl v12), (14, .inl v14)] []) : ∀ (n : Nat) (v0 : Nat) (v1 : Int32) (v3 : Int32) (v4 : Int32) (v5 : Int32) (v6 : Int32) (v7 : Int32) (v8 : Int64) (v10 : Int64) (v12 : Int32) (v14 : Int32) (v15 : Int32) (w : gW), mX7_leastMakers_l267 F k322 n v0 v1 v3 v4 v5 v6 v7 v8 v10 v12 v14 v15 w = some res → Wx X w 0 0 267 [(0, .inr (.inr (some v0))), (1, .inl v1), (3, .inl v3), (4, .inl v4), (5, .inl v5), (6, .inl v6), (7, .inl v7), (8, .inr (.inl v8)), (10, .inr (.inl v10)), (12, .inl v12), (14, .inl v14), (15, .inl v15)] [] := by
  intro n
  induction n with
  | zero => intro v0 v1 v3 v4 v5 v6 v7 v8 v10 v12 v14 v15 w h; cases (show (none : Option (Int32 × gW)) = some res from h)
  | succ n ih =>
    intro v0 v1 v3 v4 v5 v6 v7 v8 v10 v12 v14 v15 w h
    exact aX7_leastMakers_h267 ok hres (F := F) (mX7_leastMakers_l267 F k322 n) k322 ih hk322 v0 v1 v3 v4 v5 v6 v7 v8 v10 v12 v14 v15 w h
set_option maxRecDepth 100000 in
set_option maxHeartbeats 4000000 in
theorem aX7_leastMakers_h352 {X : gX} (ok : gOk X cX7_leastMakers RX7 16 (some .int) rmX7_leastMakers) {res : Int32 × gW} (hres : gRs X (some (.int res.1)) res.2) {F : Nat} (r : Nat → Int32 → Int32 → Int32 → Int32 → Int32 → Int32 → Int64 → Int64 → Int32 → Int32 → gW → Option (Int32 × gW)) (k385 : Nat → Int32 → Int32 → Int32 → Int32 → Int32 → Int32 → Int64 → Int64 → Int32 → gW → Option (Int32 × gW)) (hr : ∀ (v0 : Nat) (v1 : Int32) (v3 : Int32) (v4 : Int32) (v5 : Int32) (v6 : Int32) (v7 : Int32) (v8 : Int64) (v10 : Int64) (v12 : Int32) (v15 : Int32) (w : gW), r v0 v1 v3 v4 v5 v6 v7 v8 v10 v12 v15 w = some res → Wx X w 0 0 352 [(0, .inr (.inr (some v0))), (1, .inl v1), (3, .inl v3), (4, .inl v4), (5, .inl v5), (6, .inl v6), (7, .inl v7), (8, .inr (.inl v8)), (10, .inr (.inl v10)), (12, .inl v12), (15, .inl v15)] []) (hk385 : ∀ (v0 : Nat) (v1 : Int32) (v3 : Int32) (v4 : Int32) (v5 : Int32) (v6 : Int32) (v7 : Int32) (v8 : Int64) (v10 : Int64) (v12 : Int32) (w : gW), k385 v0 v1 v3 v4 v5 v6 v7 v8 v10 v12 w = some res → Wx X w 0 0 385 [(0, .inr (.inr (some v0))), (1, .inl v1), (3, .inl v3), (4, .inl v4), (5, .inl v5), (6, .inl v6), (7, .inl v7), (8, .inr (.inl v8)), (10, .inr (.inl v10)), (12, .inl v12)] []) : ∀ (v0 : Nat) (v1 : Int32) (v3 : Int32) (v4 : Int32) (v5 : Int32) (v6 : Int32) (v7 : Int32) (v8 : Int64) (v10 : Int64) (v12 : Int32) (v15 : Int32) (w : gW), mX7_leastMakers_h352 F r k385 v0 v1 v3 v4 v5 v6 v7 v8 v10 v12 v15 w = some res → Wx X w 0 0 352 [(0, .inr (.inr (some v0))), (1, .inl v1), (3, .inl v3), (4, .inl v4), (5, .inl v5), (6, .inl v6), (7, .inl v7), (8, .inr (.inl v8)), (10, .inr (.inl v10)), (12, .inl v12), (15, .inl v15)] [] := by
  intro v0 v1 v3 v4 v5 v6 v7 v8 v10 v12 v15 w h
  unfold mX7_leastMakers_h352 at h
  refine Wx.run ok kX7_leastMakers 197 2 (lv' := [(0, .inr (.inr (some v0))), (1, .inl v1), (3, .inl v3), (4, .inl v4), (5, .inl v5), (6, .inl v6), (7, .inl v7), (8, .inr (.inl v8)), (10, .inr (.inl v10)), (12, .inl v12), (15, .inl v15)]) (st' := [.inl v4, .inl v15]) (pc' := 356) rfl ?_
  refine Wx.icmp_gt ok kX7_leastMakers 199 (tgt := 385) rfl (by decide) h (fun hc356 h => ?_) (fun hc356 h => ?_)
  · refine Wx.sub [0, 1, 2, 3, 4, 5, 6, 7, 8, 9] rfl ?_
    exact hk385 _ _ _ _ _ _ _ _ _ _ _ h
  · refine Wx.run ok kX7_leastMakers 200 1 (lv' := [(0, .inr (.inr (some v0))), (1, .inl v1), (3, .inl v3), (4, .inl v4), (5, .inl v5), (6, .inl v6), (7, .inl v7), (8, .inr (.inl v8)), (10, .inr (.inl v10)), (12, .inl v12), (15, .inl v15)]) (st' := [.inr (.inr (some v0))]) (pc' := 360) rfl ?_
    refine Wx.getR ok kX7_leastMakers 201 rfl lk_RX7_55_0 h (fun t360 h => ?_)
    refine Wx.run ok kX7_leastMakers 202 6 (lv' := [(0, .inr (.inr (some v0))), (1, .inl v1), (3, .inl v3), (4, .inl v4), (5, .inl v5), (6, .inl v6), (7, .inl v7), (8, .inr (.inl v8)), (10, .inr (.inl v10)), (12, .inl v12), (15, .inl v15)]) (st' := [.inr (.inr (some v0)), .inl (((8 : Int32) * v6) + v15), .inr (.inr t360)]) (pc' := 372) rfl ?_
    refine Wx.getR ok kX7_leastMakers 208 rfl lk_RX7_41_0 h (fun t372 h => ?_)
    refine Wx.run ok kX7_leastMakers 209 1 (lv' := [(0, .inr (.inr (some v0))), (1, .inl v1), (3, .inl v3), (4, .inl v4), (5, .inl v5), (6, .inl v6), (7, .inl v7), (8, .inr (.inl v8)), (10, .inr (.inl v10)), (12, .inl v12), (15, .inl v15)]) (st' := [.inl v15, .inr (.inr t372), .inl (((8 : Int32) * v6) + v15), .inr (.inr t360)]) (pc' := 377) rfl ?_
    refine Wx.iald ok kX7_leastMakers 210 rfl h (fun t377 h => ?_)
    refine Wx.iast ok kX7_leastMakers 211 rfl h (fun w378 h => ?_)
    refine Wx.run ok kX7_leastMakers 212 1 (lv' := [(15, .inl (v15 + (1 : Int32))), (0, .inr (.inr (some v0))), (1, .inl v1), (3, .inl v3), (4, .inl v4), (5, .inl v5), (6, .inl v6), (7, .inl v7), (8, .inr (.inl v8)), (10, .inr (.inl v10)), (12, .inl v12)]) (st' := []) (pc' := 382) rfl ?_
    refine Wx.jump ok kX7_leastMakers 213 (tgt := 352) rfl (by decide) ?_
    refine Wx.sub [1, 2, 3, 4, 5, 6, 7, 8, 9, 10, 0] rfl ?_
    exact hr _ _ _ _ _ _ _ _ _ _ _ _ h
set_option maxRecDepth 100000 in
set_option maxHeartbeats 4000000 in
theorem aX7_leastMakers_l352 {X : gX} (ok : gOk X cX7_leastMakers RX7 16 (some .int) rmX7_leastMakers) {res : Int32 × gW} (hres : gRs X (some (.int res.1)) res.2) {F : Nat} (k385 : Nat → Int32 → Int32 → Int32 → Int32 → Int32 → Int32 → Int64 → Int64 → Int32 → gW → Option (Int32 × gW)) (hk385 : ∀ (v0 : Nat) (v1 : Int32) (v3 : Int32) (v4 : Int32) (v5 : Int32) (v6 : Int32) (v7 : Int32) (v8 : Int64) (v10 : Int64) (v12 : Int32) (w : gW), k385 v0 v1 v3 v4 v5 v6 v7 v8 v10 v12 w = some res → Wx X w 0 0 385 [(0, .inr (.inr (some v0))), (1, .inl v1), (3, .inl v3), (4, .inl v4), (5, .inl v5), (6, .inl v6), (7, .inl v7), (8, .inr (.inl v8)), (10, .inr (.inl v10)), (12, .inl v12)] []) : ∀ (n : Nat) (v0 : Nat) (v1 : Int32) (v3 : Int32) (v4 : Int32) (v5 : Int32) (v6 : Int32) (v7 : Int32) (v8 : Int64) (v10 : Int64) (v12 : Int32) (v15 : Int32) (w : gW), mX7_leastMakers_l352 F k385 n v0 v1 v3 v4 v5 v6 v7 v8 v10 v12 v15 w = some res → Wx X w 0 0 352 [(0, .inr (.inr (some v0))), (1, .inl v1), (3, .inl v3), (4, .inl v4), (5, .inl v5), (6, .inl v6), (7, .inl v7), (8, .inr (.inl v8)), (10, .inr (.inl v10)), (12, .inl v12), (15, .inl v15)] [] := by
  intro n
  induction n with
  | zero => intro v0 v1 v3 v4 v5 v6 v7 v8 v10 v12 v15 w h; cases (show (none : Option (Int32 × gW)) = some res from h)
  | succ n ih =>
    intro v0 v1 v3 v4 v5 v6 v7 v8 v10 v12 v15 w h
    exact aX7_leastMakers_h352 ok hres (F := F) (mX7_leastMakers_l352 F k385 n) k385 ih hk385 v0 v1 v3 v4 v5 v6 v7 v8 v10 v12 v15 w h
set_option maxRecDepth 100000 in
set_option maxHeartbeats 4000000 in
theorem aX7_leastMakers_b259 {X : gX} (ok : gOk X cX7_leastMakers RX7 16 (some .int) rmX7_leastMakers) {res : Int32 × gW} (hres : gRs X (some (.int res.1)) res.2) {F : Nat} (r : Nat → Int32 → Int32 → Int32 → Int32 → Int32 → Int32 → Int64 → Int64 → Int32 → gW → Option (Int32 × gW)) (k394 : Nat → Int32 → Int32 → Int32 → Int32 → Int32 → Int32 → gW → Option (Int32 × gW)) (hr : ∀ (v0 : Nat) (v1 : Int32) (v3 : Int32) (v4 : Int32) (v5 : Int32) (v6 : Int32) (v7 : Int32) (v8 : Int64) (v10 : Int64) (v12 : Int32) (w : gW), r v0 v1 v3 v4 v5 v6 v7 v8 v10 v12 w = some res → Wx X w 0 0 99 [(0, .inr (.inr (some v0))), (1, .inl v1), (3, .inl v3), (4, .inl v4), (5, .inl v5), (6, .inl v6), (7, .inl v7), (8, .inr (.inl v8)), (10, .inr (.inl v10)), (12, .inl v12)] []) (hk394 : ∀ (v0 : Nat) (v1 : Int32) (v3 : Int32) (v4 : Int32) (v5 : Int32) (v6 : Int32) (v7 : Int32) (w : gW), k394 v0 v1 v3 v4 v5 v6 v7 w = some res → Wx X w 0 0 394 [(0, .inr (.inr (some v0))), (1, .inl v1), (3, .inl v3), (4, .inl v4), (5, .inl v5), (6, .inl v6), (7, .inl v7)] []) : ∀ (v0 : Nat) (v1 : Int32) (v3 : Int32) (v4 : Int32) (v6 : Int32) (v7 : Int32) (v8 : Int64) (v10 : Int64) (v12 : Int32) (s0 : Int32) (w : gW), mX7_leastMakers_b259 F r k394 v0 v1 v3 v4 v6 v7 v8 v10 v12 s0 w = some res → Wx X w 0 0 259 [(0, .inr (.inr (some v0))), (1, .inl v1), (3, .inl v3), (4, .inl v4), (6, .inl v6), (7, .inl v7), (8, .inr (.inl v8)), (10, .inr (.inl v10)), (12, .inl v12)] [.inl s0] := by
  intro v0 v1 v3 v4 v6 v7 v8 v10 v12 s0 w h
  unfold mX7_leastMakers_b259 at h
  refine Wx.run ok kX7_leastMakers 149 5 (lv' := [(15, .inl v3), (14, .inl (0 : Int32)), (5, .inl s0), (0, .inr (.inr (some v0))), (1, .inl v1), (3, .inl v3), (4, .inl v4), (6, .inl v6), (7, .inl v7), (8, .inr (.inl v8)), (10, .inr (.inl v10)), (12, .inl v12)]) (st' := []) (pc' := 267) rfl ?_
  refine Wx.sub [3, 4, 5, 6, 2, 7, 8, 9, 10, 11, 1, 0] rfl ?_
  refine aX7_leastMakers_l267 ok hres (F := F) _ ?_ F _ _ _ _ _ _ _ _ _ _ _ _ _ h
  · intro v0 v1 v3 v4 v5 v6 v7 v8 v10 v12 v14 w h
    refine Wx.run ok kX7_leastMakers 181 1 (lv' := [(0, .inr (.inr (some v0))), (1, .inl v1), (3, .inl v3), (4, .inl v4), (5, .inl v5), (6, .inl v6), (7, .inl v7), (8, .inr (.inl v8)), (10, .inr (.inl v10)), (12, .inl v12), (14, .inl v14)]) (st' := [.inl v14]) (pc' := 324) rfl ?_
    refine Wx.if_ne ok kX7_leastMakers 182 (tgt := 388) rfl (by decide) h (fun hc324 h => ?_) (fun hc324 h => ?_)
    · refine Wx.run ok kX7_leastMakers 183 1 (lv' := [(0, .inr (.inr (some v0))), (1, .inl v1), (3, .inl v3), (4, .inl v4), (5, .inl v5), (6, .inl v6), (7, .inl v7), (8, .inr (.inl v8)), (10, .inr (.inl v10)), (12, .inl v12), (14, .inl v14)]) (st' := [.inr (.inr (some v0))]) (pc' := 328) rfl ?_
      refine Wx.getR ok kX7_leastMakers 184 rfl lk_RX7_47_0 h (fun t328 h => ?_)
      refine Wx.run ok kX7_leastMakers 185 2 (lv' := [(0, .inr (.inr (some v0))), (1, .inl v1), (3, .inl v3), (4, .inl v4), (5, .inl v5), (6, .inl v6), (7, .inl v7), (8, .inr (.inl v8)), (10, .inr (.inl v10)), (12, .inl v12), (14, .inl v14)]) (st' := [.inr (.inr (some v0)), .inl v6, .inr (.inr t328)]) (pc' := 334) rfl ?_
      refine Wx.getL ok kX7_leastMakers 187 rfl lk_RX7_149_0 h (fun t334 h => ?_)
      refine Wx.last ok kX7_leastMakers 188 rfl h (fun w337 h => ?_)
      refine Wx.run ok kX7_leastMakers 189 1 (lv' := [(0, .inr (.inr (some v0))), (1, .inl v1), (3, .inl v3), (4, .inl v4), (5, .inl v5), (6, .inl v6), (7, .inl v7), (8, .inr (.inl v8)), (10, .inr (.inl v10)), (12, .inl v12), (14, .inl v14)]) (st' := [.inr (.inr (some v0))]) (pc' := 339) rfl ?_
      refine Wx.getR ok kX7_leastMakers 190 rfl lk_RX7_51_0 h (fun t339 h => ?_)
      refine Wx.run ok kX7_leastMakers 191 2 (lv' := [(0, .inr (.inr (some v0))), (1, .inl v1), (3, .inl v3), (4, .inl v4), (5, .inl v5), (6, .inl v6), (7, .inl v7), (8, .inr (.inl v8)), (10, .inr (.inl v10)), (12, .inl v12), (14, .inl v14)]) (st' := [.inr (.inr (some v0)), .inl v6, .inr (.inr t339)]) (pc' := 345) rfl ?_
      refine Wx.getL ok kX7_leastMakers 193 rfl lk_RX7_153_0 h (fun t345 h => ?_)
      refine Wx.last ok kX7_leastMakers 194 rfl h (fun w348 h => ?_)
      refine Wx.run ok kX7_leastMakers 195 2 (lv' := [(15, .inl (0 : Int32)), (0, .inr (.inr (some v0))), (1, .inl v1), (3, .inl v3), (4, .inl v4), (5, .inl v5), (6, .inl v6), (7, .inl v7), (8, .inr (.inl v8)), (10, .inr (.inl v10)), (12, .inl v12), (14, .inl v14)]) (st' := []) (pc' := 352) rfl ?_
      refine Wx.sub [1, 2, 3, 4, 5, 6, 7, 8, 9, 10, 0] rfl ?_
      refine aX7_leastMakers_l352 ok hres (F := F) _ ?_ F _ _ _ _ _ _ _ _ _ _ _ _ h
      · intro v0 v1 v3 v4 v5 v6 v7 v8 v10 v12 w h
        refine Wx.run ok kX7_leastMakers 214 1 (lv' := [(6, .inl (v6 + (1 : Int32))), (0, .inr (.inr (some v0))), (1, .inl v1), (3, .inl v3), (4, .inl v4), (5, .inl v5), (7, .inl v7), (8, .inr (.inl v8)), (10, .inr (.inl v10)), (12, .inl v12)]) (st' := []) (pc' := 388) rfl ?_
        refine Wx.sub [1, 2, 3, 4, 5, 0, 6, 7, 8, 9] rfl ?_
        exact aX7_leastMakers_b388 ok hres (F := F) r k394 hr hk394 _ _ _ _ _ _ _ _ _ _ _ h
    · refine Wx.sub [0, 1, 2, 3, 4, 5, 6, 7, 8, 9] rfl ?_
      exact aX7_leastMakers_b388 ok hres (F := F) r k394 hr hk394 _ _ _ _ _ _ _ _ _ _ _ h
set_option maxRecDepth 100000 in
set_option maxHeartbeats 4000000 in
theorem aX7_leastMakers_b162 {X : gX} (ok : gOk X cX7_leastMakers RX7 16 (some .int) rmX7_leastMakers) {res : Int32 × gW} (hres : gRs X (some (.int res.1)) res.2) {F : Nat} (r : Nat → Int32 → Int32 → Int32 → Int32 → Int32 → Int32 → Int64 → Int64 → Int32 → gW → Option (Int32 × gW)) (k394 : Nat → Int32 → Int32 → Int32 → Int32 → Int32 → Int32 → gW → Option (Int32 × gW)) (hr : ∀ (v0 : Nat) (v1 : Int32) (v3 : Int32) (v4 : Int32) (v5 : Int32) (v6 : Int32) (v7 : Int32) (v8 : Int64) (v10 : Int64) (v12 : Int32) (w : gW), r v0 v1 v3 v4 v5 v6 v7 v8 v10 v12 w = some res → Wx X w 0 0 99 [(0, .inr (.inr (some v0))), (1, .inl v1), (3, .inl v3), (4, .inl v4), (5, .inl v5), (6, .inl v6), (7, .inl v7), (8, .inr (.inl v8)), (10, .inr (.inl v10)), (12, .inl v12)] []) (hk394 : ∀ (v0 : Nat) (v1 : Int32) (v3 : Int32) (v4 : Int32) (v5 : Int32) (v6 : Int32) (v7 : Int32) (w : gW), k394 v0 v1 v3 v4 v5 v6 v7 w = some res → Wx X w 0 0 394 [(0, .inr (.inr (some v0))), (1, .inl v1), (3, .inl v3), (4, .inl v4), (5, .inl v5), (6, .inl v6), (7, .inl v7)] []) : ∀ (v0 : Nat) (v1 : Int32) (v3 : Int32) (v4 : Int32) (v5 : Int32) (v6 : Int32) (v7 : Int32) (v8 : Int64) (v10 : Int64) (v12 : Int32) (s0 : Int32) (w : gW), mX7_leastMakers_b162 F r k394 v0 v1 v3 v4 v5 v6 v7 v8 v10 v12 s0 w = some res → Wx X w 0 0 162 [(0, .inr (.inr (some v0))), (1, .inl v1), (3, .inl v3), (4, .inl v4), (5, .inl v5), (6, .inl v6), (7, .inl v7), (8, .inr (.inl v8)), (10, .inr (.inl v10)), (12, .inl v12)] [.inl s0] := by
  intro v0 v1 v3 v4 v5 v6 v7 v8 v10 v12 s0 w h
  unfold mX7_leastMakers_b162 at h
  refine Wx.run ok kX7_leastMakers 96 2 (lv' := [(13, .inl s0), (0, .inr (.inr (some v0))), (1, .inl v1), (3, .inl v3), (4, .inl v4), (5, .inl v5), (6, .inl v6), (7, .inl v7), (8, .inr (.inl v8)), (10, .inr (.inl v10)), (12, .inl v12)]) (st' := [.inl s0]) (pc' := 166) rfl ?_
  refine Wx.if_ne ok kX7_leastMakers 98 (tgt := 388) rfl (by decide) h (fun hc166 h => ?_) (fun hc166 h => ?_)
  · refine Wx.run ok kX7_leastMakers 99 2 (lv' := [(14, .inl (0 : Int32)), (13, .inl s0), (0, .inr (.inr (some v0))), (1, .inl v1), (3, .inl v3), (4, .inl v4), (5, .inl v5), (6, .inl v6), (7, .inl v7), (8, .inr (.inl v8)), (10, .inr (.inl v10)), (12, .inl v12)]) (st' := []) (pc' := 172) rfl ?_
    refine Wx.sub [2, 3, 4, 5, 7, 8, 9, 10, 11, 0] rfl ?_
    refine aX7_leastMakers_l172 ok hres (F := F) _ ?_ F _ _ _ _ _ _ _ _ _ _ _ h
    · intro v0 v1 v3 v4 v6 v7 v8 v10 v12 w h
      refine Wx.run ok kX7_leastMakers 118 1 (lv' := [(0, .inr (.inr (some v0))), (1, .inl v1), (3, .inl v3), (4, .inl v4), (6, .inl v6), (7, .inl v7), (8, .inr (.inl v8)), (10, .inr (.inl v10)), (12, .inl v12)]) (st' := [.inr (.inr (some v0))]) (pc' := 206) rfl ?_
      refine Wx.getR ok kX7_leastMakers 119 rfl lk_RX7_41_0 h (fun t206 h => ?_)
      refine Wx.run ok kX7_leastMakers 120 2 (lv' := [(0, .inr (.inr (some v0))), (1, .inl v1), (3, .inl v3), (4, .inl v4), (6, .inl v6), (7, .inl v7), (8, .inr (.inl v8)), (10, .inr (.inl v10)), (12, .inl v12)]) (st' := [.inl v12, .inl v4, .inr (.inr t206)]) (pc' := 213) rfl ?_
      refine Wx.iast ok kX7_leastMakers 122 rfl h (fun w213 h => ?_)
      refine Wx.run ok kX7_leastMakers 123 5 (lv' := [(0, .inr (.inr (some v0))), (1, .inl v1), (3, .inl v3), (4, .inl v4), (6, .inl v6), (7, .inl v7), (8, .inr (.inl v8)), (10, .inr (.inl v10)), (12, .inl v12)]) (st' := [.inl (v4 + (1 : Int32)), .inl v1, .inr (.inr (some v0))]) (pc' := 220) rfl ?_
      obtain ⟨a220, ha220, h⟩ := gob h
      obtain ⟨q220, hq220, h⟩ := gob h
      refine Wx.callV ok kX7_leastMakers 128 rfl lm_RX7_162 cd_X7_makes ha220 [.inl v1, .inl (v4 + (1 : Int32))] none (aX7_makes _ _ hq220) (by decide) rfl (Nat.le_of_ble_eq_true rfl) rfl rfl ?_
      refine Wx.run ok kX7_leastMakers 129 2 (lv' := [(0, .inr (.inr (some v0))), (1, .inl v1), (3, .inl v3), (4, .inl v4), (6, .inl v6), (7, .inl v7), (8, .inr (.inl v8)), (10, .inr (.inl v10)), (12, .inl v12)]) (st' := [.inr (.inr (some v0)), .inr (.inl v8)]) (pc' := 226) rfl ?_
      refine Wx.getL ok kX7_leastMakers 131 rfl lk_RX7_149_0 h (fun t226 h => ?_)
      refine Wx.run ok kX7_leastMakers 132 4 (lv' := [(8, .inr (.inl (v8 ||| t226))), (0, .inr (.inr (some v0))), (1, .inl v1), (3, .inl v3), (4, .inl v4), (6, .inl v6), (7, .inl v7), (10, .inr (.inl v10)), (12, .inl v12)]) (st' := [.inr (.inr (some v0)), .inr (.inl v10)]) (pc' := 235) rfl ?_
      refine Wx.getL ok kX7_leastMakers 136 rfl lk_RX7_153_0 h (fun t235 h => ?_)
      refine Wx.run ok kX7_leastMakers 137 3 (lv' := [(10, .inr (.inl (v10 ||| t235))), (8, .inr (.inl (v8 ||| t226))), (0, .inr (.inr (some v0))), (1, .inl v1), (3, .inl v3), (4, .inl v4), (6, .inl v6), (7, .inl v7), (12, .inl v12)]) (st' := [.inr (.inr (some v0))]) (pc' := 242) rfl ?_
      refine Wx.getI ok kX7_leastMakers 140 rfl lk_RX7_156_0 h (fun t242 h => ?_)
      refine Wx.run ok kX7_leastMakers 141 1 (lv' := [(10, .inr (.inl (v10 ||| t235))), (8, .inr (.inl (v8 ||| t226))), (0, .inr (.inr (some v0))), (1, .inl v1), (3, .inl v3), (4, .inl v4), (6, .inl v6), (7, .inl v7), (12, .inl v12)]) (st' := [.inr (.inr (some v0)), .inl t242]) (pc' := 246) rfl ?_
      refine Wx.getR ok kX7_leastMakers 142 rfl lk_RX7_7_0 h (fun t246 h => ?_)
      refine Wx.run ok kX7_leastMakers 143 1 (lv' := [(10, .inr (.inl (v10 ||| t235))), (8, .inr (.inl (v8 ||| t226))), (0, .inr (.inr (some v0))), (1, .inl v1), (3, .inl v3), (4, .inl v4), (6, .inl v6), (7, .inl v7), (12, .inl v12)]) (st' := [.inl v1, .inr (.inr t246), .inl t242]) (pc' := 250) rfl ?_
      refine Wx.iald ok kX7_leastMakers 144 rfl h (fun t250 h => ?_)
      refine Wx.icmp_ne ok kX7_leastMakers 145 (tgt := 258) rfl (by decide) h (fun hc251 h => ?_) (fun hc251 h => ?_)
      · refine Wx.run ok kX7_leastMakers 146 1 (lv' := [(10, .inr (.inl (v10 ||| t235))), (8, .inr (.inl (v8 ||| t226))), (0, .inr (.inr (some v0))), (1, .inl v1), (3, .inl v3), (4, .inl v4), (6, .inl v6), (7, .inl v7), (12, .inl v12)]) (st' := [.inl (1 : Int32)]) (pc' := 255) rfl ?_
        refine Wx.jump ok kX7_leastMakers 147 (tgt := 259) rfl (by decide) ?_
        refine Wx.sub [2, 3, 4, 5, 6, 7, 1, 0, 8] rfl ?_
        exact aX7_leastMakers_b259 ok hres (F := F) r k394 hr hk394 _ _ _ _ _ _ _ _ _ _ _ h
      · refine Wx.run ok kX7_leastMakers 148 1 (lv' := [(10, .inr (.inl (v10 ||| t235))), (8, .inr (.inl (v8 ||| t226))), (0, .inr (.inr (some v0))), (1, .inl v1), (3, .inl v3), (4, .inl v4), (6, .inl v6), (7, .inl v7), (12, .inl v12)]) (st' := [.inl (0 : Int32)]) (pc' := 259) rfl ?_
        refine Wx.sub [2, 3, 4, 5, 6, 7, 1, 0, 8] rfl ?_
        exact aX7_leastMakers_b259 ok hres (F := F) r k394 hr hk394 _ _ _ _ _ _ _ _ _ _ _ h
  · refine Wx.sub [1, 2, 3, 4, 5, 6, 7, 8, 9, 10] rfl ?_
    exact aX7_leastMakers_b388 ok hres (F := F) r k394 hr hk394 _ _ _ _ _ _ _ _ _ _ _ h
set_option maxRecDepth 100000 in
set_option maxHeartbeats 4000000 in
theorem aX7_leastMakers_h99 {X : gX} (ok : gOk X cX7_leastMakers RX7 16 (some .int) rmX7_leastMakers) {res : Int32 × gW} (hres : gRs X (some (.int res.1)) res.2) {F : Nat} (r : Nat → Int32 → Int32 → Int32 → Int32 → Int32 → Int32 → Int64 → Int64 → Int32 → gW → Option (Int32 × gW)) (k394 : Nat → Int32 → Int32 → Int32 → Int32 → Int32 → Int32 → gW → Option (Int32 × gW)) (hr : ∀ (v0 : Nat) (v1 : Int32) (v3 : Int32) (v4 : Int32) (v5 : Int32) (v6 : Int32) (v7 : Int32) (v8 : Int64) (v10 : Int64) (v12 : Int32) (w : gW), r v0 v1 v3 v4 v5 v6 v7 v8 v10 v12 w = some res → Wx X w 0 0 99 [(0, .inr (.inr (some v0))), (1, .inl v1), (3, .inl v3), (4, .inl v4), (5, .inl v5), (6, .inl v6), (7, .inl v7), (8, .inr (.inl v8)), (10, .inr (.inl v10)), (12, .inl v12)] []) (hk394 : ∀ (v0 : Nat) (v1 : Int32) (v3 : Int32) (v4 : Int32) (v5 : Int32) (v6 : Int32) (v7 : Int32) (w : gW), k394 v0 v1 v3 v4 v5 v6 v7 w = some res → Wx X w 0 0 394 [(0, .inr (.inr (some v0))), (1, .inl v1), (3, .inl v3), (4, .inl v4), (5, .inl v5), (6, .inl v6), (7, .inl v7)] []) : ∀ (v0 : Nat) (v1 : Int32) (v3 : Int32) (v4 : Int32) (v5 : Int32) (v6 : Int32) (v7 : Int32) (v8 : Int64) (v10 : Int64) (v12 : Int32) (w : gW), mX7_leastMakers_h99 F r k394 v0 v1 v3 v4 v5 v6 v7 v8 v10 v12 w = some res → Wx X w 0 0 99 [(0, .inr (.inr (some v0))), (1, .inl v1), (3, .inl v3), (4, .inl v4), (5, .inl v5), (6, .inl v6), (7, .inl v7), (8, .inr (.inl v8)), (10, .inr (.inl v10)), (12, .inl v12)] [] := by
  intro v0 v1 v3 v4 v5 v6 v7 v8 v10 v12 w h
  unfold mX7_leastMakers_h99 at h
  refine Wx.run ok kX7_leastMakers 60 2 (lv' := [(0, .inr (.inr (some v0))), (1, .inl v1), (3, .inl v3), (4, .inl v4), (5, .inl v5), (6, .inl v6), (7, .inl v7), (8, .inr (.inl v8)), (10, .inr (.inl v10)), (12, .inl v12)]) (st' := [.inr (.inr (some v0)), .inl v12]) (pc' := 102) rfl ?_
  refine Wx.getR ok kX7_leastMakers 62 rfl lk_RX7_7_0 h (fun t102 h => ?_)
  refine Wx.run ok kX7_leastMakers 63 1 (lv' := [(0, .inr (.inr (some v0))), (1, .inl v1), (3, .inl v3), (4, .inl v4), (5, .inl v5), (6, .inl v6), (7, .inl v7), (8, .inr (.inl v8)), (10, .inr (.inl v10)), (12, .inl v12)]) (st' := [.inl v1, .inr (.inr t102), .inl v12]) (pc' := 106) rfl ?_
  refine Wx.iald ok kX7_leastMakers 64 rfl h (fun t106 h => ?_)
  refine Wx.icmp_ge ok kX7_leastMakers 65 (tgt := 394) rfl (by decide) h (fun hc107 h => ?_) (fun hc107 h => ?_)
  · refine Wx.sub [0, 1, 2, 3, 4, 5, 6] rfl ?_
    exact hk394 _ _ _ _ _ _ _ _ h
  · refine Wx.run ok kX7_leastMakers 66 1 (lv' := [(0, .inr (.inr (some v0))), (1, .inl v1), (3, .inl v3), (4, .inl v4), (5, .inl v5), (6, .inl v6), (7, .inl v7), (8, .inr (.inl v8)), (10, .inr (.inl v10)), (12, .inl v12)]) (st' := [.inl v5]) (pc' := 112) rfl ?_
    refine Wx.if_ne ok kX7_leastMakers 67 (tgt := 394) rfl (by decide) h (fun hc112 h => ?_) (fun hc112 h => ?_)
    · refine Wx.run ok kX7_leastMakers 68 2 (lv' := [(0, .inr (.inr (some v0))), (1, .inl v1), (3, .inl v3), (4, .inl v4), (5, .inl v5), (6, .inl v6), (7, .inl v7), (8, .inr (.inl v8)), (10, .inr (.inl v10)), (12, .inl v12)]) (st' := [.inl (64 : Int32), .inl v12]) (pc' := 119) rfl ?_
      refine Wx.icmp_ge ok kX7_leastMakers 70 (tgt := 142) rfl (by decide) h (fun hc119 h => ?_) (fun hc119 h => ?_)
      · refine Wx.run ok kX7_leastMakers 83 9 (lv' := [(0, .inr (.inr (some v0))), (1, .inl v1), (3, .inl v3), (4, .inl v4), (5, .inl v5), (6, .inl v6), (7, .inl v7), (8, .inr (.inl v8)), (10, .inr (.inl v10)), (12, .inl v12)]) (st' := [.inl (lg_cmp ((v10 >>> (((v12 - (64 : Int32))).toInt64 &&& 63)) &&& (1 : Int64)) (1 : Int64))]) (pc' := 154) rfl ?_
        refine Wx.if_ne ok kX7_leastMakers 92 (tgt := 161) rfl (by decide) h (fun hc154 h => ?_) (fun hc154 h => ?_)
        · refine Wx.run ok kX7_leastMakers 93 1 (lv' := [(0, .inr (.inr (some v0))), (1, .inl v1), (3, .inl v3), (4, .inl v4), (5, .inl v5), (6, .inl v6), (7, .inl v7), (8, .inr (.inl v8)), (10, .inr (.inl v10)), (12, .inl v12)]) (st' := [.inl (1 : Int32)]) (pc' := 158) rfl ?_
          refine Wx.jump ok kX7_leastMakers 94 (tgt := 162) rfl (by decide) ?_
          exact aX7_leastMakers_b162 ok hres (F := F) r k394 hr hk394 _ _ _ _ _ _ _ _ _ _ _ _ h
        · refine Wx.run ok kX7_leastMakers 95 1 (lv' := [(0, .inr (.inr (some v0))), (1, .inl v1), (3, .inl v3), (4, .inl v4), (5, .inl v5), (6, .inl v6), (7, .inl v7), (8, .inr (.inl v8)), (10, .inr (.inl v10)), (12, .inl v12)]) (st' := [.inl (0 : Int32)]) (pc' := 162) rfl ?_
          exact aX7_leastMakers_b162 ok hres (F := F) r k394 hr hk394 _ _ _ _ _ _ _ _ _ _ _ _ h
      · refine Wx.run ok kX7_leastMakers 71 7 (lv' := [(0, .inr (.inr (some v0))), (1, .inl v1), (3, .inl v3), (4, .inl v4), (5, .inl v5), (6, .inl v6), (7, .inl v7), (8, .inr (.inl v8)), (10, .inr (.inl v10)), (12, .inl v12)]) (st' := [.inl (lg_cmp ((v8 >>> ((v12).toInt64 &&& 63)) &&& (1 : Int64)) (1 : Int64))]) (pc' := 131) rfl ?_
        refine Wx.if_ne ok kX7_leastMakers 78 (tgt := 138) rfl (by decide) h (fun hc131 h => ?_) (fun hc131 h => ?_)
        · refine Wx.run ok kX7_leastMakers 79 1 (lv' := [(0, .inr (.inr (some v0))), (1, .inl v1), (3, .inl v3), (4, .inl v4), (5, .inl v5), (6, .inl v6), (7, .inl v7), (8, .inr (.inl v8)), (10, .inr (.inl v10)), (12, .inl v12)]) (st' := [.inl (1 : Int32)]) (pc' := 135) rfl ?_
          refine Wx.jump ok kX7_leastMakers 80 (tgt := 162) rfl (by decide) ?_
          exact aX7_leastMakers_b162 ok hres (F := F) r k394 hr hk394 _ _ _ _ _ _ _ _ _ _ _ _ h
        · refine Wx.run ok kX7_leastMakers 81 1 (lv' := [(0, .inr (.inr (some v0))), (1, .inl v1), (3, .inl v3), (4, .inl v4), (5, .inl v5), (6, .inl v6), (7, .inl v7), (8, .inr (.inl v8)), (10, .inr (.inl v10)), (12, .inl v12)]) (st' := [.inl (0 : Int32)]) (pc' := 139) rfl ?_
          refine Wx.jump ok kX7_leastMakers 82 (tgt := 162) rfl (by decide) ?_
          exact aX7_leastMakers_b162 ok hres (F := F) r k394 hr hk394 _ _ _ _ _ _ _ _ _ _ _ _ h
    · refine Wx.sub [0, 1, 2, 3, 4, 5, 6] rfl ?_
      exact hk394 _ _ _ _ _ _ _ _ h
set_option maxRecDepth 100000 in
set_option maxHeartbeats 4000000 in
theorem aX7_leastMakers_l99 {X : gX} (ok : gOk X cX7_leastMakers RX7 16 (some .int) rmX7_leastMakers) {res : Int32 × gW} (hres : gRs X (some (.int res.1)) res.2) {F : Nat} (k394 : Nat → Int32 → Int32 → Int32 → Int32 → Int32 → Int32 → gW → Option (Int32 × gW)) (hk394 : ∀ (v0 : Nat) (v1 : Int32) (v3 : Int32) (v4 : Int32) (v5 : Int32) (v6 : Int32) (v7 : Int32) (w : gW), k394 v0 v1 v3 v4 v5 v6 v7 w = some res → Wx X w 0 0 394 [(0, .inr (.inr (some v0))), (1, .inl v1), (3, .inl v3), (4, .inl v4), (5, .inl v5), (6, .inl v6), (7, .inl v7)] []) : ∀ (n : Nat) (v0 : Nat) (v1 : Int32) (v3 : Int32) (v4 : Int32) (v5 : Int32) (v6 : Int32) (v7 : Int32) (v8 : Int64) (v10 : Int64) (v12 : Int32) (w : gW), mX7_leastMakers_l99 F k394 n v0 v1 v3 v4 v5 v6 v7 v8 v10 v12 w = some res → Wx X w 0 0 99 [(0, .inr (.inr (some v0))), (1, .inl v1), (3, .inl v3), (4, .inl v4), (5, .inl v5), (6, .inl v6), (7, .inl v7), (8, .inr (.inl v8)), (10, .inr (.inl v10)), (12, .inl v12)] [] := by
  intro n
  induction n with
  | zero => intro v0 v1 v3 v4 v5 v6 v7 v8 v10 v12 w h; cases (show (none : Option (Int32 × gW)) = some res from h)
  | succ n ih =>
    intro v0 v1 v3 v4 v5 v6 v7 v8 v10 v12 w h
    exact aX7_leastMakers_h99 ok hres (F := F) (mX7_leastMakers_l99 F k394 n) k394 ih hk394 v0 v1 v3 v4 v5 v6 v7 v8 v10 v12 w h
set_option maxRecDepth 100000 in
set_option maxHeartbeats 4000000 in
theorem aX7_leastMakers_b394 {X : gX} (ok : gOk X cX7_leastMakers RX7 16 (some .int) rmX7_leastMakers) {res : Int32 × gW} (hres : gRs X (some (.int res.1)) res.2) {F : Nat} (r : Nat → Int32 → Int32 → Int32 → Int32 → Int32 → Int32 → gW → Option (Int32 × gW)) (k400 : Nat → Int32 → Int32 → Int32 → Int32 → Int32 → gW → Option (Int32 × gW)) (hr : ∀ (v0 : Nat) (v1 : Int32) (v3 : Int32) (v4 : Int32) (v5 : Int32) (v6 : Int32) (v7 : Int32) (w : gW), r v0 v1 v3 v4 v5 v6 v7 w = some res → Wx X w 0 0 67 [(0, .inr (.inr (some v0))), (1, .inl v1), (3, .inl v3), (4, .inl v4), (5, .inl v5), (6, .inl v6), (7, .inl v7)] []) (hk400 : ∀ (v0 : Nat) (v1 : Int32) (v3 : Int32) (v4 : Int32) (v5 : Int32) (v6 : Int32) (w : gW), k400 v0 v1 v3 v4 v5 v6 w = some res → Wx X w 0 0 400 [(0, .inr (.inr (some v0))), (1, .inl v1), (3, .inl v3), (4, .inl v4), (5, .inl v5), (6, .inl v6)] []) : ∀ (v0 : Nat) (v1 : Int32) (v3 : Int32) (v4 : Int32) (v5 : Int32) (v6 : Int32) (v7 : Int32) (w : gW), mX7_leastMakers_b394 F r k400 v0 v1 v3 v4 v5 v6 v7 w = some res → Wx X w 0 0 394 [(0, .inr (.inr (some v0))), (1, .inl v1), (3, .inl v3), (4, .inl v4), (5, .inl v5), (6, .inl v6), (7, .inl v7)] [] := by
  intro v0 v1 v3 v4 v5 v6 v7 w h
  unfold mX7_leastMakers_b394 at h
  refine Wx.run ok kX7_leastMakers 217 1 (lv' := [(7, .inl (v7 + (1 : Int32))), (0, .inr (.inr (some v0))), (1, .inl v1), (3, .inl v3), (4, .inl v4), (5, .inl v5), (6, .inl v6)]) (st' := []) (pc' := 397) rfl ?_
  refine Wx.jump ok kX7_leastMakers 218 (tgt := 67) rfl (by decide) ?_
  refine Wx.sub [1, 2, 3, 4, 5, 6, 0] rfl ?_
  exact hr _ _ _ _ _ _ _ _ h
set_option maxRecDepth 100000 in
set_option maxHeartbeats 4000000 in
theorem aX7_leastMakers_h67 {X : gX} (ok : gOk X cX7_leastMakers RX7 16 (some .int) rmX7_leastMakers) {res : Int32 × gW} (hres : gRs X (some (.int res.1)) res.2) {F : Nat} (r : Nat → Int32 → Int32 → Int32 → Int32 → Int32 → Int32 → gW → Option (Int32 × gW)) (k400 : Nat → Int32 → Int32 → Int32 → Int32 → Int32 → gW → Option (Int32 × gW)) (hr : ∀ (v0 : Nat) (v1 : Int32) (v3 : Int32) (v4 : Int32) (v5 : Int32) (v6 : Int32) (v7 : Int32) (w : gW), r v0 v1 v3 v4 v5 v6 v7 w = some res → Wx X w 0 0 67 [(0, .inr (.inr (some v0))), (1, .inl v1), (3, .inl v3), (4, .inl v4), (5, .inl v5), (6, .inl v6), (7, .inl v7)] []) (hk400 : ∀ (v0 : Nat) (v1 : Int32) (v3 : Int32) (v4 : Int32) (v5 : Int32) (v6 : Int32) (w : gW), k400 v0 v1 v3 v4 v5 v6 w = some res → Wx X w 0 0 400 [(0, .inr (.inr (some v0))), (1, .inl v1), (3, .inl v3), (4, .inl v4), (5, .inl v5), (6, .inl v6)] []) : ∀ (v0 : Nat) (v1 : Int32) (v3 : Int32) (v4 : Int32) (v5 : Int32) (v6 : Int32) (v7 : Int32) (w : gW), mX7_leastMakers_h67 F r k400 v0 v1 v3 v4 v5 v6 v7 w = some res → Wx X w 0 0 67 [(0, .inr (.inr (some v0))), (1, .inl v1), (3, .inl v3), (4, .inl v4), (5, .inl v5), (6, .inl v6), (7, .inl v7)] [] := by
  intro v0 v1 v3 v4 v5 v6 v7 w h
  unfold mX7_leastMakers_h67 at h
  refine Wx.run ok kX7_leastMakers 43 2 (lv' := [(0, .inr (.inr (some v0))), (1, .inl v1), (3, .inl v3), (4, .inl v4), (5, .inl v5), (6, .inl v6), (7, .inl v7)]) (st' := [.inl v3, .inl v7]) (pc' := 70) rfl ?_
  refine Wx.icmp_ge ok kX7_leastMakers 45 (tgt := 400) rfl (by decide) h (fun hc70 h => ?_) (fun hc70 h => ?_)
  · refine Wx.sub [0, 1, 2, 3, 4, 5] rfl ?_
    exact hk400 _ _ _ _ _ _ _ h
  · refine Wx.run ok kX7_leastMakers 46 1 (lv' := [(0, .inr (.inr (some v0))), (1, .inl v1), (3, .inl v3), (4, .inl v4), (5, .inl v5), (6, .inl v6), (7, .inl v7)]) (st' := [.inl v5]) (pc' := 75) rfl ?_
    refine Wx.if_ne ok kX7_leastMakers 47 (tgt := 400) rfl (by decide) h (fun hc75 h => ?_) (fun hc75 h => ?_)
    · refine Wx.run ok kX7_leastMakers 48 1 (lv' := [(0, .inr (.inr (some v0))), (1, .inl v1), (3, .inl v3), (4, .inl v4), (5, .inl v5), (6, .inl v6), (7, .inl v7)]) (st' := [.inr (.inr (some v0))]) (pc' := 79) rfl ?_
      refine Wx.getR ok kX7_leastMakers 49 rfl lk_RX7_47_0 h (fun t79 h => ?_)
      refine Wx.run ok kX7_leastMakers 50 1 (lv' := [(0, .inr (.inr (some v0))), (1, .inl v1), (3, .inl v3), (4, .inl v4), (5, .inl v5), (6, .inl v6), (7, .inl v7)]) (st' := [.inl v7, .inr (.inr t79)]) (pc' := 84) rfl ?_
      refine Wx.lald ok kX7_leastMakers 51 rfl h (fun t84 h => ?_)
      refine Wx.run ok kX7_leastMakers 52 2 (lv' := [(8, .inr (.inl t84)), (0, .inr (.inr (some v0))), (1, .inl v1), (3, .inl v3), (4, .inl v4), (5, .inl v5), (6, .inl v6), (7, .inl v7)]) (st' := [.inr (.inr (some v0))]) (pc' := 88) rfl ?_
      refine Wx.getR ok kX7_leastMakers 54 rfl lk_RX7_51_0 h (fun t88 h => ?_)
      refine Wx.run ok kX7_leastMakers 55 1 (lv' := [(8, .inr (.inl t84)), (0, .inr (.inr (some v0))), (1, .inl v1), (3, .inl v3), (4, .inl v4), (5, .inl v5), (6, .inl v6), (7, .inl v7)]) (st' := [.inl v7, .inr (.inr t88)]) (pc' := 93) rfl ?_
      refine Wx.lald ok kX7_leastMakers 56 rfl h (fun t93 h => ?_)
      refine Wx.run ok kX7_leastMakers 57 3 (lv' := [(12, .inl (0 : Int32)), (10, .inr (.inl t93)), (8, .inr (.inl t84)), (0, .inr (.inr (some v0))), (1, .inl v1), (3, .inl v3), (4, .inl v4), (5, .inl v5), (6, .inl v6), (7, .inl v7)]) (st' := []) (pc' := 99) rfl ?_
      refine Wx.sub [3, 4, 5, 6, 7, 8, 9, 2, 1, 0] rfl ?_
      refine aX7_leastMakers_l99 ok hres (F := F) _ ?_ F _ _ _ _ _ _ _ _ _ _ _ h
      · intro v0 v1 v3 v4 v5 v6 v7 w h
        exact aX7_leastMakers_b394 ok hres (F := F) r k400 hr hk400 _ _ _ _ _ _ _ _ h
    · refine Wx.sub [0, 1, 2, 3, 4, 5] rfl ?_
      exact hk400 _ _ _ _ _ _ _ h
set_option maxRecDepth 100000 in
set_option maxHeartbeats 4000000 in
theorem aX7_leastMakers_l67 {X : gX} (ok : gOk X cX7_leastMakers RX7 16 (some .int) rmX7_leastMakers) {res : Int32 × gW} (hres : gRs X (some (.int res.1)) res.2) {F : Nat} (k400 : Nat → Int32 → Int32 → Int32 → Int32 → Int32 → gW → Option (Int32 × gW)) (hk400 : ∀ (v0 : Nat) (v1 : Int32) (v3 : Int32) (v4 : Int32) (v5 : Int32) (v6 : Int32) (w : gW), k400 v0 v1 v3 v4 v5 v6 w = some res → Wx X w 0 0 400 [(0, .inr (.inr (some v0))), (1, .inl v1), (3, .inl v3), (4, .inl v4), (5, .inl v5), (6, .inl v6)] []) : ∀ (n : Nat) (v0 : Nat) (v1 : Int32) (v3 : Int32) (v4 : Int32) (v5 : Int32) (v6 : Int32) (v7 : Int32) (w : gW), mX7_leastMakers_l67 F k400 n v0 v1 v3 v4 v5 v6 v7 w = some res → Wx X w 0 0 67 [(0, .inr (.inr (some v0))), (1, .inl v1), (3, .inl v3), (4, .inl v4), (5, .inl v5), (6, .inl v6), (7, .inl v7)] [] := by
  intro n
  induction n with
  | zero => intro v0 v1 v3 v4 v5 v6 v7 w h; cases (show (none : Option (Int32 × gW)) = some res from h)
  | succ n ih =>
    intro v0 v1 v3 v4 v5 v6 v7 w h
    exact aX7_leastMakers_h67 ok hres (F := F) (mX7_leastMakers_l67 F k400 n) k400 ih hk400 v0 v1 v3 v4 v5 v6 v7 w h
set_option maxRecDepth 100000 in
set_option maxHeartbeats 4000000 in
theorem aX7_leastMakers_h445 {X : gX} (ok : gOk X cX7_leastMakers RX7 16 (some .int) rmX7_leastMakers) {res : Int32 × gW} (hres : gRs X (some (.int res.1)) res.2) {F : Nat} (r : Nat → Int32 → Int32 → Int32 → Int32 → Int32 → Int32 → Int32 → gW → Option (Int32 × gW)) (k486 : Nat → Int32 → Int32 → Int32 → Int32 → Int32 → Int32 → gW → Option (Int32 × gW)) (hr : ∀ (v0 : Nat) (v1 : Int32) (v3 : Int32) (v4 : Int32) (v5 : Int32) (v6 : Int32) (v7 : Int32) (v8 : Int32) (w : gW), r v0 v1 v3 v4 v5 v6 v7 v8 w = some res → Wx X w 0 0 445 [(0, .inr (.inr (some v0))), (1, .inl v1), (3, .inl v3), (4, .inl v4), (5, .inl v5), (6, .inl v6), (7, .inl v7), (8, .inl v8)] []) (hk486 : ∀ (v0 : Nat) (v1 : Int32) (v3 : Int32) (v4 : Int32) (v5 : Int32) (v6 : Int32) (v7 : Int32) (w : gW), k486 v0 v1 v3 v4 v5 v6 v7 w = some res → Wx X w 0 0 486 [(0, .inr (.inr (some v0))), (1, .inl v1), (3, .inl v3), (4, .inl v4), (5, .inl v5), (6, .inl v6), (7, .inl v7)] []) : ∀ (v0 : Nat) (v1 : Int32) (v3 : Int32) (v4 : Int32) (v5 : Int32) (v6 : Int32) (v7 : Int32) (v8 : Int32) (w : gW), mX7_leastMakers_h445 F r k486 v0 v1 v3 v4 v5 v6 v7 v8 w = some res → Wx X w 0 0 445 [(0, .inr (.inr (some v0))), (1, .inl v1), (3, .inl v3), (4, .inl v4), (5, .inl v5), (6, .inl v6), (7, .inl v7), (8, .inl v8)] [] := by
  intro v0 v1 v3 v4 v5 v6 v7 v8 w h
  unfold mX7_leastMakers_h445 at h
  refine Wx.run ok kX7_leastMakers 246 2 (lv' := [(0, .inr (.inr (some v0))), (1, .inl v1), (3, .inl v3), (4, .inl v4), (5, .inl v5), (6, .inl v6), (7, .inl v7), (8, .inl v8)]) (st' := [.inl (8 : Int32), .inl v8]) (pc' := 449) rfl ?_
  refine Wx.icmp_ge ok kX7_leastMakers 248 (tgt := 486) rfl (by decide) h (fun hc449 h => ?_) (fun hc449 h => ?_)
  · refine Wx.sub [0, 1, 2, 3, 4, 5, 6] rfl ?_
    exact hk486 _ _ _ _ _ _ _ _ h
  · refine Wx.run ok kX7_leastMakers 249 1 (lv' := [(0, .inr (.inr (some v0))), (1, .inl v1), (3, .inl v3), (4, .inl v4), (5, .inl v5), (6, .inl v6), (7, .inl v7), (8, .inl v8)]) (st' := [.inr (.inr (some v0))]) (pc' := 453) rfl ?_
    refine Wx.getR ok kX7_leastMakers 250 rfl lk_RX7_55_0 h (fun t453 h => ?_)
    refine Wx.run ok kX7_leastMakers 251 8 (lv' := [(0, .inr (.inr (some v0))), (1, .inl v1), (3, .inl v3), (4, .inl v4), (5, .inl v5), (6, .inl v6), (7, .inl v7), (8, .inl v8)]) (st' := [.inr (.inr (some v0)), .inl (((8 : Int32) * (v7 - v3)) + v8), .inr (.inr t453)]) (pc' := 467) rfl ?_
    refine Wx.getR ok kX7_leastMakers 259 rfl lk_RX7_55_0 h (fun t467 h => ?_)
    refine Wx.run ok kX7_leastMakers 260 5 (lv' := [(0, .inr (.inr (some v0))), (1, .inl v1), (3, .inl v3), (4, .inl v4), (5, .inl v5), (6, .inl v6), (7, .inl v7), (8, .inl v8)]) (st' := [.inl (((8 : Int32) * v7) + v8), .inr (.inr t467), .inl (((8 : Int32) * (v7 - v3)) + v8), .inr (.inr t453)]) (pc' := 478) rfl ?_
    refine Wx.iald ok kX7_leastMakers 265 rfl h (fun t478 h => ?_)
    refine Wx.iast ok kX7_leastMakers 266 rfl h (fun w479 h => ?_)
    refine Wx.run ok kX7_leastMakers 267 1 (lv' := [(8, .inl (v8 + (1 : Int32))), (0, .inr (.inr (some v0))), (1, .inl v1), (3, .inl v3), (4, .inl v4), (5, .inl v5), (6, .inl v6), (7, .inl v7)]) (st' := []) (pc' := 483) rfl ?_
    refine Wx.jump ok kX7_leastMakers 268 (tgt := 445) rfl (by decide) ?_
    refine Wx.sub [1, 2, 3, 4, 5, 6, 7, 0] rfl ?_
    exact hr _ _ _ _ _ _ _ _ _ h
set_option maxRecDepth 100000 in
set_option maxHeartbeats 4000000 in
theorem aX7_leastMakers_l445 {X : gX} (ok : gOk X cX7_leastMakers RX7 16 (some .int) rmX7_leastMakers) {res : Int32 × gW} (hres : gRs X (some (.int res.1)) res.2) {F : Nat} (k486 : Nat → Int32 → Int32 → Int32 → Int32 → Int32 → Int32 → gW → Option (Int32 × gW)) (hk486 : ∀ (v0 : Nat) (v1 : Int32) (v3 : Int32) (v4 : Int32) (v5 : Int32) (v6 : Int32) (v7 : Int32) (w : gW), k486 v0 v1 v3 v4 v5 v6 v7 w = some res → Wx X w 0 0 486 [(0, .inr (.inr (some v0))), (1, .inl v1), (3, .inl v3), (4, .inl v4), (5, .inl v5), (6, .inl v6), (7, .inl v7)] []) : ∀ (n : Nat) (v0 : Nat) (v1 : Int32) (v3 : Int32) (v4 : Int32) (v5 : Int32) (v6 : Int32) (v7 : Int32) (v8 : Int32) (w : gW), mX7_leastMakers_l445 F k486 n v0 v1 v3 v4 v5 v6 v7 v8 w = some res → Wx X w 0 0 445 [(0, .inr (.inr (some v0))), (1, .inl v1), (3, .inl v3), (4, .inl v4), (5, .inl v5), (6, .inl v6), (7, .inl v7), (8, .inl v8)] [] := by
  intro n
  induction n with
  | zero => intro v0 v1 v3 v4 v5 v6 v7 v8 w h; cases (show (none : Option (Int32 × gW)) = some res from h)
  | succ n ih =>
    intro v0 v1 v3 v4 v5 v6 v7 v8 w h
    exact aX7_leastMakers_h445 ok hres (F := F) (mX7_leastMakers_l445 F k486 n) k486 ih hk486 v0 v1 v3 v4 v5 v6 v7 v8 w h
set_option maxRecDepth 100000 in
set_option maxHeartbeats 4000000 in
theorem aX7_leastMakers_h403 {X : gX} (ok : gOk X cX7_leastMakers RX7 16 (some .int) rmX7_leastMakers) {res : Int32 × gW} (hres : gRs X (some (.int res.1)) res.2) {F : Nat} (r : Nat → Int32 → Int32 → Int32 → Int32 → Int32 → Int32 → gW → Option (Int32 × gW)) (k492 : Nat → Int32 → Int32 → Int32 → Int32 → Int32 → gW → Option (Int32 × gW)) (hr : ∀ (v0 : Nat) (v1 : Int32) (v3 : Int32) (v4 : Int32) (v5 : Int32) (v6 : Int32) (v7 : Int32) (w : gW), r v0 v1 v3 v4 v5 v6 v7 w = some res → Wx X w 0 0 403 [(0, .inr (.inr (some v0))), (1, .inl v1), (3, .inl v3), (4, .inl v4), (5, .inl v5), (6, .inl v6), (7, .inl v7)] []) (hk492 : ∀ (v0 : Nat) (v1 : Int32) (v3 : Int32) (v4 : Int32) (v5 : Int32) (v6 : Int32) (w : gW), k492 v0 v1 v3 v4 v5 v6 w = some res → Wx X w 0 0 492 [(0, .inr (.inr (some v0))), (1, .inl v1), (3, .inl v3), (4, .inl v4), (5, .inl v5), (6, .inl v6)] []) : ∀ (v0 : Nat) (v1 : Int32) (v3 : Int32) (v4 : Int32) (v5 : Int32) (v6 : Int32) (v7 : Int32) (w : gW), mX7_leastMakers_h403 F r k492 v0 v1 v3 v4 v5 v6 v7 w = some res → Wx X w 0 0 403 [(0, .inr (.inr (some v0))), (1, .inl v1), (3, .inl v3), (4, .inl v4), (5, .inl v5), (6, .inl v6), (7, .inl v7)] [] := by
  intro v0 v1 v3 v4 v5 v6 v7 w h
  unfold mX7_leastMakers_h403 at h
  refine Wx.run ok kX7_leastMakers 221 2 (lv' := [(0, .inr (.inr (some v0))), (1, .inl v1), (3, .inl v3), (4, .inl v4), (5, .inl v5), (6, .inl v6), (7, .inl v7)]) (st' := [.inl v6, .inl v7]) (pc' := 407) rfl ?_
  refine Wx.icmp_ge ok kX7_leastMakers 223 (tgt := 492) rfl (by decide) h (fun hc407 h => ?_) (fun hc407 h => ?_)
  · refine Wx.sub [0, 1, 2, 3, 4, 5] rfl ?_
    exact hk492 _ _ _ _ _ _ _ h
  · refine Wx.run ok kX7_leastMakers 224 1 (lv' := [(0, .inr (.inr (some v0))), (1, .inl v1), (3, .inl v3), (4, .inl v4), (5, .inl v5), (6, .inl v6), (7, .inl v7)]) (st' := [.inr (.inr (some v0))]) (pc' := 411) rfl ?_
    refine Wx.getR ok kX7_leastMakers 225 rfl lk_RX7_47_0 h (fun t411 h => ?_)
    refine Wx.run ok kX7_leastMakers 226 4 (lv' := [(0, .inr (.inr (some v0))), (1, .inl v1), (3, .inl v3), (4, .inl v4), (5, .inl v5), (6, .inl v6), (7, .inl v7)]) (st' := [.inr (.inr (some v0)), .inl (v7 - v3), .inr (.inr t411)]) (pc' := 419) rfl ?_
    refine Wx.getR ok kX7_leastMakers 230 rfl lk_RX7_47_0 h (fun t419 h => ?_)
    refine Wx.run ok kX7_leastMakers 231 1 (lv' := [(0, .inr (.inr (some v0))), (1, .inl v1), (3, .inl v3), (4, .inl v4), (5, .inl v5), (6, .inl v6), (7, .inl v7)]) (st' := [.inl v7, .inr (.inr t419), .inl (v7 - v3), .inr (.inr t411)]) (pc' := 424) rfl ?_
    refine Wx.lald ok kX7_leastMakers 232 rfl h (fun t424 h => ?_)
    refine Wx.last ok kX7_leastMakers 233 rfl h (fun w425 h => ?_)
    refine Wx.run ok kX7_leastMakers 234 1 (lv' := [(0, .inr (.inr (some v0))), (1, .inl v1), (3, .inl v3), (4, .inl v4), (5, .inl v5), (6, .inl v6), (7, .inl v7)]) (st' := [.inr (.inr (some v0))]) (pc' := 427) rfl ?_
    refine Wx.getR ok kX7_leastMakers 235 rfl lk_RX7_51_0 h (fun t427 h => ?_)
    refine Wx.run ok kX7_leastMakers 236 4 (lv' := [(0, .inr (.inr (some v0))), (1, .inl v1), (3, .inl v3), (4, .inl v4), (5, .inl v5), (6, .inl v6), (7, .inl v7)]) (st' := [.inr (.inr (some v0)), .inl (v7 - v3), .inr (.inr t427)]) (pc' := 435) rfl ?_
    refine Wx.getR ok kX7_leastMakers 240 rfl lk_RX7_51_0 h (fun t435 h => ?_)
    refine Wx.run ok kX7_leastMakers 241 1 (lv' := [(0, .inr (.inr (some v0))), (1, .inl v1), (3, .inl v3), (4, .inl v4), (5, .inl v5), (6, .inl v6), (7, .inl v7)]) (st' := [.inl v7, .inr (.inr t435), .inl (v7 - v3), .inr (.inr t427)]) (pc' := 440) rfl ?_
    refine Wx.lald ok kX7_leastMakers 242 rfl h (fun t440 h => ?_)
    refine Wx.last ok kX7_leastMakers 243 rfl h (fun w441 h => ?_)
    refine Wx.run ok kX7_leastMakers 244 2 (lv' := [(8, .inl (0 : Int32)), (0, .inr (.inr (some v0))), (1, .inl v1), (3, .inl v3), (4, .inl v4), (5, .inl v5), (6, .inl v6), (7, .inl v7)]) (st' := []) (pc' := 445) rfl ?_
    refine Wx.sub [1, 2, 3, 4, 5, 6, 7, 0] rfl ?_
    refine aX7_leastMakers_l445 ok hres (F := F) _ ?_ F _ _ _ _ _ _ _ _ _ h
    · intro v0 v1 v3 v4 v5 v6 v7 w h
      refine Wx.run ok kX7_leastMakers 269 1 (lv' := [(7, .inl (v7 + (1 : Int32))), (0, .inr (.inr (some v0))), (1, .inl v1), (3, .inl v3), (4, .inl v4), (5, .inl v5), (6, .inl v6)]) (st' := []) (pc' := 489) rfl ?_
      refine Wx.jump ok kX7_leastMakers 270 (tgt := 403) rfl (by decide) ?_
      refine Wx.sub [1, 2, 3, 4, 5, 6, 0] rfl ?_
      exact hr _ _ _ _ _ _ _ _ h
set_option maxRecDepth 100000 in
set_option maxHeartbeats 4000000 in
theorem aX7_leastMakers_l403 {X : gX} (ok : gOk X cX7_leastMakers RX7 16 (some .int) rmX7_leastMakers) {res : Int32 × gW} (hres : gRs X (some (.int res.1)) res.2) {F : Nat} (k492 : Nat → Int32 → Int32 → Int32 → Int32 → Int32 → gW → Option (Int32 × gW)) (hk492 : ∀ (v0 : Nat) (v1 : Int32) (v3 : Int32) (v4 : Int32) (v5 : Int32) (v6 : Int32) (w : gW), k492 v0 v1 v3 v4 v5 v6 w = some res → Wx X w 0 0 492 [(0, .inr (.inr (some v0))), (1, .inl v1), (3, .inl v3), (4, .inl v4), (5, .inl v5), (6, .inl v6)] []) : ∀ (n : Nat) (v0 : Nat) (v1 : Int32) (v3 : Int32) (v4 : Int32) (v5 : Int32) (v6 : Int32) (v7 : Int32) (w : gW), mX7_leastMakers_l403 F k492 n v0 v1 v3 v4 v5 v6 v7 w = some res → Wx X w 0 0 403 [(0, .inr (.inr (some v0))), (1, .inl v1), (3, .inl v3), (4, .inl v4), (5, .inl v5), (6, .inl v6), (7, .inl v7)] [] := by
  intro n
  induction n with
  | zero => intro v0 v1 v3 v4 v5 v6 v7 w h; cases (show (none : Option (Int32 × gW)) = some res from h)
  | succ n ih =>
    intro v0 v1 v3 v4 v5 v6 v7 w h
    exact aX7_leastMakers_h403 ok hres (F := F) (mX7_leastMakers_l403 F k492 n) k492 ih hk492 v0 v1 v3 v4 v5 v6 v7 w h
set_option maxRecDepth 100000 in
set_option maxHeartbeats 4000000 in
theorem aX7_leastMakers_b400 {X : gX} (ok : gOk X cX7_leastMakers RX7 16 (some .int) rmX7_leastMakers) {res : Int32 × gW} (hres : gRs X (some (.int res.1)) res.2) {F : Nat} (r : Nat → Int32 → Int32 → Int32 → Int32 → Int32 → gW → Option (Int32 × gW)) (k505 : Nat → Int32 → Int32 → gW → Option (Int32 × gW)) (hr : ∀ (v0 : Nat) (v1 : Int32) (v2 : Int32) (v3 : Int32) (v4 : Int32) (v5 : Int32) (w : gW), r v0 v1 v2 v3 v4 v5 w = some res → Wx X w 0 0 56 [(0, .inr (.inr (some v0))), (1, .inl v1), (2, .inl v2), (3, .inl v3), (4, .inl v4), (5, .inl v5)] []) (hk505 : ∀ (v0 : Nat) (v1 : Int32) (v4 : Int32) (w : gW), k505 v0 v1 v4 w = some res → Wx X w 0 0 505 [(0, .inr (.inr (some v0))), (1, .inl v1), (4, .inl v4)] []) : ∀ (v0 : Nat) (v1 : Int32) (v3 : Int32) (v4 : Int32) (v5 : Int32) (v6 : Int32) (w : gW), mX7_leastMakers_b400 F r k505 v0 v1 v3 v4 v5 v6 w = some res → Wx X w 0 0 400 [(0, .inr (.inr (some v0))), (1, .inl v1), (3, .inl v3), (4, .inl v4), (5, .inl v5), (6, .inl v6)] [] := by
  intro v0 v1 v3 v4 v5 v6 w h
  unfold mX7_leastMakers_b400 at h
  refine Wx.run ok kX7_leastMakers 219 2 (lv' := [(7, .inl v3), (0, .inr (.inr (some v0))), (1, .inl v1), (3, .inl v3), (4, .inl v4), (5, .inl v5), (6, .inl v6)]) (st' := []) (pc' := 403) rfl ?_
  refine Wx.sub [1, 2, 3, 4, 5, 6, 0] rfl ?_
  refine aX7_leastMakers_l403 ok hres (F := F) _ ?_ F _ _ _ _ _ _ _ _ h
  · intro v0 v1 v3 v4 v5 v6 w h
    refine Wx.run ok kX7_leastMakers 271 7 (lv' := [(4, .inl (v4 + (1 : Int32))), (3, .inl (v6 - v3)), (2, .inl (0 : Int32)), (0, .inr (.inr (some v0))), (1, .inl v1), (5, .inl v5), (6, .inl v6)]) (st' := []) (pc' := 502) rfl ?_
    refine Wx.jump ok kX7_leastMakers 278 (tgt := 56) rfl (by decide) ?_
    refine Wx.sub [3, 4, 2, 1, 0, 5] rfl ?_
    exact hr _ _ _ _ _ _ _ h
set_option maxRecDepth 100000 in
set_option maxHeartbeats 4000000 in
theorem aX7_leastMakers_h56 {X : gX} (ok : gOk X cX7_leastMakers RX7 16 (some .int) rmX7_leastMakers) {res : Int32 × gW} (hres : gRs X (some (.int res.1)) res.2) {F : Nat} (r : Nat → Int32 → Int32 → Int32 → Int32 → Int32 → gW → Option (Int32 × gW)) (k505 : Nat → Int32 → Int32 → gW → Option (Int32 × gW)) (hr : ∀ (v0 : Nat) (v1 : Int32) (v2 : Int32) (v3 : Int32) (v4 : Int32) (v5 : Int32) (w : gW), r v0 v1 v2 v3 v4 v5 w = some res → Wx X w 0 0 56 [(0, .inr (.inr (some v0))), (1, .inl v1), (2, .inl v2), (3, .inl v3), (4, .inl v4), (5, .inl v5)] []) (hk505 : ∀ (v0 : Nat) (v1 : Int32) (v4 : Int32) (w : gW), k505 v0 v1 v4 w = some res → Wx X w 0 0 505 [(0, .inr (.inr (some v0))), (1, .inl v1), (4, .inl v4)] []) : ∀ (v0 : Nat) (v1 : Int32) (v2 : Int32) (v3 : Int32) (v4 : Int32) (v5 : Int32) (w : gW), mX7_leastMakers_h56 F r k505 v0 v1 v2 v3 v4 v5 w = some res → Wx X w 0 0 56 [(0, .inr (.inr (some v0))), (1, .inl v1), (2, .inl v2), (3, .inl v3), (4, .inl v4), (5, .inl v5)] [] := by
  intro v0 v1 v2 v3 v4 v5 w h
  unfold mX7_leastMakers_h56 at h
  refine Wx.run ok kX7_leastMakers 37 1 (lv' := [(0, .inr (.inr (some v0))), (1, .inl v1), (2, .inl v2), (3, .inl v3), (4, .inl v4), (5, .inl v5)]) (st' := [.inl v5]) (pc' := 58) rfl ?_
  refine Wx.if_ne ok kX7_leastMakers 38 (tgt := 505) rfl (by decide) h (fun hc58 h => ?_) (fun hc58 h => ?_)
  · refine Wx.run ok kX7_leastMakers 39 4 (lv' := [(7, .inl v2), (6, .inl v3), (0, .inr (.inr (some v0))), (1, .inl v1), (2, .inl v2), (3, .inl v3), (4, .inl v4), (5, .inl v5)]) (st' := []) (pc' := 67) rfl ?_
    refine Wx.sub [2, 3, 5, 6, 7, 1, 0] rfl ?_
    refine aX7_leastMakers_l67 ok hres (F := F) _ ?_ F _ _ _ _ _ _ _ _ h
    · intro v0 v1 v3 v4 v5 v6 w h
      exact aX7_leastMakers_b400 ok hres (F := F) r k505 hr hk505 _ _ _ _ _ _ _ h
  · refine Wx.sub [0, 1, 4] rfl ?_
    exact hk505 _ _ _ _ h
set_option maxRecDepth 100000 in
set_option maxHeartbeats 4000000 in
theorem aX7_leastMakers_l56 {X : gX} (ok : gOk X cX7_leastMakers RX7 16 (some .int) rmX7_leastMakers) {res : Int32 × gW} (hres : gRs X (some (.int res.1)) res.2) {F : Nat} (k505 : Nat → Int32 → Int32 → gW → Option (Int32 × gW)) (hk505 : ∀ (v0 : Nat) (v1 : Int32) (v4 : Int32) (w : gW), k505 v0 v1 v4 w = some res → Wx X w 0 0 505 [(0, .inr (.inr (some v0))), (1, .inl v1), (4, .inl v4)] []) : ∀ (n : Nat) (v0 : Nat) (v1 : Int32) (v2 : Int32) (v3 : Int32) (v4 : Int32) (v5 : Int32) (w : gW), mX7_leastMakers_l56 F k505 n v0 v1 v2 v3 v4 v5 w = some res → Wx X w 0 0 56 [(0, .inr (.inr (some v0))), (1, .inl v1), (2, .inl v2), (3, .inl v3), (4, .inl v4), (5, .inl v5)] [] := by
  intro n
  induction n with
  | zero => intro v0 v1 v2 v3 v4 v5 w h; cases (show (none : Option (Int32 × gW)) = some res from h)
  | succ n ih =>
    intro v0 v1 v2 v3 v4 v5 w h
    exact aX7_leastMakers_h56 ok hres (F := F) (mX7_leastMakers_l56 F k505 n) k505 ih hk505 v0 v1 v2 v3 v4 v5 w h
set_option maxRecDepth 100000 in
set_option maxHeartbeats 4000000 in
theorem aX7_leastMakers_b54 {X : gX} (ok : gOk X cX7_leastMakers RX7 16 (some .int) rmX7_leastMakers) {res : Int32 × gW} (hres : gRs X (some (.int res.1)) res.2) {F : Nat} : ∀ (v0 : Nat) (v1 : Int32) (v2 : Int32) (v3 : Int32) (v4 : Int32) (s0 : Int32) (w : gW), mX7_leastMakers_b54 F v0 v1 v2 v3 v4 s0 w = some res → Wx X w 0 0 54 [(0, .inr (.inr (some v0))), (1, .inl v1), (2, .inl v2), (3, .inl v3), (4, .inl v4)] [.inl s0] := by
  intro v0 v1 v2 v3 v4 s0 w h
  unfold mX7_leastMakers_b54 at h
  refine Wx.run ok kX7_leastMakers 36 1 (lv' := [(5, .inl s0), (0, .inr (.inr (some v0))), (1, .inl v1), (2, .inl v2), (3, .inl v3), (4, .inl v4)]) (st' := []) (pc' := 56) rfl ?_
  refine Wx.sub [1, 2, 3, 4, 5, 0] rfl ?_
  refine aX7_leastMakers_l56 ok hres (F := F) _ ?_ F _ _ _ _ _ _ _ h
  · intro v0 v1 v4 w h
    refine Wx.run ok kX7_leastMakers 279 1 (lv' := [(0, .inr (.inr (some v0))), (1, .inl v1), (4, .inl v4)]) (st' := [.inr (.inr (some v0))]) (pc' := 506) rfl ?_
    refine Wx.getR ok kX7_leastMakers 280 rfl lk_RX7_17_0 h (fun t506 h => ?_)
    refine Wx.run ok kX7_leastMakers 281 2 (lv' := [(0, .inr (.inr (some v0))), (1, .inl v1), (4, .inl v4)]) (st' := [.inl v4, .inl v1, .inr (.inr t506)]) (pc' := 512) rfl ?_
    refine Wx.iast ok kX7_leastMakers 283 rfl h (fun w512 h => ?_)
    refine Wx.run ok kX7_leastMakers 284 1 (lv' := [(0, .inr (.inr (some v0))), (1, .inl v1), (4, .inl v4)]) (st' := [.inl v4]) (pc' := 515) rfl ?_
    exact Wx.ireturn ok kX7_leastMakers 285 rfl hres h (by decide)
set_option maxRecDepth 100000 in
set_option maxHeartbeats 4000000 in
theorem aX7_leastMakers (l : Launch) (G : gG) {F : Nat} {v0 : Nat} {v1 : Int32} {w : gW} {res : Int32 × gW} (h : mX7_leastMakers F v0 v1 w = some res) : gM l yX7_leastMakers cX7_leastMakers 16 (some .int) rmX7_leastMakers G w (gTs [.inr (.inr (some v0)), .inl v1]) (some (.int res.1)) res.2 := by
  refine gM_of (y := yX7_leastMakers) (by decide +kernel) (Nat.le_of_ble_eq_true rfl) ?_
  intro X ok hl hG hres hnm
  subst hl; subst hG
  unfold mX7_leastMakers at h
  show Wx X w 0 0 0 [(0, .inr (.inr (some v0))), (1, .inl v1)] []
  refine Wx.run ok kX7_leastMakers 0 1 (lv' := [(0, .inr (.inr (some v0))), (1, .inl v1)]) (st' := [.inr (.inr (some v0))]) (pc' := 1) rfl ?_
  refine Wx.getR ok kX7_leastMakers 1 rfl lk_RX7_17_0 h (fun t1 h => ?_)
  refine Wx.run ok kX7_leastMakers 2 1 (lv' := [(0, .inr (.inr (some v0))), (1, .inl v1)]) (st' := [.inl v1, .inr (.inr t1)]) (pc' := 5) rfl ?_
  refine Wx.iald ok kX7_leastMakers 3 rfl h (fun t5 h => ?_)
  refine Wx.run ok kX7_leastMakers 4 1 (lv' := [(0, .inr (.inr (some v0))), (1, .inl v1)]) (st' := [.inl (-4 : Int32), .inl t5]) (pc' := 8) rfl ?_
  refine Wx.icmp_eq ok kX7_leastMakers 5 (tgt := 18) rfl (by decide) h (fun hc8 h => ?_) (fun hc8 h => ?_)
  · refine Wx.run ok kX7_leastMakers 11 5 (lv' := [(3, .inl (1 : Int32)), (2, .inl (0 : Int32)), (0, .inr (.inr (some v0))), (1, .inl v1)]) (st' := [.inr (.inr (some v0))]) (pc' := 23) rfl ?_
    refine Wx.getR ok kX7_leastMakers 16 rfl lk_RX7_47_0 h (fun t23 h => ?_)
    refine Wx.run ok kX7_leastMakers 17 2 (lv' := [(3, .inl (1 : Int32)), (2, .inl (0 : Int32)), (0, .inr (.inr (some v0))), (1, .inl v1)]) (st' := [.inr (.inl (1 : Int64)), .inl (0 : Int32), .inr (.inr t23)]) (pc' := 28) rfl ?_
    refine Wx.last ok kX7_leastMakers 19 rfl h (fun w28 h => ?_)
    refine Wx.run ok kX7_leastMakers 20 1 (lv' := [(3, .inl (1 : Int32)), (2, .inl (0 : Int32)), (0, .inr (.inr (some v0))), (1, .inl v1)]) (st' := [.inr (.inr (some v0))]) (pc' := 30) rfl ?_
    refine Wx.getR ok kX7_leastMakers 21 rfl lk_RX7_51_0 h (fun t30 h => ?_)
    refine Wx.run ok kX7_leastMakers 22 2 (lv' := [(3, .inl (1 : Int32)), (2, .inl (0 : Int32)), (0, .inr (.inr (some v0))), (1, .inl v1)]) (st' := [.inr (.inl (0 : Int64)), .inl (0 : Int32), .inr (.inr t30)]) (pc' := 35) rfl ?_
    refine Wx.last ok kX7_leastMakers 24 rfl h (fun w35 h => ?_)
    refine Wx.run ok kX7_leastMakers 25 3 (lv' := [(4, .inl (0 : Int32)), (3, .inl (1 : Int32)), (2, .inl (0 : Int32)), (0, .inr (.inr (some v0))), (1, .inl v1)]) (st' := [.inr (.inr (some v0))]) (pc' := 40) rfl ?_
    refine Wx.getR ok kX7_leastMakers 28 rfl lk_RX7_7_0 h (fun t40 h => ?_)
    refine Wx.run ok kX7_leastMakers 29 1 (lv' := [(4, .inl (0 : Int32)), (3, .inl (1 : Int32)), (2, .inl (0 : Int32)), (0, .inr (.inr (some v0))), (1, .inl v1)]) (st' := [.inl v1, .inr (.inr t40)]) (pc' := 44) rfl ?_
    refine Wx.iald ok kX7_leastMakers 30 rfl h (fun t44 h => ?_)
    refine Wx.run ok kX7_leastMakers 31 1 (lv' := [(4, .inl (0 : Int32)), (3, .inl (1 : Int32)), (2, .inl (0 : Int32)), (0, .inr (.inr (some v0))), (1, .inl v1)]) (st' := [.inl (1 : Int32), .inl t44]) (pc' := 46) rfl ?_
    refine Wx.icmp_ne ok kX7_leastMakers 32 (tgt := 53) rfl (by decide) h (fun hc46 h => ?_) (fun hc46 h => ?_)
    · refine Wx.run ok kX7_leastMakers 33 1 (lv' := [(4, .inl (0 : Int32)), (3, .inl (1 : Int32)), (2, .inl (0 : Int32)), (0, .inr (.inr (some v0))), (1, .inl v1)]) (st' := [.inl (1 : Int32)]) (pc' := 50) rfl ?_
      refine Wx.jump ok kX7_leastMakers 34 (tgt := 54) rfl (by decide) ?_
      refine Wx.sub [3, 4, 2, 1, 0] rfl ?_
      exact aX7_leastMakers_b54 ok hres (F := F) _ _ _ _ _ _ _ h
    · refine Wx.run ok kX7_leastMakers 35 1 (lv' := [(4, .inl (0 : Int32)), (3, .inl (1 : Int32)), (2, .inl (0 : Int32)), (0, .inr (.inr (some v0))), (1, .inl v1)]) (st' := [.inl (0 : Int32)]) (pc' := 54) rfl ?_
      refine Wx.sub [3, 4, 2, 1, 0] rfl ?_
      exact aX7_leastMakers_b54 ok hres (F := F) _ _ _ _ _ _ _ h
  · refine Wx.run ok kX7_leastMakers 6 1 (lv' := [(0, .inr (.inr (some v0))), (1, .inl v1)]) (st' := [.inr (.inr (some v0))]) (pc' := 12) rfl ?_
    refine Wx.getR ok kX7_leastMakers 7 rfl lk_RX7_17_0 h (fun t12 h => ?_)
    refine Wx.run ok kX7_leastMakers 8 1 (lv' := [(0, .inr (.inr (some v0))), (1, .inl v1)]) (st' := [.inl v1, .inr (.inr t12)]) (pc' := 16) rfl ?_
    refine Wx.iald ok kX7_leastMakers 9 rfl h (fun t16 h => ?_)
    exact Wx.ireturn ok kX7_leastMakers 10 rfl hres h (by decide)
set_option maxRecDepth 100000 in
set_option maxHeartbeats 4000000 in
theorem aX7_leastRow_h28 {X : gX} (ok : gOk X cX7_leastRow RX7 6 none rmX7_leastRow) {res : gW} (hres : gRs X none res) {F : Nat} (r : Nat → Int32 → Int32 → Int32 → Int32 → Int32 → gW → Option (gW)) (k54 : Nat → Int32 → Int32 → Int32 → Int32 → gW → Option (gW)) (hr : ∀ (v0 : Nat) (v1 : Int32) (v2 : Int32) (v3 : Int32) (v4 : Int32) (v5 : Int32) (w : gW), r v0 v1 v2 v3 v4 v5 w = some res → Wx X w 0 0 28 [(0, .inr (.inr (some v0))), (1, .inl v1), (2, .inl v2), (3, .inl v3), (4, .inl v4), (5, .inl v5)] []) (hk54 : ∀ (v0 : Nat) (v1 : Int32) (v2 : Int32) (v3 : Int32) (v4 : Int32) (w : gW), k54 v0 v1 v2 v3 v4 w = some res → Wx X w 0 0 54 [(0, .inr (.inr (some v0))), (1, .inl v1), (2, .inl v2), (3, .inl v3), (4, .inl v4)] []) : ∀ (v0 : Nat) (v1 : Int32) (v2 : Int32) (v3 : Int32) (v4 : Int32) (v5 : Int32) (w : gW), mX7_leastRow_h28 F r k54 v0 v1 v2 v3 v4 v5 w = some res → Wx X w 0 0 28 [(0, .inr (.inr (some v0))), (1, .inl v1), (2, .inl v2), (3, .inl v3), (4, .inl v4), (5, .inl v5)] [] := by
  intro v0 v1 v2 v3 v4 v5 w h
  unfold mX7_leastRow_h28 at h
  refine Wx.run ok kX7_leastRow 17 2 (lv' := [(0, .inr (.inr (some v0))), (1, .inl v1), (2, .inl v2), (3, .inl v3), (4, .inl v4), (5, .inl v5)]) (st' := [.inl v3, .inl v5]) (pc' := 31) rfl ?_
  refine Wx.icmp_ge ok kX7_leastRow 19 (tgt := 54) rfl (by decide) h (fun hc31 h => ?_) (fun hc31 h => ?_)
  · refine Wx.sub [0, 1, 2, 3, 4] rfl ?_
    exact hk54 _ _ _ _ _ _ h
  · refine Wx.run ok kX7_leastRow 20 1 (lv' := [(0, .inr (.inr (some v0))), (1, .inl v1), (2, .inl v2), (3, .inl v3), (4, .inl v4), (5, .inl v5)]) (st' := [.inr (.inr (some v0))]) (pc' := 35) rfl ?_
    refine Wx.getR ok kX7_leastRow 21 rfl lk_RX7_41_0 h (fun t35 h => ?_)
    refine Wx.run ok kX7_leastRow 22 2 (lv' := [(0, .inr (.inr (some v0))), (1, .inl v1), (2, .inl v2), (3, .inl v3), (4, .inl v4), (5, .inl v5)]) (st' := [.inr (.inr (some v0)), .inl v5, .inr (.inr t35)]) (pc' := 41) rfl ?_
    refine Wx.getR ok kX7_leastRow 24 rfl lk_RX7_58_0 h (fun t41 h => ?_)
    refine Wx.run ok kX7_leastRow 25 1 (lv' := [(0, .inr (.inr (some v0))), (1, .inl v1), (2, .inl v2), (3, .inl v3), (4, .inl v4), (5, .inl v5)]) (st' := [.inl v5, .inr (.inr t41), .inl v5, .inr (.inr t35)]) (pc' := 46) rfl ?_
    refine Wx.iald ok kX7_leastRow 26 rfl h (fun t46 h => ?_)
    refine Wx.iast ok kX7_leastRow 27 rfl h (fun w47 h => ?_)
    refine Wx.run ok kX7_leastRow 28 1 (lv' := [(5, .inl (v5 + (1 : Int32))), (0, .inr (.inr (some v0))), (1, .inl v1), (2, .inl v2), (3, .inl v3), (4, .inl v4)]) (st' := []) (pc' := 51) rfl ?_
    refine Wx.jump ok kX7_leastRow 29 (tgt := 28) rfl (by decide) ?_
    refine Wx.sub [1, 2, 3, 4, 5, 0] rfl ?_
    exact hr _ _ _ _ _ _ _ h
set_option maxRecDepth 100000 in
set_option maxHeartbeats 4000000 in
theorem aX7_leastRow_l28 {X : gX} (ok : gOk X cX7_leastRow RX7 6 none rmX7_leastRow) {res : gW} (hres : gRs X none res) {F : Nat} (k54 : Nat → Int32 → Int32 → Int32 → Int32 → gW → Option (gW)) (hk54 : ∀ (v0 : Nat) (v1 : Int32) (v2 : Int32) (v3 : Int32) (v4 : Int32) (w : gW), k54 v0 v1 v2 v3 v4 w = some res → Wx X w 0 0 54 [(0, .inr (.inr (some v0))), (1, .inl v1), (2, .inl v2), (3, .inl v3), (4, .inl v4)] []) : ∀ (n : Nat) (v0 : Nat) (v1 : Int32) (v2 : Int32) (v3 : Int32) (v4 : Int32) (v5 : Int32) (w : gW), mX7_leastRow_l28 F k54 n v0 v1 v2 v3 v4 v5 w = some res → Wx X w 0 0 28 [(0, .inr (.inr (some v0))), (1, .inl v1), (2, .inl v2), (3, .inl v3), (4, .inl v4), (5, .inl v5)] [] := by
  intro n
  induction n with
  | zero => intro v0 v1 v2 v3 v4 v5 w h; cases (show (none : Option (gW)) = some res from h)
  | succ n ih =>
    intro v0 v1 v2 v3 v4 v5 w h
    exact aX7_leastRow_h28 ok hres (F := F) (mX7_leastRow_l28 F k54 n) k54 ih hk54 v0 v1 v2 v3 v4 v5 w h
set_option maxRecDepth 100000 in
set_option maxHeartbeats 4000000 in
theorem aX7_leastRow_h68 {X : gX} (ok : gOk X cX7_leastRow RX7 6 none rmX7_leastRow) {res : gW} (hres : gRs X none res) {F : Nat} (r : Nat → Int32 → Int32 → Int32 → Int32 → Int32 → gW → Option (gW)) (k94 : Nat → Int32 → Int32 → Int32 → Int32 → Int32 → gW → Option (gW)) (hr : ∀ (v0 : Nat) (v1 : Int32) (v2 : Int32) (v3 : Int32) (v4 : Int32) (v5 : Int32) (w : gW), r v0 v1 v2 v3 v4 v5 w = some res → Wx X w 0 0 68 [(0, .inr (.inr (some v0))), (1, .inl v1), (2, .inl v2), (3, .inl v3), (4, .inl v4), (5, .inl v5)] []) (hk94 : ∀ (v0 : Nat) (v1 : Int32) (v2 : Int32) (v3 : Int32) (v4 : Int32) (v5 : Int32) (w : gW), k94 v0 v1 v2 v3 v4 v5 w = some res → Wx X w 0 0 94 [(0, .inr (.inr (some v0))), (1, .inl v1), (2, .inl v2), (3, .inl v3), (4, .inl v4), (5, .inl v5)] []) : ∀ (v0 : Nat) (v1 : Int32) (v2 : Int32) (v3 : Int32) (v4 : Int32) (v5 : Int32) (w : gW), mX7_leastRow_h68 F r k94 v0 v1 v2 v3 v4 v5 w = some res → Wx X w 0 0 68 [(0, .inr (.inr (some v0))), (1, .inl v1), (2, .inl v2), (3, .inl v3), (4, .inl v4), (5, .inl v5)] [] := by
  intro v0 v1 v2 v3 v4 v5 w h
  unfold mX7_leastRow_h68 at h
  refine Wx.run ok kX7_leastRow 39 2 (lv' := [(0, .inr (.inr (some v0))), (1, .inl v1), (2, .inl v2), (3, .inl v3), (4, .inl v4), (5, .inl v5)]) (st' := [.inr (.inr (some v0)), .inl v5]) (pc' := 71) rfl ?_
  refine Wx.getR ok kX7_leastRow 41 rfl lk_RX7_7_0 h (fun t71 h => ?_)
  refine Wx.run ok kX7_leastRow 42 1 (lv' := [(0, .inr (.inr (some v0))), (1, .inl v1), (2, .inl v2), (3, .inl v3), (4, .inl v4), (5, .inl v5)]) (st' := [.inl v1, .inr (.inr t71), .inl v5]) (pc' := 75) rfl ?_
  refine Wx.iald ok kX7_leastRow 43 rfl h (fun t75 h => ?_)
  refine Wx.icmp_ge ok kX7_leastRow 44 (tgt := 94) rfl (by decide) h (fun hc76 h => ?_) (fun hc76 h => ?_)
  · exact hk94 _ _ _ _ _ _ _ h
  · refine Wx.run ok kX7_leastRow 45 2 (lv' := [(0, .inr (.inr (some v0))), (1, .inl v1), (2, .inl v2), (3, .inl v3), (4, .inl v4), (5, .inl v5)]) (st' := [.inl v5, .inr (.inr (some v0))]) (pc' := 82) rfl ?_
    obtain ⟨a82, ha82, h⟩ := gob h
    obtain ⟨q82, hq82, h⟩ := gob h
    refine Wx.callV ok kX7_leastRow 47 rfl lm_RX7_159 cd_X7_isMade ha82 [.inl v5] (some (.inl q82.1)) (aX7_isMade _ _ hq82) (by decide) rfl (Nat.le_of_ble_eq_true rfl) rfl rfl ?_
    refine Wx.if_eq ok kX7_leastRow 48 (tgt := 94) rfl (by decide) h (fun hc85 h => ?_) (fun hc85 h => ?_)
    · exact hk94 _ _ _ _ _ _ _ h
    · refine Wx.run ok kX7_leastRow 49 1 (lv' := [(5, .inl (v5 + (1 : Int32))), (0, .inr (.inr (some v0))), (1, .inl v1), (2, .inl v2), (3, .inl v3), (4, .inl v4)]) (st' := []) (pc' := 91) rfl ?_
      refine Wx.jump ok kX7_leastRow 50 (tgt := 68) rfl (by decide) ?_
      refine Wx.sub [1, 2, 3, 4, 5, 0] rfl ?_
      exact hr _ _ _ _ _ _ _ h
set_option maxRecDepth 100000 in
set_option maxHeartbeats 4000000 in
theorem aX7_leastRow_l68 {X : gX} (ok : gOk X cX7_leastRow RX7 6 none rmX7_leastRow) {res : gW} (hres : gRs X none res) {F : Nat} (k94 : Nat → Int32 → Int32 → Int32 → Int32 → Int32 → gW → Option (gW)) (hk94 : ∀ (v0 : Nat) (v1 : Int32) (v2 : Int32) (v3 : Int32) (v4 : Int32) (v5 : Int32) (w : gW), k94 v0 v1 v2 v3 v4 v5 w = some res → Wx X w 0 0 94 [(0, .inr (.inr (some v0))), (1, .inl v1), (2, .inl v2), (3, .inl v3), (4, .inl v4), (5, .inl v5)] []) : ∀ (n : Nat) (v0 : Nat) (v1 : Int32) (v2 : Int32) (v3 : Int32) (v4 : Int32) (v5 : Int32) (w : gW), mX7_leastRow_l68 F k94 n v0 v1 v2 v3 v4 v5 w = some res → Wx X w 0 0 68 [(0, .inr (.inr (some v0))), (1, .inl v1), (2, .inl v2), (3, .inl v3), (4, .inl v4), (5, .inl v5)] [] := by
  intro n
  induction n with
  | zero => intro v0 v1 v2 v3 v4 v5 w h; cases (show (none : Option (gW)) = some res from h)
  | succ n ih =>
    intro v0 v1 v2 v3 v4 v5 w h
    exact aX7_leastRow_h68 ok hres (F := F) (mX7_leastRow_l68 F k94 n) k94 ih hk94 v0 v1 v2 v3 v4 v5 w h
set_option maxRecDepth 100000 in
set_option maxHeartbeats 4000000 in
theorem aX7_leastRow_b221 {X : gX} (ok : gOk X cX7_leastRow RX7 6 none rmX7_leastRow) {res : gW} (hres : gRs X none res) {F : Nat} (r : Nat → Int32 → Int32 → Int32 → Int32 → gW → Option (gW)) (hr : ∀ (v0 : Nat) (v1 : Int32) (v2 : Int32) (v3 : Int32) (v4 : Int32) (w : gW), r v0 v1 v2 v3 v4 w = some res → Wx X w 0 0 20 [(0, .inr (.inr (some v0))), (1, .inl v1), (2, .inl v2), (3, .inl v3), (4, .inl v4)] []) : ∀ (v0 : Nat) (v1 : Int32) (v2 : Int32) (v3 : Int32) (v4 : Int32) (w : gW), mX7_leastRow_b221 F r v0 v1 v2 v3 v4 w = some res → Wx X w 0 0 221 [(0, .inr (.inr (some v0))), (1, .inl v1), (2, .inl v2), (3, .inl v3), (4, .inl v4)] [] := by
  intro v0 v1 v2 v3 v4 w h
  unfold mX7_leastRow_b221 at h
  refine Wx.jump ok kX7_leastRow 130 (tgt := 20) rfl (by decide) ?_
  exact hr _ _ _ _ _ _ h
set_option maxRecDepth 100000 in
set_option maxHeartbeats 4000000 in
theorem aX7_leastRow_b206 {X : gX} (ok : gOk X cX7_leastRow RX7 6 none rmX7_leastRow) {res : gW} (hres : gRs X none res) {F : Nat} (r : Nat → Int32 → Int32 → Int32 → Int32 → gW → Option (gW)) (hr : ∀ (v0 : Nat) (v1 : Int32) (v2 : Int32) (v3 : Int32) (v4 : Int32) (w : gW), r v0 v1 v2 v3 v4 w = some res → Wx X w 0 0 20 [(0, .inr (.inr (some v0))), (1, .inl v1), (2, .inl v2), (3, .inl v3), (4, .inl v4)] []) : ∀ (v0 : Nat) (v1 : Int32) (v2 : Int32) (v3 : Int32) (v4 : Int32) (w : gW), mX7_leastRow_b206 F r v0 v1 v2 v3 v4 w = some res → Wx X w 0 0 206 [(0, .inr (.inr (some v0))), (1, .inl v1), (2, .inl v2), (3, .inl v3), (4, .inl v4)] [] := by
  intro v0 v1 v2 v3 v4 w h
  unfold mX7_leastRow_b206 at h
  refine Wx.run ok kX7_leastRow 120 1 (lv' := [(0, .inr (.inr (some v0))), (1, .inl v1), (2, .inl v2), (3, .inl v3), (4, .inl v4)]) (st' := [.inl v4]) (pc' := 208) rfl ?_
  refine Wx.if_ne ok kX7_leastRow 121 (tgt := 221) rfl (by decide) h (fun hc208 h => ?_) (fun hc208 h => ?_)
  · refine Wx.run ok kX7_leastRow 122 1 (lv' := [(0, .inr (.inr (some v0))), (1, .inl v1), (2, .inl v2), (3, .inl v3), (4, .inl v4)]) (st' := [.inr (.inr (some v0))]) (pc' := 212) rfl ?_
    refine Wx.getR ok kX7_leastRow 123 rfl lk_RX7_58_0 h (fun t212 h => ?_)
    refine Wx.run ok kX7_leastRow 124 2 (lv' := [(0, .inr (.inr (some v0))), (1, .inl v1), (2, .inl v2), (3, .inl v3), (4, .inl v4)]) (st' := [.inl v3, .inr (.inr t212), .inl v3, .inr (.inr t212)]) (pc' := 217) rfl ?_
    refine Wx.iald ok kX7_leastRow 126 rfl h (fun t217 h => ?_)
    refine Wx.run ok kX7_leastRow 127 2 (lv' := [(0, .inr (.inr (some v0))), (1, .inl v1), (2, .inl v2), (3, .inl v3), (4, .inl v4)]) (st' := [.inl (t217 + (1 : Int32)), .inl v3, .inr (.inr t212)]) (pc' := 220) rfl ?_
    refine Wx.iast ok kX7_leastRow 129 rfl h (fun w220 h => ?_)
    exact aX7_leastRow_b221 ok hres (F := F) r hr _ _ _ _ _ _ h
  · exact aX7_leastRow_b221 ok hres (F := F) r hr _ _ _ _ _ _ h
set_option maxRecDepth 100000 in
set_option maxHeartbeats 4000000 in
theorem aX7_leastRow_b172 {X : gX} (ok : gOk X cX7_leastRow RX7 6 none rmX7_leastRow) {res : gW} (hres : gRs X none res) {F : Nat} (r : Nat → Int32 → Int32 → Int32 → Int32 → gW → Option (gW)) (hr : ∀ (v0 : Nat) (v1 : Int32) (v2 : Int32) (v3 : Int32) (v4 : Int32) (w : gW), r v0 v1 v2 v3 v4 w = some res → Wx X w 0 0 20 [(0, .inr (.inr (some v0))), (1, .inl v1), (2, .inl v2), (3, .inl v3), (4, .inl v4)] []) : ∀ (v0 : Nat) (v1 : Int32) (v2 : Int32) (v3 : Int32) (v4 : Int32) (w : gW), mX7_leastRow_b172 F r v0 v1 v2 v3 v4 w = some res → Wx X w 0 0 172 [(0, .inr (.inr (some v0))), (1, .inl v1), (2, .inl v2), (3, .inl v3), (4, .inl v4)] [] := by
  intro v0 v1 v2 v3 v4 w h
  unfold mX7_leastRow_b172 at h
  refine Wx.run ok kX7_leastRow 99 1 (lv' := [(0, .inr (.inr (some v0))), (1, .inl v1), (2, .inl v2), (3, .inl v3), (4, .inl v4)]) (st' := [.inl v4]) (pc' := 174) rfl ?_
  refine Wx.if_ne ok kX7_leastRow 100 (tgt := 206) rfl (by decide) h (fun hc174 h => ?_) (fun hc174 h => ?_)
  · refine Wx.run ok kX7_leastRow 101 4 (lv' := [(0, .inr (.inr (some v0))), (1, .inl v1), (2, .inl v2), (3, .inl v3), (4, .inl v4)]) (st' := [.inl v2, .inl (v3 + (1 : Int32))]) (pc' := 181) rfl ?_
    refine Wx.icmp_ge ok kX7_leastRow 105 (tgt := 206) rfl (by decide) h (fun hc181 h => ?_) (fun hc181 h => ?_)
    · exact aX7_leastRow_b206 ok hres (F := F) r hr _ _ _ _ _ _ h
    · refine Wx.run ok kX7_leastRow 106 2 (lv' := [(3, .inl (v3 + (1 : Int32))), (0, .inr (.inr (some v0))), (1, .inl v1), (2, .inl v2), (4, .inl v4)]) (st' := [.inr (.inr (some v0))]) (pc' := 188) rfl ?_
      refine Wx.getR ok kX7_leastRow 108 rfl lk_RX7_58_0 h (fun t188 h => ?_)
      refine Wx.run ok kX7_leastRow 109 2 (lv' := [(3, .inl (v3 + (1 : Int32))), (0, .inr (.inr (some v0))), (1, .inl v1), (2, .inl v2), (4, .inl v4)]) (st' := [.inr (.inr (some v0)), .inl (v3 + (1 : Int32)), .inr (.inr t188)]) (pc' := 193) rfl ?_
      refine Wx.getR ok kX7_leastRow 111 rfl lk_RX7_58_0 h (fun t193 h => ?_)
      refine Wx.run ok kX7_leastRow 112 3 (lv' := [(3, .inl (v3 + (1 : Int32))), (0, .inr (.inr (some v0))), (1, .inl v1), (2, .inl v2), (4, .inl v4)]) (st' := [.inl ((v3 + (1 : Int32)) - (1 : Int32)), .inr (.inr t193), .inl (v3 + (1 : Int32)), .inr (.inr t188)]) (pc' := 199) rfl ?_
      refine Wx.iald ok kX7_leastRow 115 rfl h (fun t199 h => ?_)
      refine Wx.run ok kX7_leastRow 116 2 (lv' := [(3, .inl (v3 + (1 : Int32))), (0, .inr (.inr (some v0))), (1, .inl v1), (2, .inl v2), (4, .inl v4)]) (st' := [.inl (t199 + (1 : Int32)), .inl (v3 + (1 : Int32)), .inr (.inr t188)]) (pc' := 202) rfl ?_
      refine Wx.iast ok kX7_leastRow 118 rfl h (fun w202 h => ?_)
      refine Wx.jump ok kX7_leastRow 119 (tgt := 221) rfl (by decide) ?_
      refine Wx.sub [1, 2, 3, 0, 4] rfl ?_
      exact aX7_leastRow_b221 ok hres (F := F) r hr _ _ _ _ _ _ h
  · exact aX7_leastRow_b206 ok hres (F := F) r hr _ _ _ _ _ _ h
set_option maxRecDepth 100000 in
set_option maxHeartbeats 4000000 in
theorem aX7_leastRow_b170 {X : gX} (ok : gOk X cX7_leastRow RX7 6 none rmX7_leastRow) {res : gW} (hres : gRs X none res) {F : Nat} (r : Nat → Int32 → Int32 → Int32 → Int32 → gW → Option (gW)) (hr : ∀ (v0 : Nat) (v1 : Int32) (v2 : Int32) (v3 : Int32) (v4 : Int32) (w : gW), r v0 v1 v2 v3 v4 w = some res → Wx X w 0 0 20 [(0, .inr (.inr (some v0))), (1, .inl v1), (2, .inl v2), (3, .inl v3), (4, .inl v4)] []) : ∀ (v0 : Nat) (v1 : Int32) (v2 : Int32) (v3 : Int32) (s0 : Int32) (w : gW), mX7_leastRow_b170 F r v0 v1 v2 v3 s0 w = some res → Wx X w 0 0 170 [(0, .inr (.inr (some v0))), (1, .inl v1), (2, .inl v2), (3, .inl v3)] [.inl s0] := by
  intro v0 v1 v2 v3 s0 w h
  unfold mX7_leastRow_b170 at h
  refine Wx.run ok kX7_leastRow 98 1 (lv' := [(4, .inl s0), (0, .inr (.inr (some v0))), (1, .inl v1), (2, .inl v2), (3, .inl v3)]) (st' := []) (pc' := 172) rfl ?_
  refine Wx.sub [1, 2, 3, 4, 0] rfl ?_
  exact aX7_leastRow_b172 ok hres (F := F) r hr _ _ _ _ _ _ h
set_option maxRecDepth 100000 in
set_option maxHeartbeats 4000000 in
theorem aX7_leastRow_b94 {X : gX} (ok : gOk X cX7_leastRow RX7 6 none rmX7_leastRow) {res : gW} (hres : gRs X none res) {F : Nat} (r : Nat → Int32 → Int32 → Int32 → Int32 → gW → Option (gW)) (hr : ∀ (v0 : Nat) (v1 : Int32) (v2 : Int32) (v3 : Int32) (v4 : Int32) (w : gW), r v0 v1 v2 v3 v4 w = some res → Wx X w 0 0 20 [(0, .inr (.inr (some v0))), (1, .inl v1), (2, .inl v2), (3, .inl v3), (4, .inl v4)] []) : ∀ (v0 : Nat) (v1 : Int32) (v2 : Int32) (v3 : Int32) (v4 : Int32) (v5 : Int32) (w : gW), mX7_leastRow_b94 F r v0 v1 v2 v3 v4 v5 w = some res → Wx X w 0 0 94 [(0, .inr (.inr (some v0))), (1, .inl v1), (2, .inl v2), (3, .inl v3), (4, .inl v4), (5, .inl v5)] [] := by
  intro v0 v1 v2 v3 v4 v5 w h
  unfold mX7_leastRow_b94 at h
  refine Wx.run ok kX7_leastRow 51 2 (lv' := [(0, .inr (.inr (some v0))), (1, .inl v1), (2, .inl v2), (3, .inl v3), (4, .inl v4), (5, .inl v5)]) (st' := [.inr (.inr (some v0)), .inl v5]) (pc' := 97) rfl ?_
  refine Wx.getR ok kX7_leastRow 53 rfl lk_RX7_7_0 h (fun t97 h => ?_)
  refine Wx.run ok kX7_leastRow 54 1 (lv' := [(0, .inr (.inr (some v0))), (1, .inl v1), (2, .inl v2), (3, .inl v3), (4, .inl v4), (5, .inl v5)]) (st' := [.inl v1, .inr (.inr t97), .inl v5]) (pc' := 101) rfl ?_
  refine Wx.iald ok kX7_leastRow 55 rfl h (fun t101 h => ?_)
  refine Wx.icmp_ne ok kX7_leastRow 56 (tgt := 121) rfl (by decide) h (fun hc102 h => ?_) (fun hc102 h => ?_)
  · refine Wx.run ok kX7_leastRow 57 2 (lv' := [(3, .inl (v3 + (-1 : Int32))), (0, .inr (.inr (some v0))), (1, .inl v1), (2, .inl v2), (4, .inl v4), (5, .inl v5)]) (st' := [.inr (.inr (some v0))]) (pc' := 109) rfl ?_
    refine Wx.getR ok kX7_leastRow 59 rfl lk_RX7_58_0 h (fun t109 h => ?_)
    refine Wx.run ok kX7_leastRow 60 2 (lv' := [(3, .inl (v3 + (-1 : Int32))), (0, .inr (.inr (some v0))), (1, .inl v1), (2, .inl v2), (4, .inl v4), (5, .inl v5)]) (st' := [.inl (v3 + (-1 : Int32)), .inr (.inr t109), .inl (v3 + (-1 : Int32)), .inr (.inr t109)]) (pc' := 114) rfl ?_
    refine Wx.iald ok kX7_leastRow 62 rfl h (fun t114 h => ?_)
    refine Wx.run ok kX7_leastRow 63 2 (lv' := [(3, .inl (v3 + (-1 : Int32))), (0, .inr (.inr (some v0))), (1, .inl v1), (2, .inl v2), (4, .inl v4), (5, .inl v5)]) (st' := [.inl (t114 + (1 : Int32)), .inl (v3 + (-1 : Int32)), .inr (.inr t109)]) (pc' := 117) rfl ?_
    refine Wx.iast ok kX7_leastRow 65 rfl h (fun w117 h => ?_)
    refine Wx.jump ok kX7_leastRow 66 (tgt := 221) rfl (by decide) ?_
    refine Wx.sub [1, 2, 3, 0, 4] rfl ?_
    exact aX7_leastRow_b221 ok hres (F := F) r hr _ _ _ _ _ _ h
  · refine Wx.run ok kX7_leastRow 67 1 (lv' := [(0, .inr (.inr (some v0))), (1, .inl v1), (2, .inl v2), (3, .inl v3), (4, .inl v4), (5, .inl v5)]) (st' := [.inr (.inr (some v0))]) (pc' := 122) rfl ?_
    refine Wx.getR ok kX7_leastRow 68 rfl lk_RX7_58_0 h (fun t122 h => ?_)
    refine Wx.run ok kX7_leastRow 69 2 (lv' := [(0, .inr (.inr (some v0))), (1, .inl v1), (2, .inl v2), (3, .inl v3), (4, .inl v4), (5, .inl v5)]) (st' := [.inl v5, .inl v3, .inr (.inr t122)]) (pc' := 128) rfl ?_
    refine Wx.iast ok kX7_leastRow 71 rfl h (fun w128 h => ?_)
    refine Wx.run ok kX7_leastRow 72 1 (lv' := [(0, .inr (.inr (some v0))), (1, .inl v1), (2, .inl v2), (3, .inl v3), (4, .inl v4), (5, .inl v5)]) (st' := [.inr (.inr (some v0))]) (pc' := 130) rfl ?_
    refine Wx.getR ok kX7_leastRow 73 rfl lk_RX7_41_0 h (fun t130 h => ?_)
    refine Wx.run ok kX7_leastRow 74 2 (lv' := [(0, .inr (.inr (some v0))), (1, .inl v1), (2, .inl v2), (3, .inl v3), (4, .inl v4), (5, .inl v5)]) (st' := [.inl v5, .inl v3, .inr (.inr t130)]) (pc' := 136) rfl ?_
    refine Wx.iast ok kX7_leastRow 76 rfl h (fun w136 h => ?_)
    refine Wx.run ok kX7_leastRow 77 5 (lv' := [(0, .inr (.inr (some v0))), (1, .inl v1), (2, .inl v2), (3, .inl v3), (4, .inl v4), (5, .inl v5)]) (st' := [.inl (v3 + (1 : Int32)), .inl v1, .inr (.inr (some v0))]) (pc' := 142) rfl ?_
    obtain ⟨a142, ha142, h⟩ := gob h
    obtain ⟨q142, hq142, h⟩ := gob h
    refine Wx.callV ok kX7_leastRow 82 rfl lm_RX7_162 cd_X7_makes ha142 [.inl v1, .inl (v3 + (1 : Int32))] none (aX7_makes _ _ hq142) (by decide) rfl (Nat.le_of_ble_eq_true rfl) rfl rfl ?_
    refine Wx.run ok kX7_leastRow 83 1 (lv' := [(0, .inr (.inr (some v0))), (1, .inl v1), (2, .inl v2), (3, .inl v3), (4, .inl v4), (5, .inl v5)]) (st' := [.inr (.inr (some v0))]) (pc' := 146) rfl ?_
    refine Wx.getI ok kX7_leastRow 84 rfl lk_RX7_156_0 h (fun t146 h => ?_)
    refine Wx.run ok kX7_leastRow 85 1 (lv' := [(0, .inr (.inr (some v0))), (1, .inl v1), (2, .inl v2), (3, .inl v3), (4, .inl v4), (5, .inl v5)]) (st' := [.inr (.inr (some v0)), .inl t146]) (pc' := 150) rfl ?_
    refine Wx.getR ok kX7_leastRow 86 rfl lk_RX7_7_0 h (fun t150 h => ?_)
    refine Wx.run ok kX7_leastRow 87 1 (lv' := [(0, .inr (.inr (some v0))), (1, .inl v1), (2, .inl v2), (3, .inl v3), (4, .inl v4), (5, .inl v5)]) (st' := [.inl v1, .inr (.inr t150), .inl t146]) (pc' := 154) rfl ?_
    refine Wx.iald ok kX7_leastRow 88 rfl h (fun t154 h => ?_)
    refine Wx.icmp_ne ok kX7_leastRow 89 (tgt := 172) rfl (by decide) h (fun hc155 h => ?_) (fun hc155 h => ?_)
    · refine Wx.run ok kX7_leastRow 90 4 (lv' := [(0, .inr (.inr (some v0))), (1, .inl v1), (2, .inl v2), (3, .inl v3), (4, .inl v4), (5, .inl v5)]) (st' := [.inl v2, .inl (v3 + (1 : Int32))]) (pc' := 162) rfl ?_
      refine Wx.icmp_ne ok kX7_leastRow 94 (tgt := 169) rfl (by decide) h (fun hc162 h => ?_) (fun hc162 h => ?_)
      · refine Wx.run ok kX7_leastRow 95 1 (lv' := [(0, .inr (.inr (some v0))), (1, .inl v1), (2, .inl v2), (3, .inl v3), (4, .inl v4), (5, .inl v5)]) (st' := [.inl (1 : Int32)]) (pc' := 166) rfl ?_
        refine Wx.jump ok kX7_leastRow 96 (tgt := 170) rfl (by decide) ?_
        refine Wx.sub [0, 1, 2, 3] rfl ?_
        exact aX7_leastRow_b170 ok hres (F := F) r hr _ _ _ _ _ _ h
      · refine Wx.run ok kX7_leastRow 97 1 (lv' := [(0, .inr (.inr (some v0))), (1, .inl v1), (2, .inl v2), (3, .inl v3), (4, .inl v4), (5, .inl v5)]) (st' := [.inl (0 : Int32)]) (pc' := 170) rfl ?_
        refine Wx.sub [0, 1, 2, 3] rfl ?_
        exact aX7_leastRow_b170 ok hres (F := F) r hr _ _ _ _ _ _ h
    · refine Wx.sub [0, 1, 2, 3, 4] rfl ?_
      exact aX7_leastRow_b172 ok hres (F := F) r hr _ _ _ _ _ _ h
set_option maxRecDepth 100000 in
set_option maxHeartbeats 4000000 in
theorem aX7_leastRow_h20 {X : gX} (ok : gOk X cX7_leastRow RX7 6 none rmX7_leastRow) {res : gW} (hres : gRs X none res) {F : Nat} (r : Nat → Int32 → Int32 → Int32 → Int32 → gW → Option (gW)) (hr : ∀ (v0 : Nat) (v1 : Int32) (v2 : Int32) (v3 : Int32) (v4 : Int32) (w : gW), r v0 v1 v2 v3 v4 w = some res → Wx X w 0 0 20 [(0, .inr (.inr (some v0))), (1, .inl v1), (2, .inl v2), (3, .inl v3), (4, .inl v4)] []) : ∀ (v0 : Nat) (v1 : Int32) (v2 : Int32) (v3 : Int32) (v4 : Int32) (w : gW), mX7_leastRow_h20 F r v0 v1 v2 v3 v4 w = some res → Wx X w 0 0 20 [(0, .inr (.inr (some v0))), (1, .inl v1), (2, .inl v2), (3, .inl v3), (4, .inl v4)] [] := by
  intro v0 v1 v2 v3 v4 w h
  unfold mX7_leastRow_h20 at h
  refine Wx.run ok kX7_leastRow 13 1 (lv' := [(0, .inr (.inr (some v0))), (1, .inl v1), (2, .inl v2), (3, .inl v3), (4, .inl v4)]) (st' := [.inl v4]) (pc' := 22) rfl ?_
  refine Wx.if_ne ok kX7_leastRow 14 (tgt := 224) rfl (by decide) h (fun hc22 h => ?_) (fun hc22 h => ?_)
  · refine Wx.run ok kX7_leastRow 15 2 (lv' := [(5, .inl (0 : Int32)), (0, .inr (.inr (some v0))), (1, .inl v1), (2, .inl v2), (3, .inl v3), (4, .inl v4)]) (st' := []) (pc' := 28) rfl ?_
    refine Wx.sub [1, 2, 3, 4, 5, 0] rfl ?_
    refine aX7_leastRow_l28 ok hres (F := F) _ ?_ F _ _ _ _ _ _ _ h
    · intro v0 v1 v2 v3 v4 w h
      refine Wx.run ok kX7_leastRow 30 3 (lv' := [(0, .inr (.inr (some v0))), (1, .inl v1), (2, .inl v2), (3, .inl v3), (4, .inl v4)]) (st' := [.inl v3, .inl v1, .inr (.inr (some v0))]) (pc' := 57) rfl ?_
      obtain ⟨a57, ha57, h⟩ := gob h
      obtain ⟨q57, hq57, h⟩ := gob h
      refine Wx.callV ok kX7_leastRow 33 rfl lm_RX7_162 cd_X7_makes ha57 [.inl v1, .inl v3] none (aX7_makes _ _ hq57) (by decide) rfl (Nat.le_of_ble_eq_true rfl) rfl rfl ?_
      refine Wx.run ok kX7_leastRow 34 1 (lv' := [(0, .inr (.inr (some v0))), (1, .inl v1), (2, .inl v2), (3, .inl v3), (4, .inl v4)]) (st' := [.inr (.inr (some v0))]) (pc' := 61) rfl ?_
      refine Wx.getR ok kX7_leastRow 35 rfl lk_RX7_58_0 h (fun t61 h => ?_)
      refine Wx.run ok kX7_leastRow 36 1 (lv' := [(0, .inr (.inr (some v0))), (1, .inl v1), (2, .inl v2), (3, .inl v3), (4, .inl v4)]) (st' := [.inl v3, .inr (.inr t61)]) (pc' := 65) rfl ?_
      refine Wx.iald ok kX7_leastRow 37 rfl h (fun t65 h => ?_)
      refine Wx.run ok kX7_leastRow 38 1 (lv' := [(5, .inl t65), (0, .inr (.inr (some v0))), (1, .inl v1), (2, .inl v2), (3, .inl v3), (4, .inl v4)]) (st' := []) (pc' := 68) rfl ?_
      refine Wx.sub [1, 2, 3, 4, 5, 0] rfl ?_
      refine aX7_leastRow_l68 ok hres (F := F) _ ?_ F _ _ _ _ _ _ _ h
      · intro v0 v1 v2 v3 v4 v5 w h
        exact aX7_leastRow_b94 ok hres (F := F) r hr _ _ _ _ _ _ _ h
  · exact Wx.vreturn ok kX7_leastRow 131 rfl hres h (by decide)
set_option maxRecDepth 100000 in
set_option maxHeartbeats 4000000 in
theorem aX7_leastRow_l20 {X : gX} (ok : gOk X cX7_leastRow RX7 6 none rmX7_leastRow) {res : gW} (hres : gRs X none res) {F : Nat} : ∀ (n : Nat) (v0 : Nat) (v1 : Int32) (v2 : Int32) (v3 : Int32) (v4 : Int32) (w : gW), mX7_leastRow_l20 F n v0 v1 v2 v3 v4 w = some res → Wx X w 0 0 20 [(0, .inr (.inr (some v0))), (1, .inl v1), (2, .inl v2), (3, .inl v3), (4, .inl v4)] [] := by
  intro n
  induction n with
  | zero => intro v0 v1 v2 v3 v4 w h; cases (show (none : Option (gW)) = some res from h)
  | succ n ih =>
    intro v0 v1 v2 v3 v4 w h
    exact aX7_leastRow_h20 ok hres (F := F) (mX7_leastRow_l20 F n) ih v0 v1 v2 v3 v4 w h
set_option maxRecDepth 100000 in
set_option maxHeartbeats 4000000 in
theorem aX7_leastRow_b18 {X : gX} (ok : gOk X cX7_leastRow RX7 6 none rmX7_leastRow) {res : gW} (hres : gRs X none res) {F : Nat} : ∀ (v0 : Nat) (v1 : Int32) (v2 : Int32) (v3 : Int32) (s0 : Int32) (w : gW), mX7_leastRow_b18 F v0 v1 v2 v3 s0 w = some res → Wx X w 0 0 18 [(0, .inr (.inr (some v0))), (1, .inl v1), (2, .inl v2), (3, .inl v3)] [.inl s0] := by
  intro v0 v1 v2 v3 s0 w h
  unfold mX7_leastRow_b18 at h
  refine Wx.run ok kX7_leastRow 12 1 (lv' := [(4, .inl s0), (0, .inr (.inr (some v0))), (1, .inl v1), (2, .inl v2), (3, .inl v3)]) (st' := []) (pc' := 20) rfl ?_
  refine Wx.sub [1, 2, 3, 4, 0] rfl ?_
  refine aX7_leastRow_l20 ok hres (F := F) F _ _ _ _ _ _ h
set_option maxRecDepth 100000 in
set_option maxHeartbeats 4000000 in
theorem aX7_leastRow (l : Launch) (G : gG) {F : Nat} {v0 : Nat} {v1 : Int32} {v2 : Int32} {w : gW} {res : gW} (h : mX7_leastRow F v0 v1 v2 w = some res) : gM l yX7_leastRow cX7_leastRow 6 none rmX7_leastRow G w (gTs [.inr (.inr (some v0)), .inl v1, .inl v2]) none res := by
  refine gM_of (y := yX7_leastRow) (by decide +kernel) (Nat.le_of_ble_eq_true rfl) ?_
  intro X ok hl hG hres hnm
  subst hl; subst hG
  unfold mX7_leastRow at h
  show Wx X w 0 0 0 [(0, .inr (.inr (some v0))), (1, .inl v1), (2, .inl v2)] []
  refine Wx.run ok kX7_leastRow 0 3 (lv' := [(3, .inl (0 : Int32)), (0, .inr (.inr (some v0))), (1, .inl v1), (2, .inl v2)]) (st' := [.inr (.inr (some v0))]) (pc' := 3) rfl ?_
  refine Wx.getR ok kX7_leastRow 3 rfl lk_RX7_58_0 h (fun t3 h => ?_)
  refine Wx.run ok kX7_leastRow 4 2 (lv' := [(3, .inl (0 : Int32)), (0, .inr (.inr (some v0))), (1, .inl v1), (2, .inl v2)]) (st' := [.inl (0 : Int32), .inl (0 : Int32), .inr (.inr t3)]) (pc' := 8) rfl ?_
  refine Wx.iast ok kX7_leastRow 6 rfl h (fun w8 h => ?_)
  refine Wx.run ok kX7_leastRow 7 1 (lv' := [(3, .inl (0 : Int32)), (0, .inr (.inr (some v0))), (1, .inl v1), (2, .inl v2)]) (st' := [.inl v2]) (pc' := 10) rfl ?_
  refine Wx.if_ne ok kX7_leastRow 8 (tgt := 17) rfl (by decide) h (fun hc10 h => ?_) (fun hc10 h => ?_)
  · refine Wx.run ok kX7_leastRow 9 1 (lv' := [(3, .inl (0 : Int32)), (0, .inr (.inr (some v0))), (1, .inl v1), (2, .inl v2)]) (st' := [.inl (1 : Int32)]) (pc' := 14) rfl ?_
    refine Wx.jump ok kX7_leastRow 10 (tgt := 18) rfl (by decide) ?_
    refine Wx.sub [1, 2, 3, 0] rfl ?_
    exact aX7_leastRow_b18 ok hres (F := F) _ _ _ _ _ _ h
  · refine Wx.run ok kX7_leastRow 11 1 (lv' := [(3, .inl (0 : Int32)), (0, .inr (.inr (some v0))), (1, .inl v1), (2, .inl v2)]) (st' := [.inl (0 : Int32)]) (pc' := 18) rfl ?_
    refine Wx.sub [1, 2, 3, 0] rfl ?_
    exact aX7_leastRow_b18 ok hres (F := F) _ _ _ _ _ _ h
set_option maxRecDepth 100000 in
set_option maxHeartbeats 4000000 in
theorem aX7_leastTurned_b50 {X : gX} (ok : gOk X cX7_leastTurned RX7 6 (some .int) rmX7_leastTurned) {res : Int32 × gW} (hres : gRs X (some (.int res.1)) res.2) {F : Nat} (r : Nat → Int32 → Int32 → Int32 → Int32 → gW → Option (Int32 × gW)) (hr : ∀ (v0 : Nat) (v1 : Int32) (v2 : Int32) (v3 : Int32) (v4 : Int32) (w : gW), r v0 v1 v2 v3 v4 w = some res → Wx X w 0 0 5 [(0, .inr (.inr (some v0))), (1, .inl v1), (2, .inl v2), (3, .inl v3), (4, .inl v4)] []) : ∀ (v0 : Nat) (v1 : Int32) (v2 : Int32) (v4 : Int32) (s0 : Int32) (w : gW), mX7_leastTurned_b50 F r v0 v1 v2 v4 s0 w = some res → Wx X w 0 0 50 [(0, .inr (.inr (some v0))), (1, .inl v1), (2, .inl v2), (4, .inl v4)] [.inl s0] := by
  intro v0 v1 v2 v4 s0 w h
  unfold mX7_leastTurned_b50 at h
  refine Wx.run ok kX7_leastTurned 29 2 (lv' := [(4, .inl (v4 + (1 : Int32))), (3, .inl s0), (0, .inr (.inr (some v0))), (1, .inl v1), (2, .inl v2)]) (st' := []) (pc' := 54) rfl ?_
  refine Wx.jump ok kX7_leastTurned 31 (tgt := 5) rfl (by decide) ?_
  refine Wx.sub [2, 3, 4, 1, 0] rfl ?_
  exact hr _ _ _ _ _ _ h
set_option maxRecDepth 100000 in
set_option maxHeartbeats 4000000 in
theorem aX7_leastTurned_h5 {X : gX} (ok : gOk X cX7_leastTurned RX7 6 (some .int) rmX7_leastTurned) {res : Int32 × gW} (hres : gRs X (some (.int res.1)) res.2) {F : Nat} (r : Nat → Int32 → Int32 → Int32 → Int32 → gW → Option (Int32 × gW)) (hr : ∀ (v0 : Nat) (v1 : Int32) (v2 : Int32) (v3 : Int32) (v4 : Int32) (w : gW), r v0 v1 v2 v3 v4 w = some res → Wx X w 0 0 5 [(0, .inr (.inr (some v0))), (1, .inl v1), (2, .inl v2), (3, .inl v3), (4, .inl v4)] []) : ∀ (v0 : Nat) (v1 : Int32) (v2 : Int32) (v3 : Int32) (v4 : Int32) (w : gW), mX7_leastTurned_h5 F r v0 v1 v2 v3 v4 w = some res → Wx X w 0 0 5 [(0, .inr (.inr (some v0))), (1, .inl v1), (2, .inl v2), (3, .inl v3), (4, .inl v4)] [] := by
  intro v0 v1 v2 v3 v4 w h
  unfold mX7_leastTurned_h5 at h
  refine Wx.run ok kX7_leastTurned 4 2 (lv' := [(0, .inr (.inr (some v0))), (1, .inl v1), (2, .inl v2), (3, .inl v3), (4, .inl v4)]) (st' := [.inr (.inr (some v0)), .inl v4]) (pc' := 8) rfl ?_
  refine Wx.getR ok kX7_leastTurned 6 rfl lk_RX7_7_0 h (fun t8 h => ?_)
  refine Wx.run ok kX7_leastTurned 7 1 (lv' := [(0, .inr (.inr (some v0))), (1, .inl v1), (2, .inl v2), (3, .inl v3), (4, .inl v4)]) (st' := [.inl v1, .inr (.inr t8), .inl v4]) (pc' := 12) rfl ?_
  refine Wx.iald ok kX7_leastTurned 8 rfl h (fun t12 h => ?_)
  refine Wx.icmp_ge ok kX7_leastTurned 9 (tgt := 57) rfl (by decide) h (fun hc13 h => ?_) (fun hc13 h => ?_)
  · refine Wx.run ok kX7_leastTurned 32 1 (lv' := [(0, .inr (.inr (some v0))), (1, .inl v1), (2, .inl v2), (3, .inl v3), (4, .inl v4)]) (st' := [.inl v3]) (pc' := 58) rfl ?_
    exact Wx.ireturn ok kX7_leastTurned 33 rfl hres h (by decide)
  · refine Wx.run ok kX7_leastTurned 10 6 (lv' := [(0, .inr (.inr (some v0))), (1, .inl v1), (2, .inl v2), (3, .inl v3), (4, .inl v4)]) (st' := [.inl v2, .inl v4, .inl v1, .inr (.inr (some v0)), .inl v1, .inr (.inr (some v0))]) (pc' := 23) rfl ?_
    obtain ⟨a23, ha23, h⟩ := gob h
    obtain ⟨q23, hq23, h⟩ := gob h
    refine Wx.callV ok kX7_leastTurned 16 rfl lm_RX7_118 cd_X7_prod ha23 [.inl v1, .inl v4, .inl v2] (some (.inl q23.1)) (aX7_prod _ _ hq23) (by decide) rfl (Nat.le_of_ble_eq_true rfl) rfl rfl ?_
    refine Wx.run ok kX7_leastTurned 17 3 (lv' := [(0, .inr (.inr (some v0))), (1, .inl v1), (2, .inl v2), (3, .inl v3), (4, .inl v4)]) (st' := [.inl v4, .inl v1, .inr (.inr (some v0)), .inl q23.1, .inl v1, .inr (.inr (some v0))]) (pc' := 30) rfl ?_
    obtain ⟨a30, ha30, h⟩ := gob h
    obtain ⟨q30, hq30, h⟩ := gob h
    refine Wx.callV ok kX7_leastTurned 20 rfl lm_RX7_136 cd_X7_inverse ha30 [.inl v1, .inl v4] (some (.inl q30.1)) (aX7_inverse _ _ hq30) (by decide) rfl (Nat.le_of_ble_eq_true rfl) rfl rfl ?_
    obtain ⟨a33, ha33, h⟩ := gob h
    obtain ⟨q33, hq33, h⟩ := gob h
    refine Wx.callV ok kX7_leastTurned 21 rfl lm_RX7_118 cd_X7_prod ha33 [.inl v1, .inl q23.1, .inl q30.1] (some (.inl q33.1)) (aX7_prod _ _ hq33) (by decide) rfl (Nat.le_of_ble_eq_true rfl) rfl rfl ?_
    refine Wx.run ok kX7_leastTurned 22 3 (lv' := [(5, .inl q33.1), (0, .inr (.inr (some v0))), (1, .inl v1), (2, .inl v2), (3, .inl v3), (4, .inl v4)]) (st' := [.inl v3, .inl q33.1]) (pc' := 41) rfl ?_
    refine Wx.icmp_ge ok kX7_leastTurned 25 (tgt := 49) rfl (by decide) h (fun hc41 h => ?_) (fun hc41 h => ?_)
    · refine Wx.run ok kX7_leastTurned 28 1 (lv' := [(5, .inl q33.1), (0, .inr (.inr (some v0))), (1, .inl v1), (2, .inl v2), (3, .inl v3), (4, .inl v4)]) (st' := [.inl v3]) (pc' := 50) rfl ?_
      refine Wx.sub [1, 2, 3, 5] rfl ?_
      exact aX7_leastTurned_b50 ok hres (F := F) r hr _ _ _ _ _ _ h
    · refine Wx.run ok kX7_leastTurned 26 1 (lv' := [(5, .inl q33.1), (0, .inr (.inr (some v0))), (1, .inl v1), (2, .inl v2), (3, .inl v3), (4, .inl v4)]) (st' := [.inl q33.1]) (pc' := 46) rfl ?_
      refine Wx.jump ok kX7_leastTurned 27 (tgt := 50) rfl (by decide) ?_
      refine Wx.sub [1, 2, 3, 5] rfl ?_
      exact aX7_leastTurned_b50 ok hres (F := F) r hr _ _ _ _ _ _ h
set_option maxRecDepth 100000 in
set_option maxHeartbeats 4000000 in
theorem aX7_leastTurned_l5 {X : gX} (ok : gOk X cX7_leastTurned RX7 6 (some .int) rmX7_leastTurned) {res : Int32 × gW} (hres : gRs X (some (.int res.1)) res.2) {F : Nat} : ∀ (n : Nat) (v0 : Nat) (v1 : Int32) (v2 : Int32) (v3 : Int32) (v4 : Int32) (w : gW), mX7_leastTurned_l5 F n v0 v1 v2 v3 v4 w = some res → Wx X w 0 0 5 [(0, .inr (.inr (some v0))), (1, .inl v1), (2, .inl v2), (3, .inl v3), (4, .inl v4)] [] := by
  intro n
  induction n with
  | zero => intro v0 v1 v2 v3 v4 w h; cases (show (none : Option (Int32 × gW)) = some res from h)
  | succ n ih =>
    intro v0 v1 v2 v3 v4 w h
    exact aX7_leastTurned_h5 ok hres (F := F) (mX7_leastTurned_l5 F n) ih v0 v1 v2 v3 v4 w h
set_option maxRecDepth 100000 in
set_option maxHeartbeats 4000000 in
theorem aX7_leastTurned (l : Launch) (G : gG) {F : Nat} {v0 : Nat} {v1 : Int32} {v2 : Int32} {w : gW} {res : Int32 × gW} (h : mX7_leastTurned F v0 v1 v2 w = some res) : gM l yX7_leastTurned cX7_leastTurned 6 (some .int) rmX7_leastTurned G w (gTs [.inr (.inr (some v0)), .inl v1, .inl v2]) (some (.int res.1)) res.2 := by
  refine gM_of (y := yX7_leastTurned) (by decide +kernel) (Nat.le_of_ble_eq_true rfl) ?_
  intro X ok hl hG hres hnm
  subst hl; subst hG
  unfold mX7_leastTurned at h
  show Wx X w 0 0 0 [(0, .inr (.inr (some v0))), (1, .inl v1), (2, .inl v2)] []
  refine Wx.run ok kX7_leastTurned 0 4 (lv' := [(4, .inl (0 : Int32)), (3, .inl v2), (0, .inr (.inr (some v0))), (1, .inl v1), (2, .inl v2)]) (st' := []) (pc' := 5) rfl ?_
  refine Wx.sub [2, 3, 4, 1, 0] rfl ?_
  refine aX7_leastTurned_l5 ok hres (F := F) F _ _ _ _ _ _ h
set_option maxRecDepth 100000 in
set_option maxHeartbeats 4000000 in
theorem aX7_module_b137 {X : gX} (ok : gOk X cX7_module RX7 6 (some .int) rmX7_module) {res : Int32 × gW} (hres : gRs X (some (.int res.1)) res.2) {F : Nat} (r : Nat → Int32 → Int32 → Int32 → gW → Option (Int32 × gW)) (k144 : Nat → Int32 → gW → Option (Int32 × gW)) (hr : ∀ (v0 : Nat) (v3 : Int32) (v4 : Int32) (v5 : Int32) (w : gW), r v0 v3 v4 v5 w = some res → Wx X w 0 0 93 [(0, .inr (.inr (some v0))), (3, .inl v3), (4, .inl v4), (5, .inl v5)] []) (hk144 : ∀ (v0 : Nat) (v4 : Int32) (w : gW), k144 v0 v4 w = some res → Wx X w 0 0 144 [(0, .inr (.inr (some v0))), (4, .inl v4)] []) : ∀ (v0 : Nat) (v3 : Int32) (v4 : Int32) (v5 : Int32) (s0 : Option Nat) (s1 : Int32) (s2 : Int32) (w : gW), mX7_module_b137 F r k144 v0 v3 v4 v5 s0 s1 s2 w = some res → Wx X w 0 0 137 [(0, .inr (.inr (some v0))), (3, .inl v3), (4, .inl v4), (5, .inl v5)] [.inl s2, .inl s1, .inr (.inr s0)] := by
  intro v0 v3 v4 v5 s0 s1 s2 w h
  unfold mX7_module_b137 at h
  refine Wx.iast ok kX7_module 78 rfl h (fun w137 h => ?_)
  refine Wx.run ok kX7_module 79 1 (lv' := [(5, .inl (v5 + (1 : Int32))), (0, .inr (.inr (some v0))), (3, .inl v3), (4, .inl v4)]) (st' := []) (pc' := 141) rfl ?_
  refine Wx.jump ok kX7_module 80 (tgt := 93) rfl (by decide) ?_
  refine Wx.sub [1, 2, 3, 0] rfl ?_
  exact hr _ _ _ _ _ h
set_option maxRecDepth 100000 in
set_option maxHeartbeats 4000000 in
theorem aX7_module_b132 {X : gX} (ok : gOk X cX7_module RX7 6 (some .int) rmX7_module) {res : Int32 × gW} (hres : gRs X (some (.int res.1)) res.2) {F : Nat} (r : Nat → Int32 → Int32 → Int32 → gW → Option (Int32 × gW)) (k144 : Nat → Int32 → gW → Option (Int32 × gW)) (hr : ∀ (v0 : Nat) (v3 : Int32) (v4 : Int32) (v5 : Int32) (w : gW), r v0 v3 v4 v5 w = some res → Wx X w 0 0 93 [(0, .inr (.inr (some v0))), (3, .inl v3), (4, .inl v4), (5, .inl v5)] []) (hk144 : ∀ (v0 : Nat) (v4 : Int32) (w : gW), k144 v0 v4 w = some res → Wx X w 0 0 144 [(0, .inr (.inr (some v0))), (4, .inl v4)] []) : ∀ (v0 : Nat) (v3 : Int32) (v4 : Int32) (v5 : Int32) (s0 : Option Nat) (s1 : Int32) (w : gW), mX7_module_b132 F r k144 v0 v3 v4 v5 s0 s1 w = some res → Wx X w 0 0 132 [(0, .inr (.inr (some v0))), (3, .inl v3), (4, .inl v4), (5, .inl v5)] [.inl s1, .inr (.inr s0)] := by
  intro v0 v3 v4 v5 s0 s1 w h
  unfold mX7_module_b132 at h
  refine Wx.run ok kX7_module 75 1 (lv' := [(0, .inr (.inr (some v0))), (3, .inl v3), (4, .inl v4), (5, .inl v5)]) (st' := [.inl (1 : Int32), .inl s1, .inr (.inr s0)]) (pc' := 133) rfl ?_
  refine Wx.jump ok kX7_module 76 (tgt := 137) rfl (by decide) ?_
  exact aX7_module_b137 ok hres (F := F) r k144 hr hk144 _ _ _ _ _ _ _ _ h
set_option maxRecDepth 100000 in
set_option maxHeartbeats 4000000 in
theorem aX7_module_b136 {X : gX} (ok : gOk X cX7_module RX7 6 (some .int) rmX7_module) {res : Int32 × gW} (hres : gRs X (some (.int res.1)) res.2) {F : Nat} (r : Nat → Int32 → Int32 → Int32 → gW → Option (Int32 × gW)) (k144 : Nat → Int32 → gW → Option (Int32 × gW)) (hr : ∀ (v0 : Nat) (v3 : Int32) (v4 : Int32) (v5 : Int32) (w : gW), r v0 v3 v4 v5 w = some res → Wx X w 0 0 93 [(0, .inr (.inr (some v0))), (3, .inl v3), (4, .inl v4), (5, .inl v5)] []) (hk144 : ∀ (v0 : Nat) (v4 : Int32) (w : gW), k144 v0 v4 w = some res → Wx X w 0 0 144 [(0, .inr (.inr (some v0))), (4, .inl v4)] []) : ∀ (v0 : Nat) (v3 : Int32) (v4 : Int32) (v5 : Int32) (s0 : Option Nat) (s1 : Int32) (w : gW), mX7_module_b136 F r k144 v0 v3 v4 v5 s0 s1 w = some res → Wx X w 0 0 136 [(0, .inr (.inr (some v0))), (3, .inl v3), (4, .inl v4), (5, .inl v5)] [.inl s1, .inr (.inr s0)] := by
  intro v0 v3 v4 v5 s0 s1 w h
  unfold mX7_module_b136 at h
  refine Wx.run ok kX7_module 77 1 (lv' := [(0, .inr (.inr (some v0))), (3, .inl v3), (4, .inl v4), (5, .inl v5)]) (st' := [.inl (0 : Int32), .inl s1, .inr (.inr s0)]) (pc' := 137) rfl ?_
  exact aX7_module_b137 ok hres (F := F) r k144 hr hk144 _ _ _ _ _ _ _ _ h
set_option maxRecDepth 100000 in
set_option maxHeartbeats 4000000 in
theorem aX7_module_h93 {X : gX} (ok : gOk X cX7_module RX7 6 (some .int) rmX7_module) {res : Int32 × gW} (hres : gRs X (some (.int res.1)) res.2) {F : Nat} (r : Nat → Int32 → Int32 → Int32 → gW → Option (Int32 × gW)) (k144 : Nat → Int32 → gW → Option (Int32 × gW)) (hr : ∀ (v0 : Nat) (v3 : Int32) (v4 : Int32) (v5 : Int32) (w : gW), r v0 v3 v4 v5 w = some res → Wx X w 0 0 93 [(0, .inr (.inr (some v0))), (3, .inl v3), (4, .inl v4), (5, .inl v5)] []) (hk144 : ∀ (v0 : Nat) (v4 : Int32) (w : gW), k144 v0 v4 w = some res → Wx X w 0 0 144 [(0, .inr (.inr (some v0))), (4, .inl v4)] []) : ∀ (v0 : Nat) (v3 : Int32) (v4 : Int32) (v5 : Int32) (w : gW), mX7_module_h93 F r k144 v0 v3 v4 v5 w = some res → Wx X w 0 0 93 [(0, .inr (.inr (some v0))), (3, .inl v3), (4, .inl v4), (5, .inl v5)] [] := by
  intro v0 v3 v4 v5 w h
  unfold mX7_module_h93 at h
  refine Wx.run ok kX7_module 53 2 (lv' := [(0, .inr (.inr (some v0))), (3, .inl v3), (4, .inl v4), (5, .inl v5)]) (st' := [.inl (32 : Int32), .inl v5]) (pc' := 97) rfl ?_
  refine Wx.icmp_ge ok kX7_module 55 (tgt := 144) rfl (by decide) h (fun hc97 h => ?_) (fun hc97 h => ?_)
  · refine Wx.sub [0, 2] rfl ?_
    exact hk144 _ _ _ h
  · refine Wx.run ok kX7_module 56 1 (lv' := [(0, .inr (.inr (some v0))), (3, .inl v3), (4, .inl v4), (5, .inl v5)]) (st' := [.inr (.inr (some v0))]) (pc' := 101) rfl ?_
    refine Wx.getR ok kX7_module 57 rfl lk_RX7_38_0 h (fun t101 h => ?_)
    refine Wx.run ok kX7_module 58 7 (lv' := [(0, .inr (.inr (some v0))), (3, .inl v3), (4, .inl v4), (5, .inl v5)]) (st' := [.inl (4 : Int32), .inl v5, .inl (((32 : Int32) * v4) + v5), .inr (.inr t101)]) (pc' := 115) rfl ?_
    refine Wx.irem ok kX7_module 65 rfl h (fun t115 h => ?_)
    refine Wx.if_eq ok kX7_module 66 (tgt := 132) rfl (by decide) h (fun hc116 h => ?_) (fun hc116 h => ?_)
    · exact aX7_module_b132 ok hres (F := F) r k144 hr hk144 _ _ _ _ _ _ _ h
    · refine Wx.run ok kX7_module 67 2 (lv' := [(0, .inr (.inr (some v0))), (3, .inl v3), (4, .inl v4), (5, .inl v5)]) (st' := [.inl (4 : Int32), .inl v5, .inl (((32 : Int32) * v4) + v5), .inr (.inr t101)]) (pc' := 122) rfl ?_
      refine Wx.irem ok kX7_module 69 rfl h (fun t122 h => ?_)
      refine Wx.run ok kX7_module 70 1 (lv' := [(0, .inr (.inr (some v0))), (3, .inl v3), (4, .inl v4), (5, .inl v5)]) (st' := [.inl (3 : Int32), .inl t122, .inl (((32 : Int32) * v4) + v5), .inr (.inr t101)]) (pc' := 124) rfl ?_
      refine Wx.icmp_ne ok kX7_module 71 (tgt := 136) rfl (by decide) h (fun hc124 h => ?_) (fun hc124 h => ?_)
      · refine Wx.run ok kX7_module 72 2 (lv' := [(0, .inr (.inr (some v0))), (3, .inl v3), (4, .inl v4), (5, .inl v5)]) (st' := [.inl (2 : Int32), .inl v3, .inl (((32 : Int32) * v4) + v5), .inr (.inr t101)]) (pc' := 129) rfl ?_
        refine Wx.icmp_ne ok kX7_module 74 (tgt := 136) rfl (by decide) h (fun hc129 h => ?_) (fun hc129 h => ?_)
        · exact aX7_module_b132 ok hres (F := F) r k144 hr hk144 _ _ _ _ _ _ _ h
        · exact aX7_module_b136 ok hres (F := F) r k144 hr hk144 _ _ _ _ _ _ _ h
      · exact aX7_module_b136 ok hres (F := F) r k144 hr hk144 _ _ _ _ _ _ _ h
set_option maxRecDepth 100000 in
set_option maxHeartbeats 4000000 in
theorem aX7_module_l93 {X : gX} (ok : gOk X cX7_module RX7 6 (some .int) rmX7_module) {res : Int32 × gW} (hres : gRs X (some (.int res.1)) res.2) {F : Nat} (k144 : Nat → Int32 → gW → Option (Int32 × gW)) (hk144 : ∀ (v0 : Nat) (v4 : Int32) (w : gW), k144 v0 v4 w = some res → Wx X w 0 0 144 [(0, .inr (.inr (some v0))), (4, .inl v4)] []) : ∀ (n : Nat) (v0 : Nat) (v3 : Int32) (v4 : Int32) (v5 : Int32) (w : gW), mX7_module_l93 F k144 n v0 v3 v4 v5 w = some res → Wx X w 0 0 93 [(0, .inr (.inr (some v0))), (3, .inl v3), (4, .inl v4), (5, .inl v5)] [] := by
  intro n
  induction n with
  | zero => intro v0 v3 v4 v5 w h; cases (show (none : Option (Int32 × gW)) = some res from h)
  | succ n ih =>
    intro v0 v3 v4 v5 w h
    exact aX7_module_h93 ok hres (F := F) (mX7_module_l93 F k144 n) k144 ih hk144 v0 v3 v4 v5 w h
set_option maxRecDepth 100000 in
set_option maxHeartbeats 4000000 in
theorem aX7_module_b34 {X : gX} (ok : gOk X cX7_module RX7 6 (some .int) rmX7_module) {res : Int32 × gW} (hres : gRs X (some (.int res.1)) res.2) {F : Nat} : ∀ (v0 : Nat) (v1 : Int32) (v2 : Int32) (v3 : Int32) (w : gW), mX7_module_b34 F v0 v1 v2 v3 w = some res → Wx X w 0 0 34 [(0, .inr (.inr (some v0))), (1, .inl v1), (2, .inl v2), (3, .inl v3)] [] := by
  intro v0 v1 v2 v3 w h
  unfold mX7_module_b34 at h
  refine Wx.run ok kX7_module 19 3 (lv' := [(0, .inr (.inr (some v0))), (1, .inl v1), (2, .inl v2), (3, .inl v3)]) (st' := [.inr (.inl (1 : Int64)), .inr (.inl ((v3).toInt64))]) (pc' := 37) rfl ?_
  refine Wx.ldc2 ok kX7_module 22 rfl gw_959 ?_
  obtain ⟨q40, hq40, h⟩ := gob h
  refine Wx.callS ok kX7_module 23 rfl lm_RX7_100 cd_X7_in [.inr (.inl ((v3).toInt64)), .inr (.inl (1 : Int64)), .inr (.inl (2 : Int64))] (some (.inl q40.1)) (aX7_in _ _ hq40) (by decide) rfl (Nat.le_of_ble_eq_true rfl) rfl rfl ?_
  refine Wx.if_ne ok kX7_module 24 (tgt := 48) rfl (by decide) h (fun hc43 h => ?_) (fun hc43 h => ?_)
  · refine Wx.run ok kX7_module 25 1 (lv' := [(0, .inr (.inr (some v0))), (1, .inl v1), (2, .inl v2), (3, .inl v3)]) (st' := [.inl (-1 : Int32)]) (pc' := 47) rfl ?_
    exact Wx.ireturn ok kX7_module 26 rfl hres h (by decide)
  · refine Wx.run ok kX7_module 27 1 (lv' := [(0, .inr (.inr (some v0))), (1, .inl v1), (2, .inl v2), (3, .inl v3)]) (st' := [.inr (.inr (some v0))]) (pc' := 49) rfl ?_
    refine Wx.getI ok kX7_module 28 rfl lk_RX7_129_0 h (fun t49 h => ?_)
    refine Wx.run ok kX7_module 29 1 (lv' := [(0, .inr (.inr (some v0))), (1, .inl v1), (2, .inl v2), (3, .inl v3)]) (st' := [.inl (6 : Int32), .inl t49]) (pc' := 54) rfl ?_
    refine Wx.icmp_ne ok kX7_module 30 (tgt := 60) rfl (by decide) h (fun hc54 h => ?_) (fun hc54 h => ?_)
    · refine Wx.run ok kX7_module 31 1 (lv' := [(0, .inr (.inr (some v0))), (1, .inl v1), (2, .inl v2), (3, .inl v3)]) (st' := [.inl (-3 : Int32)]) (pc' := 59) rfl ?_
      exact Wx.ireturn ok kX7_module 32 rfl hres h (by decide)
    · refine Wx.run ok kX7_module 33 1 (lv' := [(0, .inr (.inr (some v0))), (1, .inl v1), (2, .inl v2), (3, .inl v3)]) (st' := [.inr (.inr (some v0))]) (pc' := 61) rfl ?_
      refine Wx.getI ok kX7_module 34 rfl lk_RX7_129_0 h (fun t61 h => ?_)
      refine Wx.run ok kX7_module 35 2 (lv' := [(4, .inl t61), (0, .inr (.inr (some v0))), (1, .inl v1), (2, .inl v2), (3, .inl v3)]) (st' := [.inr (.inr (some v0))]) (pc' := 67) rfl ?_
      refine Wx.getR ok kX7_module 37 rfl lk_RX7_29_0 h (fun t67 h => ?_)
      refine Wx.run ok kX7_module 38 2 (lv' := [(4, .inl t61), (0, .inr (.inr (some v0))), (1, .inl v1), (2, .inl v2), (3, .inl v3)]) (st' := [.inl v1, .inl t61, .inr (.inr t67)]) (pc' := 73) rfl ?_
      refine Wx.iast ok kX7_module 40 rfl h (fun w73 h => ?_)
      refine Wx.run ok kX7_module 41 1 (lv' := [(4, .inl t61), (0, .inr (.inr (some v0))), (1, .inl v1), (2, .inl v2), (3, .inl v3)]) (st' := [.inr (.inr (some v0))]) (pc' := 75) rfl ?_
      refine Wx.getR ok kX7_module 42 rfl lk_RX7_32_0 h (fun t75 h => ?_)
      refine Wx.run ok kX7_module 43 2 (lv' := [(4, .inl t61), (0, .inr (.inr (some v0))), (1, .inl v1), (2, .inl v2), (3, .inl v3)]) (st' := [.inl v2, .inl t61, .inr (.inr t75)]) (pc' := 81) rfl ?_
      refine Wx.iast ok kX7_module 45 rfl h (fun w81 h => ?_)
      refine Wx.run ok kX7_module 46 1 (lv' := [(4, .inl t61), (0, .inr (.inr (some v0))), (1, .inl v1), (2, .inl v2), (3, .inl v3)]) (st' := [.inr (.inr (some v0))]) (pc' := 83) rfl ?_
      refine Wx.getR ok kX7_module 47 rfl lk_RX7_35_0 h (fun t83 h => ?_)
      refine Wx.run ok kX7_module 48 2 (lv' := [(4, .inl t61), (0, .inr (.inr (some v0))), (1, .inl v1), (2, .inl v2), (3, .inl v3)]) (st' := [.inl v3, .inl t61, .inr (.inr t83)]) (pc' := 89) rfl ?_
      refine Wx.iast ok kX7_module 50 rfl h (fun w89 h => ?_)
      refine Wx.run ok kX7_module 51 2 (lv' := [(5, .inl (0 : Int32)), (4, .inl t61), (0, .inr (.inr (some v0))), (1, .inl v1), (2, .inl v2), (3, .inl v3)]) (st' := []) (pc' := 93) rfl ?_
      refine Wx.sub [2, 5, 1, 0] rfl ?_
      refine aX7_module_l93 ok hres (F := F) _ ?_ F _ _ _ _ _ h
      · intro v0 v4 w h
        refine Wx.run ok kX7_module 81 2 (lv' := [(0, .inr (.inr (some v0))), (4, .inl v4)]) (st' := [.inl (-4 : Int32), .inr (.inr (some v0))]) (pc' := 147) rfl ?_
        refine Wx.put ok kX7_module 83 rfl lk_RX7_76_1 (gFit_i _) h (fun w147 h => ?_)
        refine Wx.run ok kX7_module 84 2 (lv' := [(0, .inr (.inr (some v0))), (4, .inl v4)]) (st' := [.inr (.inr (some v0)), .inr (.inr (some v0))]) (pc' := 152) rfl ?_
        refine Wx.getI ok kX7_module 86 rfl lk_RX7_129_0 h (fun t152 h => ?_)
        refine Wx.run ok kX7_module 87 2 (lv' := [(0, .inr (.inr (some v0))), (4, .inl v4)]) (st' := [.inl (t152 + (1 : Int32)), .inr (.inr (some v0))]) (pc' := 157) rfl ?_
        refine Wx.put ok kX7_module 89 rfl lk_RX7_129_1 (gFit_i _) h (fun w157 h => ?_)
        refine Wx.run ok kX7_module 90 1 (lv' := [(0, .inr (.inr (some v0))), (4, .inl v4)]) (st' := [.inl v4]) (pc' := 162) rfl ?_
        exact Wx.ireturn ok kX7_module 91 rfl hres h (by decide)
set_option maxRecDepth 100000 in
set_option maxHeartbeats 4000000 in
theorem aX7_module (l : Launch) (G : gG) {F : Nat} {v0 : Nat} {v1 : Int32} {v2 : Int32} {v3 : Int32} {w : gW} {res : Int32 × gW} (h : mX7_module F v0 v1 v2 v3 w = some res) : gM l yX7_module cX7_module 6 (some .int) rmX7_module G w (gTs [.inr (.inr (some v0)), .inl v1, .inl v2, .inl v3]) (some (.int res.1)) res.2 := by
  refine gM_of (y := yX7_module) (by decide +kernel) (Nat.le_of_ble_eq_true rfl) ?_
  intro X ok hl hG hres hnm
  subst hl; subst hG
  unfold mX7_module at h
  show Wx X w 0 0 0 [(0, .inr (.inr (some v0))), (1, .inl v1), (2, .inl v2), (3, .inl v3)] []
  refine Wx.run ok kX7_module 0 2 (lv' := [(0, .inr (.inr (some v0))), (1, .inl v1), (2, .inl v2), (3, .inl v3)]) (st' := [.inl v1, .inr (.inr (some v0))]) (pc' := 2) rfl ?_
  obtain ⟨a2, ha2, h⟩ := gob h
  obtain ⟨q2, hq2, h⟩ := gob h
  refine Wx.callV ok kX7_module 2 rfl lm_RX7_114 cd_X7_isGroup ha2 [.inl v1] (some (.inl q2.1)) (aX7_isGroup _ _ hq2) (by decide) rfl (Nat.le_of_ble_eq_true rfl) rfl rfl ?_
  refine Wx.if_eq ok kX7_module 3 (tgt := 46) rfl (by decide) h (fun hc5 h => ?_) (fun hc5 h => ?_)
  · refine Wx.run ok kX7_module 25 1 (lv' := [(0, .inr (.inr (some v0))), (1, .inl v1), (2, .inl v2), (3, .inl v3)]) (st' := [.inl (-1 : Int32)]) (pc' := 47) rfl ?_
    exact Wx.ireturn ok kX7_module 26 rfl hres h (by decide)
  · refine Wx.run ok kX7_module 4 1 (lv' := [(0, .inr (.inr (some v0))), (1, .inl v1), (2, .inl v2), (3, .inl v3)]) (st' := [.inr (.inr (some v0))]) (pc' := 9) rfl ?_
    refine Wx.getR ok kX7_module 5 rfl lk_RX7_7_0 h (fun t9 h => ?_)
    refine Wx.run ok kX7_module 6 1 (lv' := [(0, .inr (.inr (some v0))), (1, .inl v1), (2, .inl v2), (3, .inl v3)]) (st' := [.inl v1, .inr (.inr t9)]) (pc' := 13) rfl ?_
    refine Wx.iald ok kX7_module 7 rfl h (fun t13 h => ?_)
    refine Wx.run ok kX7_module 8 1 (lv' := [(0, .inr (.inr (some v0))), (1, .inl v1), (2, .inl v2), (3, .inl v3)]) (st' := [.inl (8 : Int32), .inl t13]) (pc' := 16) rfl ?_
    refine Wx.icmp_gt ok kX7_module 9 (tgt := 46) rfl (by decide) h (fun hc16 h => ?_) (fun hc16 h => ?_)
    · refine Wx.run ok kX7_module 25 1 (lv' := [(0, .inr (.inr (some v0))), (1, .inl v1), (2, .inl v2), (3, .inl v3)]) (st' := [.inl (-1 : Int32)]) (pc' := 47) rfl ?_
      exact Wx.ireturn ok kX7_module 26 rfl hres h (by decide)
    · refine Wx.run ok kX7_module 10 2 (lv' := [(0, .inr (.inr (some v0))), (1, .inl v1), (2, .inl v2), (3, .inl v3)]) (st' := [.inl (2 : Int32), .inl v2]) (pc' := 21) rfl ?_
      refine Wx.icmp_eq ok kX7_module 12 (tgt := 34) rfl (by decide) h (fun hc21 h => ?_) (fun hc21 h => ?_)
      · exact aX7_module_b34 ok hres (F := F) _ _ _ _ _ h
      · refine Wx.run ok kX7_module 13 2 (lv' := [(0, .inr (.inr (some v0))), (1, .inl v1), (2, .inl v2), (3, .inl v3)]) (st' := [.inl (3 : Int32), .inl v2]) (pc' := 26) rfl ?_
        refine Wx.icmp_eq ok kX7_module 15 (tgt := 34) rfl (by decide) h (fun hc26 h => ?_) (fun hc26 h => ?_)
        · exact aX7_module_b34 ok hres (F := F) _ _ _ _ _ h
        · refine Wx.run ok kX7_module 16 2 (lv' := [(0, .inr (.inr (some v0))), (1, .inl v1), (2, .inl v2), (3, .inl v3)]) (st' := [.inl (5 : Int32), .inl v2]) (pc' := 31) rfl ?_
          refine Wx.icmp_ne ok kX7_module 18 (tgt := 46) rfl (by decide) h (fun hc31 h => ?_) (fun hc31 h => ?_)
          · exact aX7_module_b34 ok hres (F := F) _ _ _ _ _ h
          · refine Wx.run ok kX7_module 25 1 (lv' := [(0, .inr (.inr (some v0))), (1, .inl v1), (2, .inl v2), (3, .inl v3)]) (st' := [.inl (-1 : Int32)]) (pc' := 47) rfl ?_
            exact Wx.ireturn ok kX7_module 26 rfl hres h (by decide)
