set_option maxRecDepth 100000 in
set_option maxHeartbeats 4000000 in
theorem aX7_dihedral_h35 {X : gX} (ok : gOk X cX7_dihedral RX7 4 (some .int) rmX7_dihedral) {res : Int32 × gW} (hres : gRs X (some (.int res.1)) res.2) {F : Nat} (r : Nat → Int32 → Int32 → Int32 → gW → Option (Int32 × gW)) (k106 : Nat → Int32 → Int32 → gW → Option (Int32 × gW)) (hr : ∀ (v0 : Nat) (v1 : Int32) (v2 : Int32) (v3 : Int32) (w : gW), r v0 v1 v2 v3 w = some res → Wx X w 0 0 35 [(0, .inr (.inr (some v0))), (1, .inl v1), (2, .inl v2), (3, .inl v3)] []) (hk106 : ∀ (v0 : Nat) (v1 : Int32) (v2 : Int32) (w : gW), k106 v0 v1 v2 w = some res → Wx X w 0 0 106 [(0, .inr (.inr (some v0))), (1, .inl v1), (2, .inl v2)] []) : ∀ (v0 : Nat) (v1 : Int32) (v2 : Int32) (v3 : Int32) (w : gW), mX7_dihedral_h35 F r k106 v0 v1 v2 v3 w = some res → Wx X w 0 0 35 [(0, .inr (.inr (some v0))), (1, .inl v1), (2, .inl v2), (3, .inl v3)] [] := by
  intro v0 v1 v2 v3 w h
  unfold mX7_dihedral_h35 at h
  refine Wx.run ok kX7_dihedral 21 2 (lv' := [(0, .inr (.inr (some v0))), (1, .inl v1), (2, .inl v2), (3, .inl v3)]) (st' := [.inl v1, .inl v3]) (pc' := 37) rfl ?_
  refine Wx.icmp_ge ok kX7_dihedral 23 (tgt := 106) rfl (by decide) h (fun hc37 h => ?_) (fun hc37 h => ?_)
  · refine Wx.sub [0, 1, 2] rfl ?_
    exact hk106 _ _ _ _ h
  · refine Wx.run ok kX7_dihedral 24 7 (lv' := [(0, .inr (.inr (some v0))), (1, .inl v1), (2, .inl v2), (3, .inl v3)]) (st' := [.inl v1, .inl (v2 + v3), .inl v3, .inl v2, .inr (.inr (some v0))]) (pc' := 47) rfl ?_
    refine Wx.irem ok kX7_dihedral 31 rfl h (fun t47 h => ?_)
    obtain ⟨a48, ha48, h⟩ := gob h
    obtain ⟨q48, hq48, h⟩ := gob h
    refine Wx.callV ok kX7_dihedral 32 rfl lm_RX7_104 cd_X7_set ha48 [.inl v2, .inl v3, .inl t47] none (aX7_set _ _ hq48) (by decide) rfl (Nat.le_of_ble_eq_true rfl) rfl rfl ?_
    refine Wx.run ok kX7_dihedral 33 10 (lv' := [(0, .inr (.inr (some v0))), (1, .inl v1), (2, .inl v2), (3, .inl v3)]) (st' := [.inl v1, .inl (v2 + v3), .inl v1, .inl (v1 + v3), .inl v2, .inr (.inr (some v0))]) (pc' := 61) rfl ?_
    refine Wx.irem ok kX7_dihedral 43 rfl h (fun t61 h => ?_)
    refine Wx.run ok kX7_dihedral 44 1 (lv' := [(0, .inr (.inr (some v0))), (1, .inl v1), (2, .inl v2), (3, .inl v3)]) (st' := [.inl (v1 + t61), .inl (v1 + v3), .inl v2, .inr (.inr (some v0))]) (pc' := 63) rfl ?_
    obtain ⟨a63, ha63, h⟩ := gob h
    obtain ⟨q63, hq63, h⟩ := gob h
    refine Wx.callV ok kX7_dihedral 45 rfl lm_RX7_104 cd_X7_set ha63 [.inl v2, .inl (v1 + v3), .inl (v1 + t61)] none (aX7_set _ _ hq63) (by decide) rfl (Nat.le_of_ble_eq_true rfl) rfl rfl ?_
    refine Wx.run ok kX7_dihedral 46 12 (lv' := [(0, .inr (.inr (some v0))), (1, .inl v1), (2, .inl v2), (3, .inl v3)]) (st' := [.inl v1, .inl ((v2 - v3) + v1), .inl v1, .inl v3, .inl (v1 + v2), .inr (.inr (some v0))]) (pc' := 78) rfl ?_
    refine Wx.irem ok kX7_dihedral 58 rfl h (fun t78 h => ?_)
    refine Wx.run ok kX7_dihedral 59 1 (lv' := [(0, .inr (.inr (some v0))), (1, .inl v1), (2, .inl v2), (3, .inl v3)]) (st' := [.inl (v1 + t78), .inl v3, .inl (v1 + v2), .inr (.inr (some v0))]) (pc' := 80) rfl ?_
    obtain ⟨a80, ha80, h⟩ := gob h
    obtain ⟨q80, hq80, h⟩ := gob h
    refine Wx.callV ok kX7_dihedral 60 rfl lm_RX7_104 cd_X7_set ha80 [.inl (v1 + v2), .inl v3, .inl (v1 + t78)] none (aX7_set _ _ hq80) (by decide) rfl (Nat.le_of_ble_eq_true rfl) rfl rfl ?_
    refine Wx.run ok kX7_dihedral 61 13 (lv' := [(0, .inr (.inr (some v0))), (1, .inl v1), (2, .inl v2), (3, .inl v3)]) (st' := [.inl v1, .inl ((v2 - v3) + v1), .inl (v1 + v3), .inl (v1 + v2), .inr (.inr (some v0))]) (pc' := 96) rfl ?_
    refine Wx.irem ok kX7_dihedral 74 rfl h (fun t96 h => ?_)
    obtain ⟨a97, ha97, h⟩ := gob h
    obtain ⟨q97, hq97, h⟩ := gob h
    refine Wx.callV ok kX7_dihedral 75 rfl lm_RX7_104 cd_X7_set ha97 [.inl (v1 + v2), .inl (v1 + v3), .inl t96] none (aX7_set _ _ hq97) (by decide) rfl (Nat.le_of_ble_eq_true rfl) rfl rfl ?_
    refine Wx.run ok kX7_dihedral 76 1 (lv' := [(3, .inl (v3 + (1 : Int32))), (0, .inr (.inr (some v0))), (1, .inl v1), (2, .inl v2)]) (st' := []) (pc' := 103) rfl ?_
    refine Wx.jump ok kX7_dihedral 77 (tgt := 35) rfl (by decide) ?_
    refine Wx.sub [1, 2, 3, 0] rfl ?_
    exact hr _ _ _ _ _ h
set_option maxRecDepth 100000 in
set_option maxHeartbeats 4000000 in
theorem aX7_dihedral_l35 {X : gX} (ok : gOk X cX7_dihedral RX7 4 (some .int) rmX7_dihedral) {res : Int32 × gW} (hres : gRs X (some (.int res.1)) res.2) {F : Nat} (k106 : Nat → Int32 → Int32 → gW → Option (Int32 × gW)) (hk106 : ∀ (v0 : Nat) (v1 : Int32) (v2 : Int32) (w : gW), k106 v0 v1 v2 w = some res → Wx X w 0 0 106 [(0, .inr (.inr (some v0))), (1, .inl v1), (2, .inl v2)] []) : ∀ (n : Nat) (v0 : Nat) (v1 : Int32) (v2 : Int32) (v3 : Int32) (w : gW), mX7_dihedral_l35 F k106 n v0 v1 v2 v3 w = some res → Wx X w 0 0 35 [(0, .inr (.inr (some v0))), (1, .inl v1), (2, .inl v2), (3, .inl v3)] [] := by
  intro n
  induction n with
  | zero => intro v0 v1 v2 v3 w h; cases (show (none : Option (Int32 × gW)) = some res from h)
  | succ n ih =>
    intro v0 v1 v2 v3 w h
    exact aX7_dihedral_h35 ok hres (F := F) (mX7_dihedral_l35 F k106 n) k106 ih hk106 v0 v1 v2 v3 w h
set_option maxRecDepth 100000 in
set_option maxHeartbeats 4000000 in
theorem aX7_dihedral_h28 {X : gX} (ok : gOk X cX7_dihedral RX7 4 (some .int) rmX7_dihedral) {res : Int32 × gW} (hres : gRs X (some (.int res.1)) res.2) {F : Nat} (r : Nat → Int32 → Int32 → gW → Option (Int32 × gW)) (k112 : Nat → Int32 → gW → Option (Int32 × gW)) (hr : ∀ (v0 : Nat) (v1 : Int32) (v2 : Int32) (w : gW), r v0 v1 v2 w = some res → Wx X w 0 0 28 [(0, .inr (.inr (some v0))), (1, .inl v1), (2, .inl v2)] []) (hk112 : ∀ (v0 : Nat) (v1 : Int32) (w : gW), k112 v0 v1 w = some res → Wx X w 0 0 112 [(0, .inr (.inr (some v0))), (1, .inl v1)] []) : ∀ (v0 : Nat) (v1 : Int32) (v2 : Int32) (w : gW), mX7_dihedral_h28 F r k112 v0 v1 v2 w = some res → Wx X w 0 0 28 [(0, .inr (.inr (some v0))), (1, .inl v1), (2, .inl v2)] [] := by
  intro v0 v1 v2 w h
  unfold mX7_dihedral_h28 at h
  refine Wx.run ok kX7_dihedral 16 2 (lv' := [(0, .inr (.inr (some v0))), (1, .inl v1), (2, .inl v2)]) (st' := [.inl v1, .inl v2]) (pc' := 30) rfl ?_
  refine Wx.icmp_ge ok kX7_dihedral 18 (tgt := 112) rfl (by decide) h (fun hc30 h => ?_) (fun hc30 h => ?_)
  · refine Wx.sub [0, 1] rfl ?_
    exact hk112 _ _ _ h
  · refine Wx.run ok kX7_dihedral 19 2 (lv' := [(3, .inl (0 : Int32)), (0, .inr (.inr (some v0))), (1, .inl v1), (2, .inl v2)]) (st' := []) (pc' := 35) rfl ?_
    refine Wx.sub [1, 2, 3, 0] rfl ?_
    refine aX7_dihedral_l35 ok hres (F := F) _ ?_ F _ _ _ _ _ h
    · intro v0 v1 v2 w h
      refine Wx.run ok kX7_dihedral 78 1 (lv' := [(2, .inl (v2 + (1 : Int32))), (0, .inr (.inr (some v0))), (1, .inl v1)]) (st' := []) (pc' := 109) rfl ?_
      refine Wx.jump ok kX7_dihedral 79 (tgt := 28) rfl (by decide) ?_
      refine Wx.sub [1, 2, 0] rfl ?_
      exact hr _ _ _ _ h
set_option maxRecDepth 100000 in
set_option maxHeartbeats 4000000 in
theorem aX7_dihedral_l28 {X : gX} (ok : gOk X cX7_dihedral RX7 4 (some .int) rmX7_dihedral) {res : Int32 × gW} (hres : gRs X (some (.int res.1)) res.2) {F : Nat} (k112 : Nat → Int32 → gW → Option (Int32 × gW)) (hk112 : ∀ (v0 : Nat) (v1 : Int32) (w : gW), k112 v0 v1 w = some res → Wx X w 0 0 112 [(0, .inr (.inr (some v0))), (1, .inl v1)] []) : ∀ (n : Nat) (v0 : Nat) (v1 : Int32) (v2 : Int32) (w : gW), mX7_dihedral_l28 F k112 n v0 v1 v2 w = some res → Wx X w 0 0 28 [(0, .inr (.inr (some v0))), (1, .inl v1), (2, .inl v2)] [] := by
  intro n
  induction n with
  | zero => intro v0 v1 v2 w h; cases (show (none : Option (Int32 × gW)) = some res from h)
  | succ n ih =>
    intro v0 v1 v2 w h
    exact aX7_dihedral_h28 ok hres (F := F) (mX7_dihedral_l28 F k112 n) k112 ih hk112 v0 v1 v2 w h
set_option maxRecDepth 100000 in
set_option maxHeartbeats 4000000 in
theorem aX7_dihedral (l : Launch) (G : gG) {F : Nat} {v0 : Nat} {v1 : Int32} {w : gW} {res : Int32 × gW} (h : mX7_dihedral F v0 v1 w = some res) : gM l yX7_dihedral cX7_dihedral 4 (some .int) rmX7_dihedral G w (gTs [.inr (.inr (some v0)), .inl v1]) (some (.int res.1)) res.2 := by
  refine gM_of (y := yX7_dihedral) (by decide +kernel) (Nat.le_of_ble_eq_true rfl) ?_
  intro X ok hl hG hres hnm
  subst hl; subst hG
  unfold mX7_dihedral at h
  show Wx X w 0 0 0 [(0, .inr (.inr (some v0))), (1, .inl v1)] []
  refine Wx.run ok kX7_dihedral 0 3 (lv' := [(0, .inr (.inr (some v0))), (1, .inl v1)]) (st' := [.inr (.inl (1 : Int64)), .inr (.inl ((v1).toInt64))]) (pc' := 3) rfl ?_
  refine Wx.ldc2 ok kX7_dihedral 3 rfl gw_839 ?_
  obtain ⟨q6, hq6, h⟩ := gob h
  refine Wx.callS ok kX7_dihedral 4 rfl lm_RX7_100 cd_X7_in [.inr (.inl ((v1).toInt64)), .inr (.inl (1 : Int64)), .inr (.inl (24 : Int64))] (some (.inl q6.1)) (aX7_in _ _ hq6) (by decide) rfl (Nat.le_of_ble_eq_true rfl) rfl rfl ?_
  refine Wx.if_ne ok kX7_dihedral 5 (tgt := 14) rfl (by decide) h (fun hc9 h => ?_) (fun hc9 h => ?_)
  · refine Wx.run ok kX7_dihedral 6 1 (lv' := [(0, .inr (.inr (some v0))), (1, .inl v1)]) (st' := [.inl (-1 : Int32)]) (pc' := 13) rfl ?_
    exact Wx.ireturn ok kX7_dihedral 7 rfl hres h (by decide)
  · refine Wx.run ok kX7_dihedral 8 1 (lv' := [(0, .inr (.inr (some v0))), (1, .inl v1)]) (st' := [.inr (.inr (some v0))]) (pc' := 15) rfl ?_
    refine Wx.getI ok kX7_dihedral 9 rfl lk_RX7_95_0 h (fun t15 h => ?_)
    refine Wx.run ok kX7_dihedral 10 1 (lv' := [(0, .inr (.inr (some v0))), (1, .inl v1)]) (st' := [.inl (8 : Int32), .inl t15]) (pc' := 20) rfl ?_
    refine Wx.icmp_ne ok kX7_dihedral 11 (tgt := 26) rfl (by decide) h (fun hc20 h => ?_) (fun hc20 h => ?_)
    · refine Wx.run ok kX7_dihedral 12 1 (lv' := [(0, .inr (.inr (some v0))), (1, .inl v1)]) (st' := [.inl (-3 : Int32)]) (pc' := 25) rfl ?_
      exact Wx.ireturn ok kX7_dihedral 13 rfl hres h (by decide)
    · refine Wx.run ok kX7_dihedral 14 2 (lv' := [(2, .inl (0 : Int32)), (0, .inr (.inr (some v0))), (1, .inl v1)]) (st' := []) (pc' := 28) rfl ?_
      refine Wx.sub [1, 2, 0] rfl ?_
      refine aX7_dihedral_l28 ok hres (F := F) _ ?_ F _ _ _ _ h
      · intro v0 v1 w h
        refine Wx.run ok kX7_dihedral 80 4 (lv' := [(0, .inr (.inr (some v0))), (1, .inl v1)]) (st' := [.inl ((2 : Int32) * v1), .inr (.inr (some v0))]) (pc' := 116) rfl ?_
        obtain ⟨a116, ha116, h⟩ := gob h
        obtain ⟨q116, hq116, h⟩ := gob h
        refine Wx.callV ok kX7_dihedral 84 rfl lm_RX7_108 cd_X7_added ha116 [.inl ((2 : Int32) * v1)] (some (.inl q116.1)) (aX7_added _ _ hq116) (by decide) rfl (Nat.le_of_ble_eq_true rfl) rfl rfl ?_
        exact Wx.ireturn ok kX7_dihedral 85 rfl hres h (by decide)
set_option maxRecDepth 100000 in
set_option maxHeartbeats 4000000 in
theorem aX7_equation_h7 {X : gX} (ok : gOk X cX7_equation RX7 7 none rmX7_equation) {res : gW} (hres : gRs X none res) {F : Nat} (r : Nat → Int32 → Int32 → Int32 → Int32 → Int32 → gW → Option (gW)) (k47 : Nat → Int32 → Int32 → Int32 → Int32 → gW → Option (gW)) (hr : ∀ (v0 : Nat) (v1 : Int32) (v2 : Int32) (v3 : Int32) (v4 : Int32) (v5 : Int32) (w : gW), r v0 v1 v2 v3 v4 v5 w = some res → Wx X w 0 0 7 [(0, .inr (.inr (some v0))), (1, .inl v1), (2, .inl v2), (3, .inl v3), (4, .inl v4), (5, .inl v5)] []) (hk47 : ∀ (v0 : Nat) (v1 : Int32) (v2 : Int32) (v3 : Int32) (v4 : Int32) (w : gW), k47 v0 v1 v2 v3 v4 w = some res → Wx X w 0 0 47 [(0, .inr (.inr (some v0))), (1, .inl v1), (2, .inl v2), (3, .inl v3), (4, .inl v4)] []) : ∀ (v0 : Nat) (v1 : Int32) (v2 : Int32) (v3 : Int32) (v4 : Int32) (v5 : Int32) (w : gW), mX7_equation_h7 F r k47 v0 v1 v2 v3 v4 v5 w = some res → Wx X w 0 0 7 [(0, .inr (.inr (some v0))), (1, .inl v1), (2, .inl v2), (3, .inl v3), (4, .inl v4), (5, .inl v5)] [] := by
  intro v0 v1 v2 v3 v4 v5 w h
  unfold mX7_equation_h7 at h
  refine Wx.run ok kX7_equation 4 2 (lv' := [(0, .inr (.inr (some v0))), (1, .inl v1), (2, .inl v2), (3, .inl v3), (4, .inl v4), (5, .inl v5)]) (st' := [.inr (.inr (some v0)), .inl v5]) (pc' := 10) rfl ?_
  refine Wx.getI ok kX7_equation 6 rfl lk_RX7_211_0 h (fun t10 h => ?_)
  refine Wx.icmp_ge ok kX7_equation 7 (tgt := 47) rfl (by decide) h (fun hc13 h => ?_) (fun hc13 h => ?_)
  · refine Wx.sub [0, 1, 2, 3, 4] rfl ?_
    exact hk47 _ _ _ _ _ _ h
  · refine Wx.run ok kX7_equation 8 5 (lv' := [(0, .inr (.inr (some v0))), (1, .inl v1), (2, .inl v2), (3, .inl v3), (4, .inl v4), (5, .inl v5)]) (st' := [.inl v5, .inl v3, .inl v2, .inr (.inr (some v0)), .inr (.inr (some v0))]) (pc' := 22) rfl ?_
    obtain ⟨a22, ha22, h⟩ := gob h
    obtain ⟨q22, hq22, h⟩ := gob h
    refine Wx.callV ok kX7_equation 13 rfl lm_RX7_233 cd_X7_placeOf ha22 [.inl v2, .inl v3, .inl v5] (some (.inl q22.1)) (aX7_placeOf _ _ hq22) (by decide) rfl (Nat.le_of_ble_eq_true rfl) rfl rfl ?_
    refine Wx.run ok kX7_equation 14 2 (lv' := [(0, .inr (.inr (some v0))), (1, .inl v1), (2, .inl v2), (3, .inl v3), (4, .inl v4), (5, .inl v5)]) (st' := [.inr (.inr (some v0)), .inr (.inr (some v0)), .inl q22.1, .inr (.inr (some v0))]) (pc' := 27) rfl ?_
    refine Wx.getI ok kX7_equation 16 rfl lk_RX7_214_0 h (fun t27 h => ?_)
    refine Wx.run ok kX7_equation 17 3 (lv' := [(0, .inr (.inr (some v0))), (1, .inl v1), (2, .inl v2), (3, .inl v3), (4, .inl v4), (5, .inl v5)]) (st' := [.inl v5, .inl v4, .inl v1, .inl t27, .inr (.inr (some v0)), .inl q22.1, .inr (.inr (some v0))]) (pc' := 35) rfl ?_
    obtain ⟨a35, ha35, h⟩ := gob h
    obtain ⟨q35, hq35, h⟩ := gob h
    refine Wx.callV ok kX7_equation 20 rfl lm_RX7_193 cd_X7_matrix ha35 [.inl t27, .inl v1, .inl v4, .inl v5] (some (.inl q35.1)) (aX7_matrix _ _ hq35) (by decide) rfl (Nat.le_of_ble_eq_true rfl) rfl rfl ?_
    obtain ⟨a38, ha38, h⟩ := gob h
    obtain ⟨q38, hq38, h⟩ := gob h
    refine Wx.callV ok kX7_equation 21 rfl lm_RX7_223 cd_X7_addTo ha38 [.inl q22.1, .inl q35.1] none (aX7_addTo _ _ hq38) (by decide) rfl (Nat.le_of_ble_eq_true rfl) rfl rfl ?_
    refine Wx.run ok kX7_equation 22 1 (lv' := [(5, .inl (v5 + (1 : Int32))), (0, .inr (.inr (some v0))), (1, .inl v1), (2, .inl v2), (3, .inl v3), (4, .inl v4)]) (st' := []) (pc' := 44) rfl ?_
    refine Wx.jump ok kX7_equation 23 (tgt := 7) rfl (by decide) ?_
    refine Wx.sub [1, 2, 3, 4, 5, 0] rfl ?_
    exact hr _ _ _ _ _ _ _ h
set_option maxRecDepth 100000 in
set_option maxHeartbeats 4000000 in
theorem aX7_equation_l7 {X : gX} (ok : gOk X cX7_equation RX7 7 none rmX7_equation) {res : gW} (hres : gRs X none res) {F : Nat} (k47 : Nat → Int32 → Int32 → Int32 → Int32 → gW → Option (gW)) (hk47 : ∀ (v0 : Nat) (v1 : Int32) (v2 : Int32) (v3 : Int32) (v4 : Int32) (w : gW), k47 v0 v1 v2 v3 v4 w = some res → Wx X w 0 0 47 [(0, .inr (.inr (some v0))), (1, .inl v1), (2, .inl v2), (3, .inl v3), (4, .inl v4)] []) : ∀ (n : Nat) (v0 : Nat) (v1 : Int32) (v2 : Int32) (v3 : Int32) (v4 : Int32) (v5 : Int32) (w : gW), mX7_equation_l7 F k47 n v0 v1 v2 v3 v4 v5 w = some res → Wx X w 0 0 7 [(0, .inr (.inr (some v0))), (1, .inl v1), (2, .inl v2), (3, .inl v3), (4, .inl v4), (5, .inl v5)] [] := by
  intro n
  induction n with
  | zero => intro v0 v1 v2 v3 v4 v5 w h; cases (show (none : Option (gW)) = some res from h)
  | succ n ih =>
    intro v0 v1 v2 v3 v4 v5 w h
    exact aX7_equation_h7 ok hres (F := F) (mX7_equation_l7 F k47 n) k47 ih hk47 v0 v1 v2 v3 v4 v5 w h
set_option maxRecDepth 100000 in
set_option maxHeartbeats 4000000 in
theorem aX7_equation_b109 {X : gX} (ok : gOk X cX7_equation RX7 7 none rmX7_equation) {res : gW} (hres : gRs X none res) {F : Nat} : ∀ (v0 : Nat) (v1 : Int32) (v2 : Int32) (v4 : Int32) (w : gW), mX7_equation_b109 F v0 v1 v2 v4 w = some res → Wx X w 0 0 109 [(0, .inr (.inr (some v0))), (1, .inl v1), (2, .inl v2), (4, .inl v4)] [] := by
  intro v0 v1 v2 v4 w h
  unfold mX7_equation_b109 at h
  refine Wx.run ok kX7_equation 58 5 (lv' := [(0, .inr (.inr (some v0))), (1, .inl v1), (2, .inl v2), (4, .inl v4)]) (st' := [.inl v4, .inl v2, .inl v1, .inr (.inr (some v0)), .inr (.inr (some v0))]) (pc' := 115) rfl ?_
  obtain ⟨a115, ha115, h⟩ := gob h
  obtain ⟨q115, hq115, h⟩ := gob h
  refine Wx.callV ok kX7_equation 63 rfl lm_RX7_233 cd_X7_placeOf ha115 [.inl v1, .inl v2, .inl v4] (some (.inl q115.1)) (aX7_placeOf _ _ hq115) (by decide) rfl (Nat.le_of_ble_eq_true rfl) rfl rfl ?_
  refine Wx.run ok kX7_equation 64 1 (lv' := [(0, .inr (.inr (some v0))), (1, .inl v1), (2, .inl v2), (4, .inl v4)]) (st' := [.inl (-1 : Int32), .inl q115.1, .inr (.inr (some v0))]) (pc' := 119) rfl ?_
  obtain ⟨a119, ha119, h⟩ := gob h
  obtain ⟨q119, hq119, h⟩ := gob h
  refine Wx.callV ok kX7_equation 65 rfl lm_RX7_223 cd_X7_addTo ha119 [.inl q115.1, .inl (-1 : Int32)] none (aX7_addTo _ _ hq119) (by decide) rfl (Nat.le_of_ble_eq_true rfl) rfl rfl ?_
  exact Wx.vreturn ok kX7_equation 66 rfl hres h (by decide)
set_option maxRecDepth 100000 in
set_option maxHeartbeats 4000000 in
theorem aX7_equation_b90 {X : gX} (ok : gOk X cX7_equation RX7 7 none rmX7_equation) {res : gW} (hres : gRs X none res) {F : Nat} : ∀ (v0 : Nat) (v1 : Int32) (v2 : Int32) (v3 : Int32) (v4 : Int32) (v6 : Int32) (w : gW), mX7_equation_b90 F v0 v1 v2 v3 v4 v6 w = some res → Wx X w 0 0 90 [(0, .inr (.inr (some v0))), (1, .inl v1), (2, .inl v2), (3, .inl v3), (4, .inl v4), (6, .inl v6)] [] := by
  intro v0 v1 v2 v3 v4 v6 w h
  unfold mX7_equation_b90 at h
  refine Wx.run ok kX7_equation 48 1 (lv' := [(0, .inr (.inr (some v0))), (1, .inl v1), (2, .inl v2), (3, .inl v3), (4, .inl v4), (6, .inl v6)]) (st' := [.inl v6]) (pc' := 92) rfl ?_
  refine Wx.if_le ok kX7_equation 49 (tgt := 109) rfl (by decide) h (fun hc92 h => ?_) (fun hc92 h => ?_)
  · refine Wx.sub [0, 1, 2, 4] rfl ?_
    exact aX7_equation_b109 ok hres (F := F) _ _ _ _ _ h
  · refine Wx.run ok kX7_equation 50 5 (lv' := [(0, .inr (.inr (some v0))), (1, .inl v1), (2, .inl v2), (3, .inl v3), (4, .inl v4), (6, .inl v6)]) (st' := [.inl v4, .inl v3, .inl v6, .inr (.inr (some v0)), .inr (.inr (some v0))]) (pc' := 102) rfl ?_
    obtain ⟨a102, ha102, h⟩ := gob h
    obtain ⟨q102, hq102, h⟩ := gob h
    refine Wx.callV ok kX7_equation 55 rfl lm_RX7_233 cd_X7_placeOf ha102 [.inl v6, .inl v3, .inl v4] (some (.inl q102.1)) (aX7_placeOf _ _ hq102) (by decide) rfl (Nat.le_of_ble_eq_true rfl) rfl rfl ?_
    refine Wx.run ok kX7_equation 56 1 (lv' := [(0, .inr (.inr (some v0))), (1, .inl v1), (2, .inl v2), (3, .inl v3), (4, .inl v4), (6, .inl v6)]) (st' := [.inl (-1 : Int32), .inl q102.1, .inr (.inr (some v0))]) (pc' := 106) rfl ?_
    obtain ⟨a106, ha106, h⟩ := gob h
    obtain ⟨q106, hq106, h⟩ := gob h
    refine Wx.callV ok kX7_equation 57 rfl lm_RX7_223 cd_X7_addTo ha106 [.inl q102.1, .inl (-1 : Int32)] none (aX7_addTo _ _ hq106) (by decide) rfl (Nat.le_of_ble_eq_true rfl) rfl rfl ?_
    refine Wx.sub [0, 1, 2, 4] rfl ?_
    exact aX7_equation_b109 ok hres (F := F) _ _ _ _ _ h
set_option maxRecDepth 100000 in
set_option maxHeartbeats 4000000 in
theorem aX7_equation (l : Launch) (G : gG) {F : Nat} {v0 : Nat} {v1 : Int32} {v2 : Int32} {v3 : Int32} {v4 : Int32} {w : gW} {res : gW} (h : mX7_equation F v0 v1 v2 v3 v4 w = some res) : gM l yX7_equation cX7_equation 7 none rmX7_equation G w (gTs [.inr (.inr (some v0)), .inl v1, .inl v2, .inl v3, .inl v4]) none res := by
  refine gM_of (y := yX7_equation) (by decide +kernel) (Nat.le_of_ble_eq_true rfl) ?_
  intro X ok hl hG hres hnm
  subst hl; subst hG
  unfold mX7_equation at h
  show Wx X w 0 0 0 [(0, .inr (.inr (some v0))), (1, .inl v1), (2, .inl v2), (3, .inl v3), (4, .inl v4)] []
  refine Wx.run ok kX7_equation 0 1 (lv' := [(0, .inr (.inr (some v0))), (1, .inl v1), (2, .inl v2), (3, .inl v3), (4, .inl v4)]) (st' := [.inr (.inr (some v0))]) (pc' := 1) rfl ?_
  obtain ⟨a1, ha1, h⟩ := gob h
  obtain ⟨q1, hq1, h⟩ := gob h
  refine Wx.callV ok kX7_equation 1 rfl lm_RX7_220 cd_X7_clearLine ha1 [] none (aX7_clearLine _ _ hq1) (by decide) rfl (Nat.le_of_ble_eq_true rfl) rfl rfl ?_
  refine Wx.run ok kX7_equation 2 2 (lv' := [(5, .inl (0 : Int32)), (0, .inr (.inr (some v0))), (1, .inl v1), (2, .inl v2), (3, .inl v3), (4, .inl v4)]) (st' := []) (pc' := 7) rfl ?_
  refine Wx.sub [1, 2, 3, 4, 5, 0] rfl ?_
  refine aX7_equation_l7 ok hres (F := F) _ ?_ F _ _ _ _ _ _ _ h
  · intro v0 v1 v2 v3 v4 w h
    refine Wx.run ok kX7_equation 24 2 (lv' := [(0, .inr (.inr (some v0))), (1, .inl v1), (2, .inl v2), (3, .inl v3), (4, .inl v4)]) (st' := [.inr (.inr (some v0)), .inr (.inr (some v0))]) (pc' := 49) rfl ?_
    refine Wx.getI ok kX7_equation 26 rfl lk_RX7_217_0 h (fun t49 h => ?_)
    refine Wx.run ok kX7_equation 27 2 (lv' := [(0, .inr (.inr (some v0))), (1, .inl v1), (2, .inl v2), (3, .inl v3), (4, .inl v4)]) (st' := [.inl v3, .inl v2, .inl t49, .inr (.inr (some v0))]) (pc' := 54) rfl ?_
    obtain ⟨a54, ha54, h⟩ := gob h
    obtain ⟨q54, hq54, h⟩ := gob h
    refine Wx.callV ok kX7_equation 29 rfl lm_RX7_118 cd_X7_prod ha54 [.inl t49, .inl v2, .inl v3] (some (.inl q54.1)) (aX7_prod _ _ hq54) (by decide) rfl (Nat.le_of_ble_eq_true rfl) rfl rfl ?_
    refine Wx.run ok kX7_equation 30 3 (lv' := [(5, .inl q54.1), (0, .inr (.inr (some v0))), (1, .inl v1), (2, .inl v2), (3, .inl v3), (4, .inl v4)]) (st' := [.inr (.inr (some v0)), .inr (.inr (some v0))]) (pc' := 61) rfl ?_
    refine Wx.getI ok kX7_equation 33 rfl lk_RX7_217_0 h (fun t61 h => ?_)
    refine Wx.run ok kX7_equation 34 2 (lv' := [(5, .inl q54.1), (0, .inr (.inr (some v0))), (1, .inl v1), (2, .inl v2), (3, .inl v3), (4, .inl v4)]) (st' := [.inl v2, .inl v1, .inl t61, .inr (.inr (some v0))]) (pc' := 66) rfl ?_
    obtain ⟨a66, ha66, h⟩ := gob h
    obtain ⟨q66, hq66, h⟩ := gob h
    refine Wx.callV ok kX7_equation 36 rfl lm_RX7_118 cd_X7_prod ha66 [.inl t61, .inl v1, .inl v2] (some (.inl q66.1)) (aX7_prod _ _ hq66) (by decide) rfl (Nat.le_of_ble_eq_true rfl) rfl rfl ?_
    refine Wx.run ok kX7_equation 37 2 (lv' := [(6, .inl q66.1), (5, .inl q54.1), (0, .inr (.inr (some v0))), (1, .inl v1), (2, .inl v2), (3, .inl v3), (4, .inl v4)]) (st' := [.inl q54.1]) (pc' := 73) rfl ?_
    refine Wx.if_le ok kX7_equation 39 (tgt := 90) rfl (by decide) h (fun hc73 h => ?_) (fun hc73 h => ?_)
    · refine Wx.sub [2, 3, 4, 5, 6, 0] rfl ?_
      exact aX7_equation_b90 ok hres (F := F) _ _ _ _ _ _ _ h
    · refine Wx.run ok kX7_equation 40 5 (lv' := [(6, .inl q66.1), (5, .inl q54.1), (0, .inr (.inr (some v0))), (1, .inl v1), (2, .inl v2), (3, .inl v3), (4, .inl v4)]) (st' := [.inl v4, .inl q54.1, .inl v1, .inr (.inr (some v0)), .inr (.inr (some v0))]) (pc' := 83) rfl ?_
      obtain ⟨a83, ha83, h⟩ := gob h
      obtain ⟨q83, hq83, h⟩ := gob h
      refine Wx.callV ok kX7_equation 45 rfl lm_RX7_233 cd_X7_placeOf ha83 [.inl v1, .inl q54.1, .inl v4] (some (.inl q83.1)) (aX7_placeOf _ _ hq83) (by decide) rfl (Nat.le_of_ble_eq_true rfl) rfl rfl ?_
      refine Wx.run ok kX7_equation 46 1 (lv' := [(6, .inl q66.1), (5, .inl q54.1), (0, .inr (.inr (some v0))), (1, .inl v1), (2, .inl v2), (3, .inl v3), (4, .inl v4)]) (st' := [.inl (1 : Int32), .inl q83.1, .inr (.inr (some v0))]) (pc' := 87) rfl ?_
      obtain ⟨a87, ha87, h⟩ := gob h
      obtain ⟨q87, hq87, h⟩ := gob h
      refine Wx.callV ok kX7_equation 47 rfl lm_RX7_223 cd_X7_addTo ha87 [.inl q83.1, .inl (1 : Int32)] none (aX7_addTo _ _ hq87) (by decide) rfl (Nat.le_of_ble_eq_true rfl) rfl rfl ?_
      refine Wx.sub [2, 3, 4, 5, 6, 0] rfl ?_
      exact aX7_equation_b90 ok hres (F := F) _ _ _ _ _ _ _ h
set_option maxRecDepth 100000 in
set_option maxHeartbeats 4000000 in
theorem aX7_friends_b41 {X : gX} (ok : gOk X cX7_friends RX7 5 (some .int) rmX7_friends) {res : Int32 × gW} (hres : gRs X (some (.int res.1)) res.2) {F : Nat} (r : Nat → Int32 → Int32 → Int32 → Int32 → gW → Option (Int32 × gW)) (hr : ∀ (v0 : Nat) (v1 : Int32) (v2 : Int32) (v3 : Int32) (v4 : Int32) (w : gW), r v0 v1 v2 v3 v4 w = some res → Wx X w 0 0 5 [(0, .inr (.inr (some v0))), (1, .inl v1), (2, .inl v2), (3, .inl v3), (4, .inl v4)] []) : ∀ (v0 : Nat) (v1 : Int32) (v2 : Int32) (v4 : Int32) (s0 : Int32) (s1 : Int32) (w : gW), mX7_friends_b41 F r v0 v1 v2 v4 s0 s1 w = some res → Wx X w 0 0 41 [(0, .inr (.inr (some v0))), (1, .inl v1), (2, .inl v2), (4, .inl v4)] [.inl s1, .inl s0] := by
  intro v0 v1 v2 v4 s0 s1 w h
  unfold mX7_friends_b41 at h
  refine Wx.run ok kX7_friends 25 3 (lv' := [(4, .inl (v4 + (1 : Int32))), (3, .inl (s0 + s1)), (0, .inr (.inr (some v0))), (1, .inl v1), (2, .inl v2)]) (st' := []) (pc' := 46) rfl ?_
  refine Wx.jump ok kX7_friends 28 (tgt := 5) rfl (by decide) ?_
  refine Wx.sub [2, 3, 4, 1, 0] rfl ?_
  exact hr _ _ _ _ _ _ h
set_option maxRecDepth 100000 in
set_option maxHeartbeats 4000000 in
theorem aX7_friends_h5 {X : gX} (ok : gOk X cX7_friends RX7 5 (some .int) rmX7_friends) {res : Int32 × gW} (hres : gRs X (some (.int res.1)) res.2) {F : Nat} (r : Nat → Int32 → Int32 → Int32 → Int32 → gW → Option (Int32 × gW)) (hr : ∀ (v0 : Nat) (v1 : Int32) (v2 : Int32) (v3 : Int32) (v4 : Int32) (w : gW), r v0 v1 v2 v3 v4 w = some res → Wx X w 0 0 5 [(0, .inr (.inr (some v0))), (1, .inl v1), (2, .inl v2), (3, .inl v3), (4, .inl v4)] []) : ∀ (v0 : Nat) (v1 : Int32) (v2 : Int32) (v3 : Int32) (v4 : Int32) (w : gW), mX7_friends_h5 F r v0 v1 v2 v3 v4 w = some res → Wx X w 0 0 5 [(0, .inr (.inr (some v0))), (1, .inl v1), (2, .inl v2), (3, .inl v3), (4, .inl v4)] [] := by
  intro v0 v1 v2 v3 v4 w h
  unfold mX7_friends_h5 at h
  refine Wx.run ok kX7_friends 4 2 (lv' := [(0, .inr (.inr (some v0))), (1, .inl v1), (2, .inl v2), (3, .inl v3), (4, .inl v4)]) (st' := [.inr (.inr (some v0)), .inl v4]) (pc' := 8) rfl ?_
  refine Wx.getR ok kX7_friends 6 rfl lk_RX7_7_0 h (fun t8 h => ?_)
  refine Wx.run ok kX7_friends 7 1 (lv' := [(0, .inr (.inr (some v0))), (1, .inl v1), (2, .inl v2), (3, .inl v3), (4, .inl v4)]) (st' := [.inl v1, .inr (.inr t8), .inl v4]) (pc' := 12) rfl ?_
  refine Wx.iald ok kX7_friends 8 rfl h (fun t12 h => ?_)
  refine Wx.icmp_ge ok kX7_friends 9 (tgt := 49) rfl (by decide) h (fun hc13 h => ?_) (fun hc13 h => ?_)
  · refine Wx.run ok kX7_friends 29 1 (lv' := [(0, .inr (.inr (some v0))), (1, .inl v1), (2, .inl v2), (3, .inl v3), (4, .inl v4)]) (st' := [.inl v3]) (pc' := 50) rfl ?_
    exact Wx.ireturn ok kX7_friends 30 rfl hres h (by decide)
  · refine Wx.run ok kX7_friends 10 5 (lv' := [(0, .inr (.inr (some v0))), (1, .inl v1), (2, .inl v2), (3, .inl v3), (4, .inl v4)]) (st' := [.inl v4, .inl v2, .inl v1, .inr (.inr (some v0)), .inl v3]) (pc' := 22) rfl ?_
    obtain ⟨a22, ha22, h⟩ := gob h
    obtain ⟨q22, hq22, h⟩ := gob h
    refine Wx.callV ok kX7_friends 15 rfl lm_RX7_118 cd_X7_prod ha22 [.inl v1, .inl v2, .inl v4] (some (.inl q22.1)) (aX7_prod _ _ hq22) (by decide) rfl (Nat.le_of_ble_eq_true rfl) rfl rfl ?_
    refine Wx.run ok kX7_friends 16 4 (lv' := [(0, .inr (.inr (some v0))), (1, .inl v1), (2, .inl v2), (3, .inl v3), (4, .inl v4)]) (st' := [.inl v2, .inl v4, .inl v1, .inr (.inr (some v0)), .inl q22.1, .inl v3]) (pc' := 30) rfl ?_
    obtain ⟨a30, ha30, h⟩ := gob h
    obtain ⟨q30, hq30, h⟩ := gob h
    refine Wx.callV ok kX7_friends 20 rfl lm_RX7_118 cd_X7_prod ha30 [.inl v1, .inl v4, .inl v2] (some (.inl q30.1)) (aX7_prod _ _ hq30) (by decide) rfl (Nat.le_of_ble_eq_true rfl) rfl rfl ?_
    refine Wx.icmp_ne ok kX7_friends 21 (tgt := 40) rfl (by decide) h (fun hc33 h => ?_) (fun hc33 h => ?_)
    · refine Wx.run ok kX7_friends 22 1 (lv' := [(0, .inr (.inr (some v0))), (1, .inl v1), (2, .inl v2), (3, .inl v3), (4, .inl v4)]) (st' := [.inl (1 : Int32), .inl v3]) (pc' := 37) rfl ?_
      refine Wx.jump ok kX7_friends 23 (tgt := 41) rfl (by decide) ?_
      refine Wx.sub [0, 1, 2, 4] rfl ?_
      exact aX7_friends_b41 ok hres (F := F) r hr _ _ _ _ _ _ _ h
    · refine Wx.run ok kX7_friends 24 1 (lv' := [(0, .inr (.inr (some v0))), (1, .inl v1), (2, .inl v2), (3, .inl v3), (4, .inl v4)]) (st' := [.inl (0 : Int32), .inl v3]) (pc' := 41) rfl ?_
      refine Wx.sub [0, 1, 2, 4] rfl ?_
      exact aX7_friends_b41 ok hres (F := F) r hr _ _ _ _ _ _ _ h
set_option maxRecDepth 100000 in
set_option maxHeartbeats 4000000 in
theorem aX7_friends_l5 {X : gX} (ok : gOk X cX7_friends RX7 5 (some .int) rmX7_friends) {res : Int32 × gW} (hres : gRs X (some (.int res.1)) res.2) {F : Nat} : ∀ (n : Nat) (v0 : Nat) (v1 : Int32) (v2 : Int32) (v3 : Int32) (v4 : Int32) (w : gW), mX7_friends_l5 F n v0 v1 v2 v3 v4 w = some res → Wx X w 0 0 5 [(0, .inr (.inr (some v0))), (1, .inl v1), (2, .inl v2), (3, .inl v3), (4, .inl v4)] [] := by
  intro n
  induction n with
  | zero => intro v0 v1 v2 v3 v4 w h; cases (show (none : Option (Int32 × gW)) = some res from h)
  | succ n ih =>
    intro v0 v1 v2 v3 v4 w h
    exact aX7_friends_h5 ok hres (F := F) (mX7_friends_l5 F n) ih v0 v1 v2 v3 v4 w h
set_option maxRecDepth 100000 in
set_option maxHeartbeats 4000000 in
theorem aX7_friends (l : Launch) (G : gG) {F : Nat} {v0 : Nat} {v1 : Int32} {v2 : Int32} {w : gW} {res : Int32 × gW} (h : mX7_friends F v0 v1 v2 w = some res) : gM l yX7_friends cX7_friends 5 (some .int) rmX7_friends G w (gTs [.inr (.inr (some v0)), .inl v1, .inl v2]) (some (.int res.1)) res.2 := by
  refine gM_of (y := yX7_friends) (by decide +kernel) (Nat.le_of_ble_eq_true rfl) ?_
  intro X ok hl hG hres hnm
  subst hl; subst hG
  unfold mX7_friends at h
  show Wx X w 0 0 0 [(0, .inr (.inr (some v0))), (1, .inl v1), (2, .inl v2)] []
  refine Wx.run ok kX7_friends 0 4 (lv' := [(4, .inl (0 : Int32)), (3, .inl (0 : Int32)), (0, .inr (.inr (some v0))), (1, .inl v1), (2, .inl v2)]) (st' := []) (pc' := 5) rfl ?_
  refine Wx.sub [2, 3, 4, 1, 0] rfl ?_
  refine aX7_friends_l5 ok hres (F := F) F _ _ _ _ _ _ h
set_option maxRecDepth 100000 in
set_option maxHeartbeats 4000000 in
theorem aX7_goes_h11 {X : gX} (ok : gOk X cX7_goes RX7 11 (some .boolean) rmX7_goes) {res : Int32 × gW} (hres : gRs X (some (.int res.1)) res.2) {F : Nat} (r : Nat → Int32 → Int32 → Int32 → Int32 → Int32 → gW → Option (Int32 × gW)) (k33 : Nat → Int32 → Int32 → Int32 → Int32 → gW → Option (Int32 × gW)) (hr : ∀ (v0 : Nat) (v1 : Int32) (v2 : Int32) (v3 : Int32) (v4 : Int32) (v5 : Int32) (w : gW), r v0 v1 v2 v3 v4 v5 w = some res → Wx X w 0 0 11 [(0, .inr (.inr (some v0))), (1, .inl v1), (2, .inl v2), (3, .inl v3), (4, .inl v4), (5, .inl v5)] []) (hk33 : ∀ (v0 : Nat) (v1 : Int32) (v2 : Int32) (v3 : Int32) (v4 : Int32) (w : gW), k33 v0 v1 v2 v3 v4 w = some res → Wx X w 0 0 33 [(0, .inr (.inr (some v0))), (1, .inl v1), (2, .inl v2), (3, .inl v3), (4, .inl v4)] []) : ∀ (v0 : Nat) (v1 : Int32) (v2 : Int32) (v3 : Int32) (v4 : Int32) (v5 : Int32) (w : gW), mX7_goes_h11 F r k33 v0 v1 v2 v3 v4 v5 w = some res → Wx X w 0 0 11 [(0, .inr (.inr (some v0))), (1, .inl v1), (2, .inl v2), (3, .inl v3), (4, .inl v4), (5, .inl v5)] [] := by
  intro v0 v1 v2 v3 v4 v5 w h
  unfold mX7_goes_h11 at h
  refine Wx.run ok kX7_goes 7 2 (lv' := [(0, .inr (.inr (some v0))), (1, .inl v1), (2, .inl v2), (3, .inl v3), (4, .inl v4), (5, .inl v5)]) (st' := [.inl v4, .inl v5]) (pc' := 15) rfl ?_
  refine Wx.icmp_ge ok kX7_goes 9 (tgt := 33) rfl (by decide) h (fun hc15 h => ?_) (fun hc15 h => ?_)
  · refine Wx.sub [0, 1, 2, 3, 4] rfl ?_
    exact hk33 _ _ _ _ _ _ h
  · refine Wx.run ok kX7_goes 10 1 (lv' := [(0, .inr (.inr (some v0))), (1, .inl v1), (2, .inl v2), (3, .inl v3), (4, .inl v4), (5, .inl v5)]) (st' := [.inr (.inr (some v0))]) (pc' := 19) rfl ?_
    refine Wx.getR ok kX7_goes 11 rfl lk_RX7_64_0 h (fun t19 h => ?_)
    refine Wx.run ok kX7_goes 12 2 (lv' := [(0, .inr (.inr (some v0))), (1, .inl v1), (2, .inl v2), (3, .inl v3), (4, .inl v4), (5, .inl v5)]) (st' := [.inl (-4 : Int32), .inl v5, .inr (.inr t19)]) (pc' := 26) rfl ?_
    refine Wx.iast ok kX7_goes 14 rfl h (fun w26 h => ?_)
    refine Wx.run ok kX7_goes 15 1 (lv' := [(5, .inl (v5 + (1 : Int32))), (0, .inr (.inr (some v0))), (1, .inl v1), (2, .inl v2), (3, .inl v3), (4, .inl v4)]) (st' := []) (pc' := 30) rfl ?_
    refine Wx.jump ok kX7_goes 16 (tgt := 11) rfl (by decide) ?_
    refine Wx.sub [1, 2, 3, 4, 5, 0] rfl ?_
    exact hr _ _ _ _ _ _ _ h
set_option maxRecDepth 100000 in
set_option maxHeartbeats 4000000 in
theorem aX7_goes_l11 {X : gX} (ok : gOk X cX7_goes RX7 11 (some .boolean) rmX7_goes) {res : Int32 × gW} (hres : gRs X (some (.int res.1)) res.2) {F : Nat} (k33 : Nat → Int32 → Int32 → Int32 → Int32 → gW → Option (Int32 × gW)) (hk33 : ∀ (v0 : Nat) (v1 : Int32) (v2 : Int32) (v3 : Int32) (v4 : Int32) (w : gW), k33 v0 v1 v2 v3 v4 w = some res → Wx X w 0 0 33 [(0, .inr (.inr (some v0))), (1, .inl v1), (2, .inl v2), (3, .inl v3), (4, .inl v4)] []) : ∀ (n : Nat) (v0 : Nat) (v1 : Int32) (v2 : Int32) (v3 : Int32) (v4 : Int32) (v5 : Int32) (w : gW), mX7_goes_l11 F k33 n v0 v1 v2 v3 v4 v5 w = some res → Wx X w 0 0 11 [(0, .inr (.inr (some v0))), (1, .inl v1), (2, .inl v2), (3, .inl v3), (4, .inl v4), (5, .inl v5)] [] := by
  intro n
  induction n with
  | zero => intro v0 v1 v2 v3 v4 v5 w h; cases (show (none : Option (Int32 × gW)) = some res from h)
  | succ n ih =>
    intro v0 v1 v2 v3 v4 v5 w h
    exact aX7_goes_h11 ok hres (F := F) (mX7_goes_l11 F k33 n) k33 ih hk33 v0 v1 v2 v3 v4 v5 w h
set_option maxRecDepth 100000 in
set_option maxHeartbeats 4000000 in
theorem aX7_goes_b179 {X : gX} (ok : gOk X cX7_goes RX7 11 (some .boolean) rmX7_goes) {res : Int32 × gW} (hres : gRs X (some (.int res.1)) res.2) {F : Nat} (r : Nat → Int32 → Int32 → Int32 → Int32 → Int32 → Int32 → gW → Option (Int32 × gW)) (k185 : Nat → Int32 → Int32 → Int32 → Int32 → Int32 → gW → Option (Int32 × gW)) (hr : ∀ (v0 : Nat) (v1 : Int32) (v2 : Int32) (v3 : Int32) (v4 : Int32) (v5 : Int32) (v6 : Int32) (w : gW), r v0 v1 v2 v3 v4 v5 v6 w = some res → Wx X w 0 0 67 [(0, .inr (.inr (some v0))), (1, .inl v1), (2, .inl v2), (3, .inl v3), (4, .inl v4), (5, .inl v5), (6, .inl v6)] []) (hk185 : ∀ (v0 : Nat) (v1 : Int32) (v2 : Int32) (v3 : Int32) (v4 : Int32) (v5 : Int32) (w : gW), k185 v0 v1 v2 v3 v4 v5 w = some res → Wx X w 0 0 185 [(0, .inr (.inr (some v0))), (1, .inl v1), (2, .inl v2), (3, .inl v3), (4, .inl v4), (5, .inl v5)] []) : ∀ (v0 : Nat) (v1 : Int32) (v2 : Int32) (v3 : Int32) (v4 : Int32) (v5 : Int32) (v6 : Int32) (w : gW), mX7_goes_b179 F r k185 v0 v1 v2 v3 v4 v5 v6 w = some res → Wx X w 0 0 179 [(0, .inr (.inr (some v0))), (1, .inl v1), (2, .inl v2), (3, .inl v3), (4, .inl v4), (5, .inl v5), (6, .inl v6)] [] := by
  intro v0 v1 v2 v3 v4 v5 v6 w h
  unfold mX7_goes_b179 at h
  refine Wx.run ok kX7_goes 100 1 (lv' := [(6, .inl (v6 + (1 : Int32))), (0, .inr (.inr (some v0))), (1, .inl v1), (2, .inl v2), (3, .inl v3), (4, .inl v4), (5, .inl v5)]) (st' := []) (pc' := 182) rfl ?_
  refine Wx.jump ok kX7_goes 101 (tgt := 67) rfl (by decide) ?_
  refine Wx.sub [1, 2, 3, 4, 5, 6, 0] rfl ?_
  exact hr _ _ _ _ _ _ _ _ h
set_option maxRecDepth 100000 in
set_option maxHeartbeats 4000000 in
theorem aX7_goes_h67 {X : gX} (ok : gOk X cX7_goes RX7 11 (some .boolean) rmX7_goes) {res : Int32 × gW} (hres : gRs X (some (.int res.1)) res.2) {F : Nat} (r : Nat → Int32 → Int32 → Int32 → Int32 → Int32 → Int32 → gW → Option (Int32 × gW)) (k185 : Nat → Int32 → Int32 → Int32 → Int32 → Int32 → gW → Option (Int32 × gW)) (hr : ∀ (v0 : Nat) (v1 : Int32) (v2 : Int32) (v3 : Int32) (v4 : Int32) (v5 : Int32) (v6 : Int32) (w : gW), r v0 v1 v2 v3 v4 v5 v6 w = some res → Wx X w 0 0 67 [(0, .inr (.inr (some v0))), (1, .inl v1), (2, .inl v2), (3, .inl v3), (4, .inl v4), (5, .inl v5), (6, .inl v6)] []) (hk185 : ∀ (v0 : Nat) (v1 : Int32) (v2 : Int32) (v3 : Int32) (v4 : Int32) (v5 : Int32) (w : gW), k185 v0 v1 v2 v3 v4 v5 w = some res → Wx X w 0 0 185 [(0, .inr (.inr (some v0))), (1, .inl v1), (2, .inl v2), (3, .inl v3), (4, .inl v4), (5, .inl v5)] []) : ∀ (v0 : Nat) (v1 : Int32) (v2 : Int32) (v3 : Int32) (v4 : Int32) (v5 : Int32) (v6 : Int32) (w : gW), mX7_goes_h67 F r k185 v0 v1 v2 v3 v4 v5 v6 w = some res → Wx X w 0 0 67 [(0, .inr (.inr (some v0))), (1, .inl v1), (2, .inl v2), (3, .inl v3), (4, .inl v4), (5, .inl v5), (6, .inl v6)] [] := by
  intro v0 v1 v2 v3 v4 v5 v6 w h
  unfold mX7_goes_h67 at h
  refine Wx.run ok kX7_goes 38 2 (lv' := [(0, .inr (.inr (some v0))), (1, .inl v1), (2, .inl v2), (3, .inl v3), (4, .inl v4), (5, .inl v5), (6, .inl v6)]) (st' := [.inl v3, .inl v6]) (pc' := 70) rfl ?_
  refine Wx.icmp_ge ok kX7_goes 40 (tgt := 185) rfl (by decide) h (fun hc70 h => ?_) (fun hc70 h => ?_)
  · refine Wx.sub [0, 1, 2, 3, 4, 5] rfl ?_
    exact hk185 _ _ _ _ _ _ _ h
  · refine Wx.run ok kX7_goes 41 3 (lv' := [(0, .inr (.inr (some v0))), (1, .inl v1), (2, .inl v2), (3, .inl v3), (4, .inl v4), (5, .inl v5), (6, .inl v6)]) (st' := [.inr (.inr (some v0)), .inl v1, .inr (.inr (some v0))]) (pc' := 76) rfl ?_
    refine Wx.getR ok kX7_goes 44 rfl lk_RX7_44_0 h (fun t76 h => ?_)
    refine Wx.run ok kX7_goes 45 1 (lv' := [(0, .inr (.inr (some v0))), (1, .inl v1), (2, .inl v2), (3, .inl v3), (4, .inl v4), (5, .inl v5), (6, .inl v6)]) (st' := [.inl v5, .inr (.inr t76), .inl v1, .inr (.inr (some v0))]) (pc' := 81) rfl ?_
    refine Wx.iald ok kX7_goes 46 rfl h (fun t81 h => ?_)
    refine Wx.run ok kX7_goes 47 1 (lv' := [(0, .inr (.inr (some v0))), (1, .inl v1), (2, .inl v2), (3, .inl v3), (4, .inl v4), (5, .inl v5), (6, .inl v6)]) (st' := [.inr (.inr (some v0)), .inl t81, .inl v1, .inr (.inr (some v0))]) (pc' := 83) rfl ?_
    refine Wx.getR ok kX7_goes 48 rfl lk_RX7_58_0 h (fun t83 h => ?_)
    refine Wx.run ok kX7_goes 49 1 (lv' := [(0, .inr (.inr (some v0))), (1, .inl v1), (2, .inl v2), (3, .inl v3), (4, .inl v4), (5, .inl v5), (6, .inl v6)]) (st' := [.inl v6, .inr (.inr t83), .inl t81, .inl v1, .inr (.inr (some v0))]) (pc' := 88) rfl ?_
    refine Wx.iald ok kX7_goes 50 rfl h (fun t88 h => ?_)
    obtain ⟨a89, ha89, h⟩ := gob h
    obtain ⟨q89, hq89, h⟩ := gob h
    refine Wx.callV ok kX7_goes 51 rfl lm_RX7_118 cd_X7_prod ha89 [.inl v1, .inl t81, .inl t88] (some (.inl q89.1)) (aX7_prod _ _ hq89) (by decide) rfl (Nat.le_of_ble_eq_true rfl) rfl rfl ?_
    refine Wx.run ok kX7_goes 52 4 (lv' := [(7, .inl q89.1), (0, .inr (.inr (some v0))), (1, .inl v1), (2, .inl v2), (3, .inl v3), (4, .inl v4), (5, .inl v5), (6, .inl v6)]) (st' := [.inr (.inr (some v0)), .inl v2, .inr (.inr (some v0))]) (pc' := 97) rfl ?_
    refine Wx.getR ok kX7_goes 56 rfl lk_RX7_64_0 h (fun t97 h => ?_)
    refine Wx.run ok kX7_goes 57 1 (lv' := [(7, .inl q89.1), (0, .inr (.inr (some v0))), (1, .inl v1), (2, .inl v2), (3, .inl v3), (4, .inl v4), (5, .inl v5), (6, .inl v6)]) (st' := [.inr (.inr (some v0)), .inr (.inr t97), .inl v2, .inr (.inr (some v0))]) (pc' := 101) rfl ?_
    refine Wx.getR ok kX7_goes 58 rfl lk_RX7_44_0 h (fun t101 h => ?_)
    refine Wx.run ok kX7_goes 59 1 (lv' := [(7, .inl q89.1), (0, .inr (.inr (some v0))), (1, .inl v1), (2, .inl v2), (3, .inl v3), (4, .inl v4), (5, .inl v5), (6, .inl v6)]) (st' := [.inl v5, .inr (.inr t101), .inr (.inr t97), .inl v2, .inr (.inr (some v0))]) (pc' := 106) rfl ?_
    refine Wx.iald ok kX7_goes 60 rfl h (fun t106 h => ?_)
    refine Wx.iald ok kX7_goes 61 rfl h (fun t107 h => ?_)
    refine Wx.run ok kX7_goes 62 1 (lv' := [(7, .inl q89.1), (0, .inr (.inr (some v0))), (1, .inl v1), (2, .inl v2), (3, .inl v3), (4, .inl v4), (5, .inl v5), (6, .inl v6)]) (st' := [.inr (.inr (some v0)), .inl t107, .inl v2, .inr (.inr (some v0))]) (pc' := 109) rfl ?_
    refine Wx.getR ok kX7_goes 63 rfl lk_RX7_61_0 h (fun t109 h => ?_)
    refine Wx.run ok kX7_goes 64 1 (lv' := [(7, .inl q89.1), (0, .inr (.inr (some v0))), (1, .inl v1), (2, .inl v2), (3, .inl v3), (4, .inl v4), (5, .inl v5), (6, .inl v6)]) (st' := [.inl v6, .inr (.inr t109), .inl t107, .inl v2, .inr (.inr (some v0))]) (pc' := 114) rfl ?_
    refine Wx.iald ok kX7_goes 65 rfl h (fun t114 h => ?_)
    obtain ⟨a115, ha115, h⟩ := gob h
    obtain ⟨q115, hq115, h⟩ := gob h
    refine Wx.callV ok kX7_goes 66 rfl lm_RX7_118 cd_X7_prod ha115 [.inl v2, .inl t107, .inl t114] (some (.inl q115.1)) (aX7_prod _ _ hq115) (by decide) rfl (Nat.le_of_ble_eq_true rfl) rfl rfl ?_
    refine Wx.run ok kX7_goes 67 2 (lv' := [(8, .inl q115.1), (7, .inl q89.1), (0, .inr (.inr (some v0))), (1, .inl v1), (2, .inl v2), (3, .inl v3), (4, .inl v4), (5, .inl v5), (6, .inl v6)]) (st' := [.inr (.inr (some v0))]) (pc' := 121) rfl ?_
    refine Wx.getR ok kX7_goes 69 rfl lk_RX7_64_0 h (fun t121 h => ?_)
    refine Wx.run ok kX7_goes 70 1 (lv' := [(8, .inl q115.1), (7, .inl q89.1), (0, .inr (.inr (some v0))), (1, .inl v1), (2, .inl v2), (3, .inl v3), (4, .inl v4), (5, .inl v5), (6, .inl v6)]) (st' := [.inl q89.1, .inr (.inr t121)]) (pc' := 126) rfl ?_
    refine Wx.iald ok kX7_goes 71 rfl h (fun t126 h => ?_)
    refine Wx.run ok kX7_goes 72 1 (lv' := [(8, .inl q115.1), (7, .inl q89.1), (0, .inr (.inr (some v0))), (1, .inl v1), (2, .inl v2), (3, .inl v3), (4, .inl v4), (5, .inl v5), (6, .inl v6)]) (st' := [.inl (-4 : Int32), .inl t126]) (pc' := 129) rfl ?_
    refine Wx.icmp_ne ok kX7_goes 73 (tgt := 165) rfl (by decide) h (fun hc129 h => ?_) (fun hc129 h => ?_)
    · refine Wx.run ok kX7_goes 74 1 (lv' := [(8, .inl q115.1), (7, .inl q89.1), (0, .inr (.inr (some v0))), (1, .inl v1), (2, .inl v2), (3, .inl v3), (4, .inl v4), (5, .inl v5), (6, .inl v6)]) (st' := [.inr (.inr (some v0))]) (pc' := 133) rfl ?_
      refine Wx.getR ok kX7_goes 75 rfl lk_RX7_64_0 h (fun t133 h => ?_)
      refine Wx.run ok kX7_goes 76 2 (lv' := [(8, .inl q115.1), (7, .inl q89.1), (0, .inr (.inr (some v0))), (1, .inl v1), (2, .inl v2), (3, .inl v3), (4, .inl v4), (5, .inl v5), (6, .inl v6)]) (st' := [.inl q115.1, .inl q89.1, .inr (.inr t133)]) (pc' := 140) rfl ?_
      refine Wx.iast ok kX7_goes 78 rfl h (fun w140 h => ?_)
      refine Wx.run ok kX7_goes 79 1 (lv' := [(8, .inl q115.1), (7, .inl q89.1), (0, .inr (.inr (some v0))), (1, .inl v1), (2, .inl v2), (3, .inl v3), (4, .inl v4), (5, .inl v5), (6, .inl v6)]) (st' := [.inr (.inr (some v0))]) (pc' := 142) rfl ?_
      refine Wx.getR ok kX7_goes 80 rfl lk_RX7_44_0 h (fun t142 h => ?_)
      refine Wx.run ok kX7_goes 81 1 (lv' := [(8, .inl q115.1), (7, .inl q89.1), (0, .inr (.inr (some v0))), (1, .inl v1), (2, .inl v2), (3, .inl v3), (4, .inl v4), (5, .inl v5), (6, .inl v6)]) (st' := [.inr (.inr (some v0)), .inr (.inr t142)]) (pc' := 146) rfl ?_
      refine Wx.getI ok kX7_goes 82 rfl lk_RX7_156_0 h (fun t146 h => ?_)
      refine Wx.run ok kX7_goes 83 1 (lv' := [(8, .inl q115.1), (7, .inl q89.1), (0, .inr (.inr (some v0))), (1, .inl v1), (2, .inl v2), (3, .inl v3), (4, .inl v4), (5, .inl v5), (6, .inl v6)]) (st' := [.inl q89.1, .inl t146, .inr (.inr t142)]) (pc' := 151) rfl ?_
      refine Wx.iast ok kX7_goes 84 rfl h (fun w151 h => ?_)
      refine Wx.run ok kX7_goes 85 2 (lv' := [(8, .inl q115.1), (7, .inl q89.1), (0, .inr (.inr (some v0))), (1, .inl v1), (2, .inl v2), (3, .inl v3), (4, .inl v4), (5, .inl v5), (6, .inl v6)]) (st' := [.inr (.inr (some v0)), .inr (.inr (some v0))]) (pc' := 154) rfl ?_
      refine Wx.getI ok kX7_goes 87 rfl lk_RX7_156_0 h (fun t154 h => ?_)
      refine Wx.run ok kX7_goes 88 2 (lv' := [(8, .inl q115.1), (7, .inl q89.1), (0, .inr (.inr (some v0))), (1, .inl v1), (2, .inl v2), (3, .inl v3), (4, .inl v4), (5, .inl v5), (6, .inl v6)]) (st' := [.inl (t154 + (1 : Int32)), .inr (.inr (some v0))]) (pc' := 159) rfl ?_
      refine Wx.put ok kX7_goes 90 rfl lk_RX7_156_1 (gFit_i _) h (fun w159 h => ?_)
      refine Wx.jump ok kX7_goes 91 (tgt := 179) rfl (by decide) ?_
      refine Wx.sub [2, 3, 4, 5, 6, 7, 8] rfl ?_
      exact aX7_goes_b179 ok hres (F := F) r k185 hr hk185 _ _ _ _ _ _ _ _ h
    · refine Wx.run ok kX7_goes 92 1 (lv' := [(8, .inl q115.1), (7, .inl q89.1), (0, .inr (.inr (some v0))), (1, .inl v1), (2, .inl v2), (3, .inl v3), (4, .inl v4), (5, .inl v5), (6, .inl v6)]) (st' := [.inr (.inr (some v0))]) (pc' := 166) rfl ?_
      refine Wx.getR ok kX7_goes 93 rfl lk_RX7_64_0 h (fun t166 h => ?_)
      refine Wx.run ok kX7_goes 94 1 (lv' := [(8, .inl q115.1), (7, .inl q89.1), (0, .inr (.inr (some v0))), (1, .inl v1), (2, .inl v2), (3, .inl v3), (4, .inl v4), (5, .inl v5), (6, .inl v6)]) (st' := [.inl q89.1, .inr (.inr t166)]) (pc' := 171) rfl ?_
      refine Wx.iald ok kX7_goes 95 rfl h (fun t171 h => ?_)
      refine Wx.run ok kX7_goes 96 1 (lv' := [(8, .inl q115.1), (7, .inl q89.1), (0, .inr (.inr (some v0))), (1, .inl v1), (2, .inl v2), (3, .inl v3), (4, .inl v4), (5, .inl v5), (6, .inl v6)]) (st' := [.inl q115.1, .inl t171]) (pc' := 174) rfl ?_
      refine Wx.icmp_eq ok kX7_goes 97 (tgt := 179) rfl (by decide) h (fun hc174 h => ?_) (fun hc174 h => ?_)
      · refine Wx.sub [2, 3, 4, 5, 6, 7, 8] rfl ?_
        exact aX7_goes_b179 ok hres (F := F) r k185 hr hk185 _ _ _ _ _ _ _ _ h
      · refine Wx.run ok kX7_goes 98 1 (lv' := [(8, .inl q115.1), (7, .inl q89.1), (0, .inr (.inr (some v0))), (1, .inl v1), (2, .inl v2), (3, .inl v3), (4, .inl v4), (5, .inl v5), (6, .inl v6)]) (st' := [.inl (0 : Int32)]) (pc' := 178) rfl ?_
        exact Wx.zreturn ok kX7_goes 99 rfl gNz0 hres h (by decide)
set_option maxRecDepth 100000 in
set_option maxHeartbeats 4000000 in
theorem aX7_goes_l67 {X : gX} (ok : gOk X cX7_goes RX7 11 (some .boolean) rmX7_goes) {res : Int32 × gW} (hres : gRs X (some (.int res.1)) res.2) {F : Nat} (k185 : Nat → Int32 → Int32 → Int32 → Int32 → Int32 → gW → Option (Int32 × gW)) (hk185 : ∀ (v0 : Nat) (v1 : Int32) (v2 : Int32) (v3 : Int32) (v4 : Int32) (v5 : Int32) (w : gW), k185 v0 v1 v2 v3 v4 v5 w = some res → Wx X w 0 0 185 [(0, .inr (.inr (some v0))), (1, .inl v1), (2, .inl v2), (3, .inl v3), (4, .inl v4), (5, .inl v5)] []) : ∀ (n : Nat) (v0 : Nat) (v1 : Int32) (v2 : Int32) (v3 : Int32) (v4 : Int32) (v5 : Int32) (v6 : Int32) (w : gW), mX7_goes_l67 F k185 n v0 v1 v2 v3 v4 v5 v6 w = some res → Wx X w 0 0 67 [(0, .inr (.inr (some v0))), (1, .inl v1), (2, .inl v2), (3, .inl v3), (4, .inl v4), (5, .inl v5), (6, .inl v6)] [] := by
  intro n
  induction n with
  | zero => intro v0 v1 v2 v3 v4 v5 v6 w h; cases (show (none : Option (Int32 × gW)) = some res from h)
  | succ n ih =>
    intro v0 v1 v2 v3 v4 v5 v6 w h
    exact aX7_goes_h67 ok hres (F := F) (mX7_goes_l67 F k185 n) k185 ih hk185 v0 v1 v2 v3 v4 v5 v6 w h
set_option maxRecDepth 100000 in
set_option maxHeartbeats 4000000 in
theorem aX7_goes_h55 {X : gX} (ok : gOk X cX7_goes RX7 11 (some .boolean) rmX7_goes) {res : Int32 × gW} (hres : gRs X (some (.int res.1)) res.2) {F : Nat} (r : Nat → Int32 → Int32 → Int32 → Int32 → Int32 → gW → Option (Int32 × gW)) (k191 : Nat → Int32 → gW → Option (Int32 × gW)) (hr : ∀ (v0 : Nat) (v1 : Int32) (v2 : Int32) (v3 : Int32) (v4 : Int32) (v5 : Int32) (w : gW), r v0 v1 v2 v3 v4 v5 w = some res → Wx X w 0 0 55 [(0, .inr (.inr (some v0))), (1, .inl v1), (2, .inl v2), (3, .inl v3), (4, .inl v4), (5, .inl v5)] []) (hk191 : ∀ (v0 : Nat) (v4 : Int32) (w : gW), k191 v0 v4 w = some res → Wx X w 0 0 191 [(0, .inr (.inr (some v0))), (4, .inl v4)] []) : ∀ (v0 : Nat) (v1 : Int32) (v2 : Int32) (v3 : Int32) (v4 : Int32) (v5 : Int32) (w : gW), mX7_goes_h55 F r k191 v0 v1 v2 v3 v4 v5 w = some res → Wx X w 0 0 55 [(0, .inr (.inr (some v0))), (1, .inl v1), (2, .inl v2), (3, .inl v3), (4, .inl v4), (5, .inl v5)] [] := by
  intro v0 v1 v2 v3 v4 v5 w h
  unfold mX7_goes_h55 at h
  refine Wx.run ok kX7_goes 32 2 (lv' := [(0, .inr (.inr (some v0))), (1, .inl v1), (2, .inl v2), (3, .inl v3), (4, .inl v4), (5, .inl v5)]) (st' := [.inr (.inr (some v0)), .inl v5]) (pc' := 58) rfl ?_
  refine Wx.getI ok kX7_goes 34 rfl lk_RX7_156_0 h (fun t58 h => ?_)
  refine Wx.icmp_ge ok kX7_goes 35 (tgt := 191) rfl (by decide) h (fun hc61 h => ?_) (fun hc61 h => ?_)
  · refine Wx.sub [0, 4] rfl ?_
    exact hk191 _ _ _ h
  · refine Wx.run ok kX7_goes 36 2 (lv' := [(6, .inl (0 : Int32)), (0, .inr (.inr (some v0))), (1, .inl v1), (2, .inl v2), (3, .inl v3), (4, .inl v4), (5, .inl v5)]) (st' := []) (pc' := 67) rfl ?_
    refine Wx.sub [1, 2, 3, 4, 5, 6, 0] rfl ?_
    refine aX7_goes_l67 ok hres (F := F) _ ?_ F _ _ _ _ _ _ _ _ h
    · intro v0 v1 v2 v3 v4 v5 w h
      refine Wx.run ok kX7_goes 102 1 (lv' := [(5, .inl (v5 + (1 : Int32))), (0, .inr (.inr (some v0))), (1, .inl v1), (2, .inl v2), (3, .inl v3), (4, .inl v4)]) (st' := []) (pc' := 188) rfl ?_
      refine Wx.jump ok kX7_goes 103 (tgt := 55) rfl (by decide) ?_
      refine Wx.sub [1, 2, 3, 4, 5, 0] rfl ?_
      exact hr _ _ _ _ _ _ _ h
set_option maxRecDepth 100000 in
set_option maxHeartbeats 4000000 in
theorem aX7_goes_l55 {X : gX} (ok : gOk X cX7_goes RX7 11 (some .boolean) rmX7_goes) {res : Int32 × gW} (hres : gRs X (some (.int res.1)) res.2) {F : Nat} (k191 : Nat → Int32 → gW → Option (Int32 × gW)) (hk191 : ∀ (v0 : Nat) (v4 : Int32) (w : gW), k191 v0 v4 w = some res → Wx X w 0 0 191 [(0, .inr (.inr (some v0))), (4, .inl v4)] []) : ∀ (n : Nat) (v0 : Nat) (v1 : Int32) (v2 : Int32) (v3 : Int32) (v4 : Int32) (v5 : Int32) (w : gW), mX7_goes_l55 F k191 n v0 v1 v2 v3 v4 v5 w = some res → Wx X w 0 0 55 [(0, .inr (.inr (some v0))), (1, .inl v1), (2, .inl v2), (3, .inl v3), (4, .inl v4), (5, .inl v5)] [] := by
  intro n
  induction n with
  | zero => intro v0 v1 v2 v3 v4 v5 w h; cases (show (none : Option (Int32 × gW)) = some res from h)
  | succ n ih =>
    intro v0 v1 v2 v3 v4 v5 w h
    exact aX7_goes_h55 ok hres (F := F) (mX7_goes_l55 F k191 n) k191 ih hk191 v0 v1 v2 v3 v4 v5 w h
set_option maxRecDepth 100000 in
set_option maxHeartbeats 4000000 in
theorem aX7_goes_b286 {X : gX} (ok : gOk X cX7_goes RX7 11 (some .boolean) rmX7_goes) {res : Int32 × gW} (hres : gRs X (some (.int res.1)) res.2) {F : Nat} (r : Nat → Int32 → Int64 → Int64 → Int32 → gW → Option (Int32 × gW)) (k235 : gW → Option (Int32 × gW)) (hr : ∀ (v0 : Nat) (v4 : Int32) (v5 : Int64) (v7 : Int64) (v9 : Int32) (w : gW), r v0 v4 v5 v7 v9 w = some res → Wx X w 0 0 200 [(0, .inr (.inr (some v0))), (4, .inl v4), (5, .inr (.inl v5)), (7, .inr (.inl v7)), (9, .inl v9)] []) (hk235 : ∀  (w : gW), k235 w = some res → Wx X w 0 0 235 [] []) : ∀ (v0 : Nat) (v4 : Int32) (v5 : Int64) (v7 : Int64) (v9 : Int32) (w : gW), mX7_goes_b286 F r k235 v0 v4 v5 v7 v9 w = some res → Wx X w 0 0 286 [(0, .inr (.inr (some v0))), (4, .inl v4), (5, .inr (.inl v5)), (7, .inr (.inl v7)), (9, .inl v9)] [] := by
  intro v0 v4 v5 v7 v9 w h
  unfold mX7_goes_b286 at h
  refine Wx.run ok kX7_goes 160 1 (lv' := [(9, .inl (v9 + (1 : Int32))), (0, .inr (.inr (some v0))), (4, .inl v4), (5, .inr (.inl v5)), (7, .inr (.inl v7))]) (st' := []) (pc' := 289) rfl ?_
  refine Wx.jump ok kX7_goes 161 (tgt := 200) rfl (by decide) ?_
  refine Wx.sub [1, 2, 3, 4, 0] rfl ?_
  exact hr _ _ _ _ _ _ h
set_option maxRecDepth 100000 in
set_option maxHeartbeats 4000000 in
theorem aX7_goes_b255 {X : gX} (ok : gOk X cX7_goes RX7 11 (some .boolean) rmX7_goes) {res : Int32 × gW} (hres : gRs X (some (.int res.1)) res.2) {F : Nat} (r : Nat → Int32 → Int64 → Int64 → Int32 → gW → Option (Int32 × gW)) (k235 : gW → Option (Int32 × gW)) (hr : ∀ (v0 : Nat) (v4 : Int32) (v5 : Int64) (v7 : Int64) (v9 : Int32) (w : gW), r v0 v4 v5 v7 v9 w = some res → Wx X w 0 0 200 [(0, .inr (.inr (some v0))), (4, .inl v4), (5, .inr (.inl v5)), (7, .inr (.inl v7)), (9, .inl v9)] []) (hk235 : ∀  (w : gW), k235 w = some res → Wx X w 0 0 235 [] []) : ∀ (v0 : Nat) (v4 : Int32) (v5 : Int64) (v7 : Int64) (v9 : Int32) (v10 : Int32) (w : gW), mX7_goes_b255 F r k235 v0 v4 v5 v7 v9 v10 w = some res → Wx X w 0 0 255 [(0, .inr (.inr (some v0))), (4, .inl v4), (5, .inr (.inl v5)), (7, .inr (.inl v7)), (9, .inl v9), (10, .inl v10)] [] := by
  intro v0 v4 v5 v7 v9 v10 w h
  unfold mX7_goes_b255 at h
  refine Wx.run ok kX7_goes 142 2 (lv' := [(0, .inr (.inr (some v0))), (4, .inl v4), (5, .inr (.inl v5)), (7, .inr (.inl v7)), (9, .inl v9), (10, .inl v10)]) (st' := [.inl (64 : Int32), .inl v10]) (pc' := 259) rfl ?_
  refine Wx.icmp_ge ok kX7_goes 144 (tgt := 274) rfl (by decide) h (fun hc259 h => ?_) (fun hc259 h => ?_)
  · refine Wx.run ok kX7_goes 152 8 (lv' := [(7, .inr (.inl (v7 ||| ((1 : Int64) <<< (((v10 - (64 : Int32))).toInt64 &&& 63))))), (0, .inr (.inr (some v0))), (4, .inl v4), (5, .inr (.inl v5)), (9, .inl v9), (10, .inl v10)]) (st' := []) (pc' := 286) rfl ?_
    refine Wx.sub [1, 2, 3, 0, 4] rfl ?_
    exact aX7_goes_b286 ok hres (F := F) r k235 hr hk235 _ _ _ _ _ _ h
  · refine Wx.run ok kX7_goes 145 6 (lv' := [(5, .inr (.inl (v5 ||| ((1 : Int64) <<< ((v10).toInt64 &&& 63))))), (0, .inr (.inr (some v0))), (4, .inl v4), (7, .inr (.inl v7)), (9, .inl v9), (10, .inl v10)]) (st' := []) (pc' := 271) rfl ?_
    refine Wx.jump ok kX7_goes 151 (tgt := 286) rfl (by decide) ?_
    refine Wx.sub [1, 2, 0, 3, 4] rfl ?_
    exact aX7_goes_b286 ok hres (F := F) r k235 hr hk235 _ _ _ _ _ _ h
set_option maxRecDepth 100000 in
set_option maxHeartbeats 4000000 in
theorem aX7_goes_h200 {X : gX} (ok : gOk X cX7_goes RX7 11 (some .boolean) rmX7_goes) {res : Int32 × gW} (hres : gRs X (some (.int res.1)) res.2) {F : Nat} (r : Nat → Int32 → Int64 → Int64 → Int32 → gW → Option (Int32 × gW)) (k235 : gW → Option (Int32 × gW)) (hr : ∀ (v0 : Nat) (v4 : Int32) (v5 : Int64) (v7 : Int64) (v9 : Int32) (w : gW), r v0 v4 v5 v7 v9 w = some res → Wx X w 0 0 200 [(0, .inr (.inr (some v0))), (4, .inl v4), (5, .inr (.inl v5)), (7, .inr (.inl v7)), (9, .inl v9)] []) (hk235 : ∀  (w : gW), k235 w = some res → Wx X w 0 0 235 [] []) : ∀ (v0 : Nat) (v4 : Int32) (v5 : Int64) (v7 : Int64) (v9 : Int32) (w : gW), mX7_goes_h200 F r k235 v0 v4 v5 v7 v9 w = some res → Wx X w 0 0 200 [(0, .inr (.inr (some v0))), (4, .inl v4), (5, .inr (.inl v5)), (7, .inr (.inl v7)), (9, .inl v9)] [] := by
  intro v0 v4 v5 v7 v9 w h
  unfold mX7_goes_h200 at h
  refine Wx.run ok kX7_goes 110 2 (lv' := [(0, .inr (.inr (some v0))), (4, .inl v4), (5, .inr (.inl v5)), (7, .inr (.inl v7)), (9, .inl v9)]) (st' := [.inl v4, .inl v9]) (pc' := 204) rfl ?_
  refine Wx.icmp_ge ok kX7_goes 112 (tgt := 292) rfl (by decide) h (fun hc204 h => ?_) (fun hc204 h => ?_)
  · refine Wx.run ok kX7_goes 162 1 (lv' := [(0, .inr (.inr (some v0))), (4, .inl v4), (5, .inr (.inl v5)), (7, .inr (.inl v7)), (9, .inl v9)]) (st' := [.inl (1 : Int32)]) (pc' := 293) rfl ?_
    exact Wx.zreturn ok kX7_goes 163 rfl gNz1 hres h (by decide)
  · refine Wx.run ok kX7_goes 113 1 (lv' := [(0, .inr (.inr (some v0))), (4, .inl v4), (5, .inr (.inl v5)), (7, .inr (.inl v7)), (9, .inl v9)]) (st' := [.inr (.inr (some v0))]) (pc' := 208) rfl ?_
    refine Wx.getR ok kX7_goes 114 rfl lk_RX7_64_0 h (fun t208 h => ?_)
    refine Wx.run ok kX7_goes 115 1 (lv' := [(0, .inr (.inr (some v0))), (4, .inl v4), (5, .inr (.inl v5)), (7, .inr (.inl v7)), (9, .inl v9)]) (st' := [.inl v9, .inr (.inr t208)]) (pc' := 213) rfl ?_
    refine Wx.iald ok kX7_goes 116 rfl h (fun t213 h => ?_)
    refine Wx.run ok kX7_goes 117 3 (lv' := [(10, .inl t213), (0, .inr (.inr (some v0))), (4, .inl v4), (5, .inr (.inl v5)), (7, .inr (.inl v7)), (9, .inl v9)]) (st' := [.inl (64 : Int32), .inl t213]) (pc' := 220) rfl ?_
    refine Wx.icmp_ge ok kX7_goes 120 (tgt := 238) rfl (by decide) h (fun hc220 h => ?_) (fun hc220 h => ?_)
    · refine Wx.run ok kX7_goes 130 9 (lv' := [(10, .inl t213), (0, .inr (.inr (some v0))), (4, .inl v4), (5, .inr (.inl v5)), (7, .inr (.inl v7)), (9, .inl v9)]) (st' := [.inl (lg_cmp ((v7 >>> (((t213 - (64 : Int32))).toInt64 &&& 63)) &&& (1 : Int64)) (1 : Int64))]) (pc' := 250) rfl ?_
      refine Wx.if_ne ok kX7_goes 139 (tgt := 255) rfl (by decide) h (fun hc250 h => ?_) (fun hc250 h => ?_)
      · refine Wx.run ok kX7_goes 140 1 (lv' := [(10, .inl t213), (0, .inr (.inr (some v0))), (4, .inl v4), (5, .inr (.inl v5)), (7, .inr (.inl v7)), (9, .inl v9)]) (st' := [.inl (0 : Int32)]) (pc' := 254) rfl ?_
        exact Wx.zreturn ok kX7_goes 141 rfl gNz0 hres h (by decide)
      · refine Wx.sub [1, 2, 3, 4, 5, 0] rfl ?_
        exact aX7_goes_b255 ok hres (F := F) r k235 hr hk235 _ _ _ _ _ _ _ h
    · refine Wx.run ok kX7_goes 121 7 (lv' := [(10, .inl t213), (0, .inr (.inr (some v0))), (4, .inl v4), (5, .inr (.inl v5)), (7, .inr (.inl v7)), (9, .inl v9)]) (st' := [.inl (lg_cmp ((v5 >>> ((t213).toInt64 &&& 63)) &&& (1 : Int64)) (1 : Int64))]) (pc' := 232) rfl ?_
      refine Wx.if_ne ok kX7_goes 128 (tgt := 255) rfl (by decide) h (fun hc232 h => ?_) (fun hc232 h => ?_)
      · refine Wx.sub [] rfl ?_
        exact hk235  _ h
      · refine Wx.sub [1, 2, 3, 4, 5, 0] rfl ?_
        exact aX7_goes_b255 ok hres (F := F) r k235 hr hk235 _ _ _ _ _ _ _ h
set_option maxRecDepth 100000 in
set_option maxHeartbeats 4000000 in
theorem aX7_goes_l200 {X : gX} (ok : gOk X cX7_goes RX7 11 (some .boolean) rmX7_goes) {res : Int32 × gW} (hres : gRs X (some (.int res.1)) res.2) {F : Nat} (k235 : gW → Option (Int32 × gW)) (hk235 : ∀  (w : gW), k235 w = some res → Wx X w 0 0 235 [] []) : ∀ (n : Nat) (v0 : Nat) (v4 : Int32) (v5 : Int64) (v7 : Int64) (v9 : Int32) (w : gW), mX7_goes_l200 F k235 n v0 v4 v5 v7 v9 w = some res → Wx X w 0 0 200 [(0, .inr (.inr (some v0))), (4, .inl v4), (5, .inr (.inl v5)), (7, .inr (.inl v7)), (9, .inl v9)] [] := by
  intro n
  induction n with
  | zero => intro v0 v4 v5 v7 v9 w h; cases (show (none : Option (Int32 × gW)) = some res from h)
  | succ n ih =>
    intro v0 v4 v5 v7 v9 w h
    exact aX7_goes_h200 ok hres (F := F) (mX7_goes_l200 F k235 n) k235 ih hk235 v0 v4 v5 v7 v9 w h
set_option maxRecDepth 100000 in
set_option maxHeartbeats 4000000 in
theorem aX7_goes (l : Launch) (G : gG) {F : Nat} {v0 : Nat} {v1 : Int32} {v2 : Int32} {v3 : Int32} {w : gW} {res : Int32 × gW} (h : mX7_goes F v0 v1 v2 v3 w = some res) : gM l yX7_goes cX7_goes 11 (some .boolean) rmX7_goes G w (gTs [.inr (.inr (some v0)), .inl v1, .inl v2, .inl v3]) (some (.int res.1)) res.2 := by
  refine gM_of (y := yX7_goes) (by decide +kernel) (Nat.le_of_ble_eq_true rfl) ?_
  intro X ok hl hG hres hnm
  subst hl; subst hG
  unfold mX7_goes at h
  show Wx X w 0 0 0 [(0, .inr (.inr (some v0))), (1, .inl v1), (2, .inl v2), (3, .inl v3)] []
  refine Wx.run ok kX7_goes 0 1 (lv' := [(0, .inr (.inr (some v0))), (1, .inl v1), (2, .inl v2), (3, .inl v3)]) (st' := [.inr (.inr (some v0))]) (pc' := 1) rfl ?_
  refine Wx.getR ok kX7_goes 1 rfl lk_RX7_7_0 h (fun t1 h => ?_)
  refine Wx.run ok kX7_goes 2 1 (lv' := [(0, .inr (.inr (some v0))), (1, .inl v1), (2, .inl v2), (3, .inl v3)]) (st' := [.inl v1, .inr (.inr t1)]) (pc' := 5) rfl ?_
  refine Wx.iald ok kX7_goes 3 rfl h (fun t5 h => ?_)
  refine Wx.run ok kX7_goes 4 3 (lv' := [(5, .inl (0 : Int32)), (4, .inl t5), (0, .inr (.inr (some v0))), (1, .inl v1), (2, .inl v2), (3, .inl v3)]) (st' := []) (pc' := 11) rfl ?_
  refine Wx.sub [2, 3, 4, 5, 1, 0] rfl ?_
  refine aX7_goes_l11 ok hres (F := F) _ ?_ F _ _ _ _ _ _ _ h
  · intro v0 v1 v2 v3 v4 w h
    refine Wx.run ok kX7_goes 17 1 (lv' := [(0, .inr (.inr (some v0))), (1, .inl v1), (2, .inl v2), (3, .inl v3), (4, .inl v4)]) (st' := [.inr (.inr (some v0))]) (pc' := 34) rfl ?_
    refine Wx.getR ok kX7_goes 18 rfl lk_RX7_64_0 h (fun t34 h => ?_)
    refine Wx.run ok kX7_goes 19 2 (lv' := [(0, .inr (.inr (some v0))), (1, .inl v1), (2, .inl v2), (3, .inl v3), (4, .inl v4)]) (st' := [.inl (0 : Int32), .inl (0 : Int32), .inr (.inr t34)]) (pc' := 39) rfl ?_
    refine Wx.iast ok kX7_goes 21 rfl h (fun w39 h => ?_)
    refine Wx.run ok kX7_goes 22 1 (lv' := [(0, .inr (.inr (some v0))), (1, .inl v1), (2, .inl v2), (3, .inl v3), (4, .inl v4)]) (st' := [.inr (.inr (some v0))]) (pc' := 41) rfl ?_
    refine Wx.getR ok kX7_goes 23 rfl lk_RX7_44_0 h (fun t41 h => ?_)
    refine Wx.run ok kX7_goes 24 2 (lv' := [(0, .inr (.inr (some v0))), (1, .inl v1), (2, .inl v2), (3, .inl v3), (4, .inl v4)]) (st' := [.inl (0 : Int32), .inl (0 : Int32), .inr (.inr t41)]) (pc' := 46) rfl ?_
    refine Wx.iast ok kX7_goes 26 rfl h (fun w46 h => ?_)
    refine Wx.run ok kX7_goes 27 2 (lv' := [(0, .inr (.inr (some v0))), (1, .inl v1), (2, .inl v2), (3, .inl v3), (4, .inl v4)]) (st' := [.inl (1 : Int32), .inr (.inr (some v0))]) (pc' := 49) rfl ?_
    refine Wx.put ok kX7_goes 29 rfl lk_RX7_156_1 (gFit_i _) h (fun w49 h => ?_)
    refine Wx.run ok kX7_goes 30 2 (lv' := [(5, .inl (0 : Int32)), (0, .inr (.inr (some v0))), (1, .inl v1), (2, .inl v2), (3, .inl v3), (4, .inl v4)]) (st' := []) (pc' := 55) rfl ?_
    refine Wx.sub [1, 2, 3, 4, 5, 0] rfl ?_
    refine aX7_goes_l55 ok hres (F := F) _ ?_ F _ _ _ _ _ _ _ h
    · intro v0 v4 w h
      refine Wx.run ok kX7_goes 104 6 (lv' := [(9, .inl (0 : Int32)), (7, .inr (.inl (0 : Int64))), (5, .inr (.inl (0 : Int64))), (0, .inr (.inr (some v0))), (4, .inl v4)]) (st' := []) (pc' := 200) rfl ?_
      refine Wx.sub [3, 4, 2, 1, 0] rfl ?_
      refine aX7_goes_l200 ok hres (F := F) _ ?_ F _ _ _ _ _ _ h
      · intro w h
        refine Wx.jump ok kX7_goes 129 (tgt := 253) rfl (by decide) ?_
        refine Wx.run ok kX7_goes 140 1 (lv' := []) (st' := [.inl (0 : Int32)]) (pc' := 254) rfl ?_
        exact Wx.zreturn ok kX7_goes 141 rfl gNz0 hres h (by decide)
set_option maxRecDepth 100000 in
set_option maxHeartbeats 4000000 in
theorem aX7_inverse_h2 {X : gX} (ok : gOk X cX7_inverse RX7 4 (some .int) rmX7_inverse) {res : Int32 × gW} (hres : gRs X (some (.int res.1)) res.2) {F : Nat} (r : Nat → Int32 → Int32 → Int32 → gW → Option (Int32 × gW)) (hr : ∀ (v0 : Nat) (v1 : Int32) (v2 : Int32) (v3 : Int32) (w : gW), r v0 v1 v2 v3 w = some res → Wx X w 0 0 2 [(0, .inr (.inr (some v0))), (1, .inl v1), (2, .inl v2), (3, .inl v3)] []) : ∀ (v0 : Nat) (v1 : Int32) (v2 : Int32) (v3 : Int32) (w : gW), mX7_inverse_h2 F r v0 v1 v2 v3 w = some res → Wx X w 0 0 2 [(0, .inr (.inr (some v0))), (1, .inl v1), (2, .inl v2), (3, .inl v3)] [] := by
  intro v0 v1 v2 v3 w h
  unfold mX7_inverse_h2 at h
  refine Wx.run ok kX7_inverse 2 4 (lv' := [(0, .inr (.inr (some v0))), (1, .inl v1), (2, .inl v2), (3, .inl v3)]) (st' := [.inl v3, .inl v2, .inl v1, .inr (.inr (some v0))]) (pc' := 6) rfl ?_
  obtain ⟨a6, ha6, h⟩ := gob h
  obtain ⟨q6, hq6, h⟩ := gob h
  refine Wx.callV ok kX7_inverse 6 rfl lm_RX7_118 cd_X7_prod ha6 [.inl v1, .inl v2, .inl v3] (some (.inl q6.1)) (aX7_prod _ _ hq6) (by decide) rfl (Nat.le_of_ble_eq_true rfl) rfl rfl ?_
  refine Wx.if_eq ok kX7_inverse 7 (tgt := 18) rfl (by decide) h (fun hc9 h => ?_) (fun hc9 h => ?_)
  · refine Wx.run ok kX7_inverse 10 1 (lv' := [(0, .inr (.inr (some v0))), (1, .inl v1), (2, .inl v2), (3, .inl v3)]) (st' := [.inl v3]) (pc' := 19) rfl ?_
    exact Wx.ireturn ok kX7_inverse 11 rfl hres h (by decide)
  · refine Wx.run ok kX7_inverse 8 1 (lv' := [(3, .inl (v3 + (1 : Int32))), (0, .inr (.inr (some v0))), (1, .inl v1), (2, .inl v2)]) (st' := []) (pc' := 15) rfl ?_
    refine Wx.jump ok kX7_inverse 9 (tgt := 2) rfl (by decide) ?_
    refine Wx.sub [1, 2, 3, 0] rfl ?_
    exact hr _ _ _ _ _ h
set_option maxRecDepth 100000 in
set_option maxHeartbeats 4000000 in
theorem aX7_inverse_l2 {X : gX} (ok : gOk X cX7_inverse RX7 4 (some .int) rmX7_inverse) {res : Int32 × gW} (hres : gRs X (some (.int res.1)) res.2) {F : Nat} : ∀ (n : Nat) (v0 : Nat) (v1 : Int32) (v2 : Int32) (v3 : Int32) (w : gW), mX7_inverse_l2 F n v0 v1 v2 v3 w = some res → Wx X w 0 0 2 [(0, .inr (.inr (some v0))), (1, .inl v1), (2, .inl v2), (3, .inl v3)] [] := by
  intro n
  induction n with
  | zero => intro v0 v1 v2 v3 w h; cases (show (none : Option (Int32 × gW)) = some res from h)
  | succ n ih =>
    intro v0 v1 v2 v3 w h
    exact aX7_inverse_h2 ok hres (F := F) (mX7_inverse_l2 F n) ih v0 v1 v2 v3 w h
set_option maxRecDepth 100000 in
set_option maxHeartbeats 4000000 in
theorem aX7_inverse (l : Launch) (G : gG) {F : Nat} {v0 : Nat} {v1 : Int32} {v2 : Int32} {w : gW} {res : Int32 × gW} (h : mX7_inverse F v0 v1 v2 w = some res) : gM l yX7_inverse cX7_inverse 4 (some .int) rmX7_inverse G w (gTs [.inr (.inr (some v0)), .inl v1, .inl v2]) (some (.int res.1)) res.2 := by
  refine gM_of (y := yX7_inverse) (by decide +kernel) (Nat.le_of_ble_eq_true rfl) ?_
  intro X ok hl hG hres hnm
  subst hl; subst hG
  unfold mX7_inverse at h
  show Wx X w 0 0 0 [(0, .inr (.inr (some v0))), (1, .inl v1), (2, .inl v2)] []
  refine Wx.run ok kX7_inverse 0 2 (lv' := [(3, .inl (0 : Int32)), (0, .inr (.inr (some v0))), (1, .inl v1), (2, .inl v2)]) (st' := []) (pc' := 2) rfl ?_
  refine Wx.sub [1, 2, 3, 0] rfl ?_
  refine aX7_inverse_l2 ok hres (F := F) F _ _ _ _ _ h
set_option maxRecDepth 100000 in
set_option maxHeartbeats 4000000 in
theorem aX7_isGroup (l : Launch) (G : gG) {F : Nat} {v0 : Nat} {v1 : Int32} {w : gW} {res : Int32 × gW} (h : mX7_isGroup F v0 v1 w = some res) : gM l yX7_isGroup cX7_isGroup 2 (some .boolean) rmX7_isGroup G w (gTs [.inr (.inr (some v0)), .inl v1]) (some (.int res.1)) res.2 := by
  refine gM_of (y := yX7_isGroup) (by decide +kernel) (Nat.le_of_ble_eq_true rfl) ?_
  intro X ok hl hG hres hnm
  subst hl; subst hG
  unfold mX7_isGroup at h
  show Wx X w 0 0 0 [(0, .inr (.inr (some v0))), (1, .inl v1)] []
  refine Wx.run ok kX7_isGroup 0 4 (lv' := [(0, .inr (.inr (some v0))), (1, .inl v1)]) (st' := [.inr (.inr (some v0)), .inr (.inl (0 : Int64)), .inr (.inl ((v1).toInt64))]) (pc' := 4) rfl ?_
  refine Wx.getI ok kX7_isGroup 4 rfl lk_RX7_95_0 h (fun t4 h => ?_)
  refine Wx.run ok kX7_isGroup 5 3 (lv' := [(0, .inr (.inr (some v0))), (1, .inl v1)]) (st' := [.inr (.inl (((t4 - (1 : Int32))).toInt64)), .inr (.inl (0 : Int64)), .inr (.inl ((v1).toInt64))]) (pc' := 10) rfl ?_
  obtain ⟨q10, hq10, h⟩ := gob h
  refine Wx.callS ok kX7_isGroup 8 rfl lm_RX7_100 cd_X7_in [.inr (.inl ((v1).toInt64)), .inr (.inl (0 : Int64)), .inr (.inl (((t4 - (1 : Int32))).toInt64))] (some (.inl q10.1)) (aX7_in _ _ hq10) (by decide) rfl (Nat.le_of_ble_eq_true rfl) rfl rfl ?_
  exact Wx.zreturnB ok kX7_isGroup 9 rfl hres h (by decide)
set_option maxRecDepth 100000 in
set_option maxHeartbeats 4000000 in
theorem aX7_isModule (l : Launch) (G : gG) {F : Nat} {v0 : Nat} {v1 : Int32} {w : gW} {res : Int32 × gW} (h : mX7_isModule F v0 v1 w = some res) : gM l yX7_isModule cX7_isModule 2 (some .boolean) rmX7_isModule G w (gTs [.inr (.inr (some v0)), .inl v1]) (some (.int res.1)) res.2 := by
  refine gM_of (y := yX7_isModule) (by decide +kernel) (Nat.le_of_ble_eq_true rfl) ?_
  intro X ok hl hG hres hnm
  subst hl; subst hG
  unfold mX7_isModule at h
  show Wx X w 0 0 0 [(0, .inr (.inr (some v0))), (1, .inl v1)] []
  refine Wx.run ok kX7_isModule 0 4 (lv' := [(0, .inr (.inr (some v0))), (1, .inl v1)]) (st' := [.inr (.inr (some v0)), .inr (.inl (0 : Int64)), .inr (.inl ((v1).toInt64))]) (pc' := 4) rfl ?_
  refine Wx.getI ok kX7_isModule 4 rfl lk_RX7_129_0 h (fun t4 h => ?_)
  refine Wx.run ok kX7_isModule 5 3 (lv' := [(0, .inr (.inr (some v0))), (1, .inl v1)]) (st' := [.inr (.inl (((t4 - (1 : Int32))).toInt64)), .inr (.inl (0 : Int64)), .inr (.inl ((v1).toInt64))]) (pc' := 10) rfl ?_
  obtain ⟨q10, hq10, h⟩ := gob h
  refine Wx.callS ok kX7_isModule 8 rfl lm_RX7_100 cd_X7_in [.inr (.inl ((v1).toInt64)), .inr (.inl (0 : Int64)), .inr (.inl (((t4 - (1 : Int32))).toInt64))] (some (.inl q10.1)) (aX7_in _ _ hq10) (by decide) rfl (Nat.le_of_ble_eq_true rfl) rfl rfl ?_
  exact Wx.zreturnB ok kX7_isModule 9 rfl hres h (by decide)
set_option maxRecDepth 100000 in
set_option maxHeartbeats 4000000 in
theorem aX7_lay_b80 {X : gX} (ok : gOk X cX7_lay RX7 4 (some .int) rmX7_lay) {res : Int32 × gW} (hres : gRs X (some (.int res.1)) res.2) {F : Nat} : ∀ (s0 : Option Nat) (s1 : Int32) (s2 : Int32) (w : gW), mX7_lay_b80 F s0 s1 s2 w = some res → Wx X w 0 0 80 [] [.inl s2, .inl s1, .inr (.inr s0)] := by
  intro s0 s1 s2 w h
  unfold mX7_lay_b80 at h
  refine Wx.iast ok kX7_lay 49 rfl h (fun w80 h => ?_)
  refine Wx.run ok kX7_lay 50 1 (lv' := []) (st' := [.inl (1 : Int32)]) (pc' := 82) rfl ?_
  exact Wx.ireturn ok kX7_lay 51 rfl hres h (by decide)
set_option maxRecDepth 100000 in
set_option maxHeartbeats 4000000 in
theorem aX7_lay (l : Launch) (G : gG) {F : Nat} {v0 : Nat} {v1 : Int32} {v2 : Int32} {v3 : Int32} {w : gW} {res : Int32 × gW} (h : mX7_lay F v0 v1 v2 v3 w = some res) : gM l yX7_lay cX7_lay 4 (some .int) rmX7_lay G w (gTs [.inr (.inr (some v0)), .inl v1, .inl v2, .inl v3]) (some (.int res.1)) res.2 := by
  refine gM_of (y := yX7_lay) (by decide +kernel) (Nat.le_of_ble_eq_true rfl) ?_
  intro X ok hl hG hres hnm
  subst hl; subst hG
  unfold mX7_lay at h
  show Wx X w 0 0 0 [(0, .inr (.inr (some v0))), (1, .inl v1), (2, .inl v2), (3, .inl v3)] []
  refine Wx.run ok kX7_lay 0 3 (lv' := [(0, .inr (.inr (some v0))), (1, .inl v1), (2, .inl v2), (3, .inl v3)]) (st' := [.inr (.inl (0 : Int64)), .inr (.inl ((v1).toInt64))]) (pc' := 3) rfl ?_
  refine Wx.ldc2 ok kX7_lay 3 rfl gw_860 ?_
  obtain ⟨q6, hq6, h⟩ := gob h
  refine Wx.callS ok kX7_lay 4 rfl lm_RX7_100 cd_X7_in [.inr (.inl ((v1).toInt64)), .inr (.inl (0 : Int64)), .inr (.inl (3 : Int64))] (some (.inl q6.1)) (aX7_in _ _ hq6) (by decide) rfl (Nat.le_of_ble_eq_true rfl) rfl rfl ?_
  refine Wx.if_ne ok kX7_lay 5 (tgt := 14) rfl (by decide) h (fun hc9 h => ?_) (fun hc9 h => ?_)
  · refine Wx.run ok kX7_lay 6 1 (lv' := [(0, .inr (.inr (some v0))), (1, .inl v1), (2, .inl v2), (3, .inl v3)]) (st' := [.inl (-1 : Int32)]) (pc' := 13) rfl ?_
    exact Wx.ireturn ok kX7_lay 7 rfl hres h (by decide)
  · refine Wx.run ok kX7_lay 8 1 (lv' := [(0, .inr (.inr (some v0))), (1, .inl v1), (2, .inl v2), (3, .inl v3)]) (st' := [.inr (.inr (some v0))]) (pc' := 15) rfl ?_
    refine Wx.getR ok kX7_lay 9 rfl lk_RX7_20_0 h (fun t15 h => ?_)
    refine Wx.run ok kX7_lay 10 1 (lv' := [(0, .inr (.inr (some v0))), (1, .inl v1), (2, .inl v2), (3, .inl v3)]) (st' := [.inl v1, .inr (.inr t15)]) (pc' := 19) rfl ?_
    refine Wx.iald ok kX7_lay 11 rfl h (fun t19 h => ?_)
    refine Wx.run ok kX7_lay 12 1 (lv' := [(0, .inr (.inr (some v0))), (1, .inl v1), (2, .inl v2), (3, .inl v3)]) (st' := [.inl (-4 : Int32), .inl t19]) (pc' := 22) rfl ?_
    refine Wx.icmp_ne ok kX7_lay 13 (tgt := 28) rfl (by decide) h (fun hc22 h => ?_) (fun hc22 h => ?_)
    · refine Wx.run ok kX7_lay 14 1 (lv' := [(0, .inr (.inr (some v0))), (1, .inl v1), (2, .inl v2), (3, .inl v3)]) (st' := [.inl (-11 : Int32)]) (pc' := 27) rfl ?_
      exact Wx.ireturn ok kX7_lay 15 rfl hres h (by decide)
    · refine Wx.run ok kX7_lay 16 4 (lv' := [(0, .inr (.inr (some v0))), (1, .inl v1), (2, .inl v2), (3, .inl v3)]) (st' := [.inr (.inr (some v0)), .inr (.inl (0 : Int64)), .inr (.inl ((v2).toInt64))]) (pc' := 32) rfl ?_
      refine Wx.getR ok kX7_lay 20 rfl lk_RX7_23_0 h (fun t32 h => ?_)
      refine Wx.run ok kX7_lay 21 1 (lv' := [(0, .inr (.inr (some v0))), (1, .inl v1), (2, .inl v2), (3, .inl v3)]) (st' := [.inl v1, .inr (.inr t32), .inr (.inl (0 : Int64)), .inr (.inl ((v2).toInt64))]) (pc' := 36) rfl ?_
      refine Wx.iald ok kX7_lay 22 rfl h (fun t36 h => ?_)
      refine Wx.run ok kX7_lay 23 3 (lv' := [(0, .inr (.inr (some v0))), (1, .inl v1), (2, .inl v2), (3, .inl v3)]) (st' := [.inr (.inl (((t36 - (1 : Int32))).toInt64)), .inr (.inl (0 : Int64)), .inr (.inl ((v2).toInt64))]) (pc' := 40) rfl ?_
      obtain ⟨q40, hq40, h⟩ := gob h
      refine Wx.callS ok kX7_lay 26 rfl lm_RX7_100 cd_X7_in [.inr (.inl ((v2).toInt64)), .inr (.inl (0 : Int64)), .inr (.inl (((t36 - (1 : Int32))).toInt64))] (some (.inl q40.1)) (aX7_in _ _ hq40) (by decide) rfl (Nat.le_of_ble_eq_true rfl) rfl rfl ?_
      refine Wx.if_ne ok kX7_lay 27 (tgt := 49) rfl (by decide) h (fun hc43 h => ?_) (fun hc43 h => ?_)
      · refine Wx.run ok kX7_lay 28 1 (lv' := [(0, .inr (.inr (some v0))), (1, .inl v1), (2, .inl v2), (3, .inl v3)]) (st' := [.inl (-12 : Int32)]) (pc' := 48) rfl ?_
        exact Wx.ireturn ok kX7_lay 29 rfl hres h (by decide)
      · refine Wx.run ok kX7_lay 30 1 (lv' := [(0, .inr (.inr (some v0))), (1, .inl v1), (2, .inl v2), (3, .inl v3)]) (st' := [.inr (.inr (some v0))]) (pc' := 50) rfl ?_
        refine Wx.getR ok kX7_lay 31 rfl lk_RX7_26_0 h (fun t50 h => ?_)
        refine Wx.run ok kX7_lay 32 6 (lv' := [(0, .inr (.inr (some v0))), (1, .inl v1), (2, .inl v2), (3, .inl v3)]) (st' := [.inr (.inr (some v0)), .inl (((144 : Int32) * v1) + v2), .inr (.inr t50)]) (pc' := 61) rfl ?_
        refine Wx.getR ok kX7_lay 38 rfl lk_RX7_20_0 h (fun t61 h => ?_)
        refine Wx.run ok kX7_lay 39 1 (lv' := [(0, .inr (.inr (some v0))), (1, .inl v1), (2, .inl v2), (3, .inl v3)]) (st' := [.inl v1, .inr (.inr t61), .inl (((144 : Int32) * v1) + v2), .inr (.inr t50)]) (pc' := 65) rfl ?_
        refine Wx.iald ok kX7_lay 40 rfl h (fun t65 h => ?_)
        refine Wx.if_ne ok kX7_lay 41 (tgt := 79) rfl (by decide) h (fun hc66 h => ?_) (fun hc66 h => ?_)
        · refine Wx.run ok kX7_lay 42 5 (lv' := [(0, .inr (.inr (some v0))), (1, .inl v1), (2, .inl v2), (3, .inl v3)]) (st' := [.inl ((v3 <<< ((24 : Int32) &&& 31)) >>> ((24 : Int32) &&& 31)), .inl (((144 : Int32) * v1) + v2), .inr (.inr t50)]) (pc' := 76) rfl ?_
          refine Wx.jump ok kX7_lay 47 (tgt := 80) rfl (by decide) ?_
          refine Wx.sub [] rfl ?_
          exact aX7_lay_b80 ok hres (F := F) _ _ _ _ h
        · refine Wx.run ok kX7_lay 48 1 (lv' := [(0, .inr (.inr (some v0))), (1, .inl v1), (2, .inl v2), (3, .inl v3)]) (st' := [.inl v3, .inl (((144 : Int32) * v1) + v2), .inr (.inr t50)]) (pc' := 80) rfl ?_
          refine Wx.sub [] rfl ?_
          exact aX7_lay_b80 ok hres (F := F) _ _ _ _ h
set_option maxRecDepth 100000 in
set_option maxHeartbeats 4000000 in
theorem aX7_makes_b130 {X : gX} (ok : gOk X cX7_makes RX7 6 none rmX7_makes) {res : gW} (hres : gRs X none res) {F : Nat} (r : Nat → Int32 → Int32 → Int32 → Int32 → gW → Option (gW)) (k136 : Nat → Int32 → Int32 → Int32 → gW → Option (gW)) (hr : ∀ (v0 : Nat) (v1 : Int32) (v2 : Int32) (v3 : Int32) (v4 : Int32) (w : gW), r v0 v1 v2 v3 v4 w = some res → Wx X w 0 0 35 [(0, .inr (.inr (some v0))), (1, .inl v1), (2, .inl v2), (3, .inl v3), (4, .inl v4)] []) (hk136 : ∀ (v0 : Nat) (v1 : Int32) (v2 : Int32) (v3 : Int32) (w : gW), k136 v0 v1 v2 v3 w = some res → Wx X w 0 0 136 [(0, .inr (.inr (some v0))), (1, .inl v1), (2, .inl v2), (3, .inl v3)] []) : ∀ (v0 : Nat) (v1 : Int32) (v2 : Int32) (v3 : Int32) (v4 : Int32) (w : gW), mX7_makes_b130 F r k136 v0 v1 v2 v3 v4 w = some res → Wx X w 0 0 130 [(0, .inr (.inr (some v0))), (1, .inl v1), (2, .inl v2), (3, .inl v3), (4, .inl v4)] [] := by
  intro v0 v1 v2 v3 v4 w h
  unfold mX7_makes_b130 at h
  refine Wx.run ok kX7_makes 75 1 (lv' := [(4, .inl (v4 + (1 : Int32))), (0, .inr (.inr (some v0))), (1, .inl v1), (2, .inl v2), (3, .inl v3)]) (st' := []) (pc' := 133) rfl ?_
  refine Wx.jump ok kX7_makes 76 (tgt := 35) rfl (by decide) ?_
  refine Wx.sub [1, 2, 3, 4, 0] rfl ?_
  exact hr _ _ _ _ _ _ h
set_option maxRecDepth 100000 in
set_option maxHeartbeats 4000000 in
theorem aX7_makes_b109 {X : gX} (ok : gOk X cX7_makes RX7 6 none rmX7_makes) {res : gW} (hres : gRs X none res) {F : Nat} (r : Nat → Int32 → Int32 → Int32 → Int32 → gW → Option (gW)) (k136 : Nat → Int32 → Int32 → Int32 → gW → Option (gW)) (hr : ∀ (v0 : Nat) (v1 : Int32) (v2 : Int32) (v3 : Int32) (v4 : Int32) (w : gW), r v0 v1 v2 v3 v4 w = some res → Wx X w 0 0 35 [(0, .inr (.inr (some v0))), (1, .inl v1), (2, .inl v2), (3, .inl v3), (4, .inl v4)] []) (hk136 : ∀ (v0 : Nat) (v1 : Int32) (v2 : Int32) (v3 : Int32) (w : gW), k136 v0 v1 v2 v3 w = some res → Wx X w 0 0 136 [(0, .inr (.inr (some v0))), (1, .inl v1), (2, .inl v2), (3, .inl v3)] []) : ∀ (v0 : Nat) (v1 : Int32) (v2 : Int32) (v3 : Int32) (v4 : Int32) (v5 : Int32) (w : gW), mX7_makes_b109 F r k136 v0 v1 v2 v3 v4 v5 w = some res → Wx X w 0 0 109 [(0, .inr (.inr (some v0))), (1, .inl v1), (2, .inl v2), (3, .inl v3), (4, .inl v4), (5, .inl v5)] [] := by
  intro v0 v1 v2 v3 v4 v5 w h
  unfold mX7_makes_b109 at h
  refine Wx.run ok kX7_makes 63 1 (lv' := [(0, .inr (.inr (some v0))), (1, .inl v1), (2, .inl v2), (3, .inl v3), (4, .inl v4), (5, .inl v5)]) (st' := [.inr (.inr (some v0))]) (pc' := 110) rfl ?_
  refine Wx.getR ok kX7_makes 64 rfl lk_RX7_44_0 h (fun t110 h => ?_)
  refine Wx.run ok kX7_makes 65 1 (lv' := [(0, .inr (.inr (some v0))), (1, .inl v1), (2, .inl v2), (3, .inl v3), (4, .inl v4), (5, .inl v5)]) (st' := [.inr (.inr (some v0)), .inr (.inr t110)]) (pc' := 114) rfl ?_
  refine Wx.getI ok kX7_makes 66 rfl lk_RX7_156_0 h (fun t114 h => ?_)
  refine Wx.run ok kX7_makes 67 1 (lv' := [(0, .inr (.inr (some v0))), (1, .inl v1), (2, .inl v2), (3, .inl v3), (4, .inl v4), (5, .inl v5)]) (st' := [.inl v5, .inl t114, .inr (.inr t110)]) (pc' := 119) rfl ?_
  refine Wx.iast ok kX7_makes 68 rfl h (fun w119 h => ?_)
  refine Wx.run ok kX7_makes 69 2 (lv' := [(0, .inr (.inr (some v0))), (1, .inl v1), (2, .inl v2), (3, .inl v3), (4, .inl v4), (5, .inl v5)]) (st' := [.inr (.inr (some v0)), .inr (.inr (some v0))]) (pc' := 122) rfl ?_
  refine Wx.getI ok kX7_makes 71 rfl lk_RX7_156_0 h (fun t122 h => ?_)
  refine Wx.run ok kX7_makes 72 2 (lv' := [(0, .inr (.inr (some v0))), (1, .inl v1), (2, .inl v2), (3, .inl v3), (4, .inl v4), (5, .inl v5)]) (st' := [.inl (t122 + (1 : Int32)), .inr (.inr (some v0))]) (pc' := 127) rfl ?_
  refine Wx.put ok kX7_makes 74 rfl lk_RX7_156_1 (gFit_i _) h (fun w127 h => ?_)
  refine Wx.sub [0, 1, 2, 3, 4] rfl ?_
  exact aX7_makes_b130 ok hres (F := F) r k136 hr hk136 _ _ _ _ _ _ h
set_option maxRecDepth 100000 in
set_option maxHeartbeats 4000000 in
theorem aX7_makes_h35 {X : gX} (ok : gOk X cX7_makes RX7 6 none rmX7_makes) {res : gW} (hres : gRs X none res) {F : Nat} (r : Nat → Int32 → Int32 → Int32 → Int32 → gW → Option (gW)) (k136 : Nat → Int32 → Int32 → Int32 → gW → Option (gW)) (hr : ∀ (v0 : Nat) (v1 : Int32) (v2 : Int32) (v3 : Int32) (v4 : Int32) (w : gW), r v0 v1 v2 v3 v4 w = some res → Wx X w 0 0 35 [(0, .inr (.inr (some v0))), (1, .inl v1), (2, .inl v2), (3, .inl v3), (4, .inl v4)] []) (hk136 : ∀ (v0 : Nat) (v1 : Int32) (v2 : Int32) (v3 : Int32) (w : gW), k136 v0 v1 v2 v3 w = some res → Wx X w 0 0 136 [(0, .inr (.inr (some v0))), (1, .inl v1), (2, .inl v2), (3, .inl v3)] []) : ∀ (v0 : Nat) (v1 : Int32) (v2 : Int32) (v3 : Int32) (v4 : Int32) (w : gW), mX7_makes_h35 F r k136 v0 v1 v2 v3 v4 w = some res → Wx X w 0 0 35 [(0, .inr (.inr (some v0))), (1, .inl v1), (2, .inl v2), (3, .inl v3), (4, .inl v4)] [] := by
  intro v0 v1 v2 v3 v4 w h
  unfold mX7_makes_h35 at h
  refine Wx.run ok kX7_makes 22 2 (lv' := [(0, .inr (.inr (some v0))), (1, .inl v1), (2, .inl v2), (3, .inl v3), (4, .inl v4)]) (st' := [.inl v2, .inl v4]) (pc' := 38) rfl ?_
  refine Wx.icmp_ge ok kX7_makes 24 (tgt := 136) rfl (by decide) h (fun hc38 h => ?_) (fun hc38 h => ?_)
  · refine Wx.sub [0, 1, 2, 3] rfl ?_
    exact hk136 _ _ _ _ _ h
  · refine Wx.run ok kX7_makes 25 3 (lv' := [(0, .inr (.inr (some v0))), (1, .inl v1), (2, .inl v2), (3, .inl v3), (4, .inl v4)]) (st' := [.inr (.inr (some v0)), .inl v1, .inr (.inr (some v0))]) (pc' := 44) rfl ?_
    refine Wx.getR ok kX7_makes 28 rfl lk_RX7_44_0 h (fun t44 h => ?_)
    refine Wx.run ok kX7_makes 29 1 (lv' := [(0, .inr (.inr (some v0))), (1, .inl v1), (2, .inl v2), (3, .inl v3), (4, .inl v4)]) (st' := [.inl v3, .inr (.inr t44), .inl v1, .inr (.inr (some v0))]) (pc' := 48) rfl ?_
    refine Wx.iald ok kX7_makes 30 rfl h (fun t48 h => ?_)
    refine Wx.run ok kX7_makes 31 1 (lv' := [(0, .inr (.inr (some v0))), (1, .inl v1), (2, .inl v2), (3, .inl v3), (4, .inl v4)]) (st' := [.inr (.inr (some v0)), .inl t48, .inl v1, .inr (.inr (some v0))]) (pc' := 50) rfl ?_
    refine Wx.getR ok kX7_makes 32 rfl lk_RX7_41_0 h (fun t50 h => ?_)
    refine Wx.run ok kX7_makes 33 1 (lv' := [(0, .inr (.inr (some v0))), (1, .inl v1), (2, .inl v2), (3, .inl v3), (4, .inl v4)]) (st' := [.inl v4, .inr (.inr t50), .inl t48, .inl v1, .inr (.inr (some v0))]) (pc' := 55) rfl ?_
    refine Wx.iald ok kX7_makes 34 rfl h (fun t55 h => ?_)
    obtain ⟨a56, ha56, h⟩ := gob h
    obtain ⟨q56, hq56, h⟩ := gob h
    refine Wx.callV ok kX7_makes 35 rfl lm_RX7_118 cd_X7_prod ha56 [.inl v1, .inl t48, .inl t55] (some (.inl q56.1)) (aX7_prod _ _ hq56) (by decide) rfl (Nat.le_of_ble_eq_true rfl) rfl rfl ?_
    refine Wx.run ok kX7_makes 36 3 (lv' := [(5, .inl q56.1), (0, .inr (.inr (some v0))), (1, .inl v1), (2, .inl v2), (3, .inl v3), (4, .inl v4)]) (st' := [.inl q56.1, .inr (.inr (some v0))]) (pc' := 64) rfl ?_
    obtain ⟨a64, ha64, h⟩ := gob h
    obtain ⟨q64, hq64, h⟩ := gob h
    refine Wx.callV ok kX7_makes 39 rfl lm_RX7_159 cd_X7_isMade ha64 [.inl q56.1] (some (.inl q64.1)) (aX7_isMade _ _ hq64) (by decide) rfl (Nat.le_of_ble_eq_true rfl) rfl rfl ?_
    refine Wx.if_ne ok kX7_makes 40 (tgt := 130) rfl (by decide) h (fun hc67 h => ?_) (fun hc67 h => ?_)
    · refine Wx.run ok kX7_makes 41 2 (lv' := [(5, .inl q56.1), (0, .inr (.inr (some v0))), (1, .inl v1), (2, .inl v2), (3, .inl v3), (4, .inl v4)]) (st' := [.inl (64 : Int32), .inl q56.1]) (pc' := 74) rfl ?_
      refine Wx.icmp_ge ok kX7_makes 43 (tgt := 93) rfl (by decide) h (fun hc74 h => ?_) (fun hc74 h => ?_)
      · refine Wx.run ok kX7_makes 53 2 (lv' := [(5, .inl q56.1), (0, .inr (.inr (some v0))), (1, .inl v1), (2, .inl v2), (3, .inl v3), (4, .inl v4)]) (st' := [.inr (.inr (some v0)), .inr (.inr (some v0))]) (pc' := 95) rfl ?_
        refine Wx.getL ok kX7_makes 55 rfl lk_RX7_153_0 h (fun t95 h => ?_)
        refine Wx.run ok kX7_makes 56 6 (lv' := [(5, .inl q56.1), (0, .inr (.inr (some v0))), (1, .inl v1), (2, .inl v2), (3, .inl v3), (4, .inl v4)]) (st' := [.inr (.inl (t95 ||| ((1 : Int64) <<< (((q56.1 - (64 : Int32))).toInt64 &&& 63)))), .inr (.inr (some v0))]) (pc' := 106) rfl ?_
        refine Wx.put ok kX7_makes 62 rfl lk_RX7_153_1 (gFit_l _) h (fun w106 h => ?_)
        refine Wx.sub [1, 2, 3, 4, 5, 0] rfl ?_
        exact aX7_makes_b109 ok hres (F := F) r k136 hr hk136 _ _ _ _ _ _ _ h
      · refine Wx.run ok kX7_makes 44 2 (lv' := [(5, .inl q56.1), (0, .inr (.inr (some v0))), (1, .inl v1), (2, .inl v2), (3, .inl v3), (4, .inl v4)]) (st' := [.inr (.inr (some v0)), .inr (.inr (some v0))]) (pc' := 79) rfl ?_
        refine Wx.getL ok kX7_makes 46 rfl lk_RX7_149_0 h (fun t79 h => ?_)
        refine Wx.run ok kX7_makes 47 4 (lv' := [(5, .inl q56.1), (0, .inr (.inr (some v0))), (1, .inl v1), (2, .inl v2), (3, .inl v3), (4, .inl v4)]) (st' := [.inr (.inl (t79 ||| ((1 : Int64) <<< ((q56.1).toInt64 &&& 63)))), .inr (.inr (some v0))]) (pc' := 87) rfl ?_
        refine Wx.put ok kX7_makes 51 rfl lk_RX7_149_1 (gFit_l _) h (fun w87 h => ?_)
        refine Wx.jump ok kX7_makes 52 (tgt := 109) rfl (by decide) ?_
        refine Wx.sub [1, 2, 3, 4, 5, 0] rfl ?_
        exact aX7_makes_b109 ok hres (F := F) r k136 hr hk136 _ _ _ _ _ _ _ h
    · refine Wx.sub [1, 2, 3, 4, 5] rfl ?_
      exact aX7_makes_b130 ok hres (F := F) r k136 hr hk136 _ _ _ _ _ _ h
set_option maxRecDepth 100000 in
set_option maxHeartbeats 4000000 in
theorem aX7_makes_l35 {X : gX} (ok : gOk X cX7_makes RX7 6 none rmX7_makes) {res : gW} (hres : gRs X none res) {F : Nat} (k136 : Nat → Int32 → Int32 → Int32 → gW → Option (gW)) (hk136 : ∀ (v0 : Nat) (v1 : Int32) (v2 : Int32) (v3 : Int32) (w : gW), k136 v0 v1 v2 v3 w = some res → Wx X w 0 0 136 [(0, .inr (.inr (some v0))), (1, .inl v1), (2, .inl v2), (3, .inl v3)] []) : ∀ (n : Nat) (v0 : Nat) (v1 : Int32) (v2 : Int32) (v3 : Int32) (v4 : Int32) (w : gW), mX7_makes_l35 F k136 n v0 v1 v2 v3 v4 w = some res → Wx X w 0 0 35 [(0, .inr (.inr (some v0))), (1, .inl v1), (2, .inl v2), (3, .inl v3), (4, .inl v4)] [] := by
  intro n
  induction n with
  | zero => intro v0 v1 v2 v3 v4 w h; cases (show (none : Option (gW)) = some res from h)
  | succ n ih =>
    intro v0 v1 v2 v3 v4 w h
    exact aX7_makes_h35 ok hres (F := F) (mX7_makes_l35 F k136 n) k136 ih hk136 v0 v1 v2 v3 v4 w h
set_option maxRecDepth 100000 in
set_option maxHeartbeats 4000000 in
theorem aX7_makes_h24 {X : gX} (ok : gOk X cX7_makes RX7 6 none rmX7_makes) {res : gW} (hres : gRs X none res) {F : Nat} (r : Nat → Int32 → Int32 → Int32 → gW → Option (gW)) (hr : ∀ (v0 : Nat) (v1 : Int32) (v2 : Int32) (v3 : Int32) (w : gW), r v0 v1 v2 v3 w = some res → Wx X w 0 0 24 [(0, .inr (.inr (some v0))), (1, .inl v1), (2, .inl v2), (3, .inl v3)] []) : ∀ (v0 : Nat) (v1 : Int32) (v2 : Int32) (v3 : Int32) (w : gW), mX7_makes_h24 F r v0 v1 v2 v3 w = some res → Wx X w 0 0 24 [(0, .inr (.inr (some v0))), (1, .inl v1), (2, .inl v2), (3, .inl v3)] [] := by
  intro v0 v1 v2 v3 w h
  unfold mX7_makes_h24 at h
  refine Wx.run ok kX7_makes 16 2 (lv' := [(0, .inr (.inr (some v0))), (1, .inl v1), (2, .inl v2), (3, .inl v3)]) (st' := [.inr (.inr (some v0)), .inl v3]) (pc' := 26) rfl ?_
  refine Wx.getI ok kX7_makes 18 rfl lk_RX7_156_0 h (fun t26 h => ?_)
  refine Wx.icmp_ge ok kX7_makes 19 (tgt := 142) rfl (by decide) h (fun hc29 h => ?_) (fun hc29 h => ?_)
  · exact Wx.vreturn ok kX7_makes 79 rfl hres h (by decide)
  · refine Wx.run ok kX7_makes 20 2 (lv' := [(4, .inl (0 : Int32)), (0, .inr (.inr (some v0))), (1, .inl v1), (2, .inl v2), (3, .inl v3)]) (st' := []) (pc' := 35) rfl ?_
    refine Wx.sub [1, 2, 3, 4, 0] rfl ?_
    refine aX7_makes_l35 ok hres (F := F) _ ?_ F _ _ _ _ _ _ h
    · intro v0 v1 v2 v3 w h
      refine Wx.run ok kX7_makes 77 1 (lv' := [(3, .inl (v3 + (1 : Int32))), (0, .inr (.inr (some v0))), (1, .inl v1), (2, .inl v2)]) (st' := []) (pc' := 139) rfl ?_
      refine Wx.jump ok kX7_makes 78 (tgt := 24) rfl (by decide) ?_
      refine Wx.sub [1, 2, 3, 0] rfl ?_
      exact hr _ _ _ _ _ h
set_option maxRecDepth 100000 in
set_option maxHeartbeats 4000000 in
theorem aX7_makes_l24 {X : gX} (ok : gOk X cX7_makes RX7 6 none rmX7_makes) {res : gW} (hres : gRs X none res) {F : Nat} : ∀ (n : Nat) (v0 : Nat) (v1 : Int32) (v2 : Int32) (v3 : Int32) (w : gW), mX7_makes_l24 F n v0 v1 v2 v3 w = some res → Wx X w 0 0 24 [(0, .inr (.inr (some v0))), (1, .inl v1), (2, .inl v2), (3, .inl v3)] [] := by
  intro n
  induction n with
  | zero => intro v0 v1 v2 v3 w h; cases (show (none : Option (gW)) = some res from h)
  | succ n ih =>
    intro v0 v1 v2 v3 w h
    exact aX7_makes_h24 ok hres (F := F) (mX7_makes_l24 F n) ih v0 v1 v2 v3 w h
set_option maxRecDepth 100000 in
set_option maxHeartbeats 4000000 in
theorem aX7_makes (l : Launch) (G : gG) {F : Nat} {v0 : Nat} {v1 : Int32} {v2 : Int32} {w : gW} {res : gW} (h : mX7_makes F v0 v1 v2 w = some res) : gM l yX7_makes cX7_makes 6 none rmX7_makes G w (gTs [.inr (.inr (some v0)), .inl v1, .inl v2]) none res := by
  refine gM_of (y := yX7_makes) (by decide +kernel) (Nat.le_of_ble_eq_true rfl) ?_
  intro X ok hl hG hres hnm
  subst hl; subst hG
  unfold mX7_makes at h
  show Wx X w 0 0 0 [(0, .inr (.inr (some v0))), (1, .inl v1), (2, .inl v2)] []
  refine Wx.run ok kX7_makes 0 2 (lv' := [(0, .inr (.inr (some v0))), (1, .inl v1), (2, .inl v2)]) (st' := [.inr (.inl (1 : Int64)), .inr (.inr (some v0))]) (pc' := 2) rfl ?_
  refine Wx.put ok kX7_makes 2 rfl lk_RX7_149_1 (gFit_l _) h (fun w2 h => ?_)
  refine Wx.run ok kX7_makes 3 2 (lv' := [(0, .inr (.inr (some v0))), (1, .inl v1), (2, .inl v2)]) (st' := [.inr (.inl (0 : Int64)), .inr (.inr (some v0))]) (pc' := 7) rfl ?_
  refine Wx.put ok kX7_makes 5 rfl lk_RX7_153_1 (gFit_l _) h (fun w7 h => ?_)
  refine Wx.run ok kX7_makes 6 1 (lv' := [(0, .inr (.inr (some v0))), (1, .inl v1), (2, .inl v2)]) (st' := [.inr (.inr (some v0))]) (pc' := 11) rfl ?_
  refine Wx.getR ok kX7_makes 7 rfl lk_RX7_44_0 h (fun t11 h => ?_)
  refine Wx.run ok kX7_makes 8 2 (lv' := [(0, .inr (.inr (some v0))), (1, .inl v1), (2, .inl v2)]) (st' := [.inl (0 : Int32), .inl (0 : Int32), .inr (.inr t11)]) (pc' := 16) rfl ?_
  refine Wx.iast ok kX7_makes 10 rfl h (fun w16 h => ?_)
  refine Wx.run ok kX7_makes 11 2 (lv' := [(0, .inr (.inr (some v0))), (1, .inl v1), (2, .inl v2)]) (st' := [.inl (1 : Int32), .inr (.inr (some v0))]) (pc' := 19) rfl ?_
  refine Wx.put ok kX7_makes 13 rfl lk_RX7_156_1 (gFit_i _) h (fun w19 h => ?_)
  refine Wx.run ok kX7_makes 14 2 (lv' := [(3, .inl (0 : Int32)), (0, .inr (.inr (some v0))), (1, .inl v1), (2, .inl v2)]) (st' := []) (pc' := 24) rfl ?_
  refine Wx.sub [1, 2, 3, 0] rfl ?_
  refine aX7_makes_l24 ok hres (F := F) F _ _ _ _ _ h
set_option maxRecDepth 100000 in
set_option maxHeartbeats 4000000 in
theorem aX7_orderOf_h5 {X : gX} (ok : gOk X cX7_orderOf RX7 5 (some .int) rmX7_orderOf) {res : Int32 × gW} (hres : gRs X (some (.int res.1)) res.2) {F : Nat} (r : Nat → Int32 → Int32 → Int32 → Int32 → gW → Option (Int32 × gW)) (hr : ∀ (v0 : Nat) (v1 : Int32) (v2 : Int32) (v3 : Int32) (v4 : Int32) (w : gW), r v0 v1 v2 v3 v4 w = some res → Wx X w 0 0 5 [(0, .inr (.inr (some v0))), (1, .inl v1), (2, .inl v2), (3, .inl v3), (4, .inl v4)] []) : ∀ (v0 : Nat) (v1 : Int32) (v2 : Int32) (v3 : Int32) (v4 : Int32) (w : gW), mX7_orderOf_h5 F r v0 v1 v2 v3 v4 w = some res → Wx X w 0 0 5 [(0, .inr (.inr (some v0))), (1, .inl v1), (2, .inl v2), (3, .inl v3), (4, .inl v4)] [] := by
  intro v0 v1 v2 v3 v4 w h
  unfold mX7_orderOf_h5 at h
  refine Wx.run ok kX7_orderOf 4 1 (lv' := [(0, .inr (.inr (some v0))), (1, .inl v1), (2, .inl v2), (3, .inl v3), (4, .inl v4)]) (st' := [.inl v4]) (pc' := 7) rfl ?_
  refine Wx.if_eq ok kX7_orderOf 5 (tgt := 26) rfl (by decide) h (fun hc7 h => ?_) (fun hc7 h => ?_)
  · refine Wx.run ok kX7_orderOf 14 1 (lv' := [(0, .inr (.inr (some v0))), (1, .inl v1), (2, .inl v2), (3, .inl v3), (4, .inl v4)]) (st' := [.inl v3]) (pc' := 27) rfl ?_
    exact Wx.ireturn ok kX7_orderOf 15 rfl hres h (by decide)
  · refine Wx.run ok kX7_orderOf 6 4 (lv' := [(0, .inr (.inr (some v0))), (1, .inl v1), (2, .inl v2), (3, .inl v3), (4, .inl v4)]) (st' := [.inl v2, .inl v4, .inl v1, .inr (.inr (some v0))]) (pc' := 15) rfl ?_
    obtain ⟨a15, ha15, h⟩ := gob h
    obtain ⟨q15, hq15, h⟩ := gob h
    refine Wx.callV ok kX7_orderOf 10 rfl lm_RX7_118 cd_X7_prod ha15 [.inl v1, .inl v4, .inl v2] (some (.inl q15.1)) (aX7_prod _ _ hq15) (by decide) rfl (Nat.le_of_ble_eq_true rfl) rfl rfl ?_
    refine Wx.run ok kX7_orderOf 11 2 (lv' := [(3, .inl (v3 + (1 : Int32))), (4, .inl q15.1), (0, .inr (.inr (some v0))), (1, .inl v1), (2, .inl v2)]) (st' := []) (pc' := 23) rfl ?_
    refine Wx.jump ok kX7_orderOf 13 (tgt := 5) rfl (by decide) ?_
    refine Wx.sub [2, 3, 4, 0, 1] rfl ?_
    exact hr _ _ _ _ _ _ h
set_option maxRecDepth 100000 in
set_option maxHeartbeats 4000000 in
theorem aX7_orderOf_l5 {X : gX} (ok : gOk X cX7_orderOf RX7 5 (some .int) rmX7_orderOf) {res : Int32 × gW} (hres : gRs X (some (.int res.1)) res.2) {F : Nat} : ∀ (n : Nat) (v0 : Nat) (v1 : Int32) (v2 : Int32) (v3 : Int32) (v4 : Int32) (w : gW), mX7_orderOf_l5 F n v0 v1 v2 v3 v4 w = some res → Wx X w 0 0 5 [(0, .inr (.inr (some v0))), (1, .inl v1), (2, .inl v2), (3, .inl v3), (4, .inl v4)] [] := by
  intro n
  induction n with
  | zero => intro v0 v1 v2 v3 v4 w h; cases (show (none : Option (Int32 × gW)) = some res from h)
  | succ n ih =>
    intro v0 v1 v2 v3 v4 w h
    exact aX7_orderOf_h5 ok hres (F := F) (mX7_orderOf_l5 F n) ih v0 v1 v2 v3 v4 w h
set_option maxRecDepth 100000 in
set_option maxHeartbeats 4000000 in
theorem aX7_orderOf (l : Launch) (G : gG) {F : Nat} {v0 : Nat} {v1 : Int32} {v2 : Int32} {w : gW} {res : Int32 × gW} (h : mX7_orderOf F v0 v1 v2 w = some res) : gM l yX7_orderOf cX7_orderOf 5 (some .int) rmX7_orderOf G w (gTs [.inr (.inr (some v0)), .inl v1, .inl v2]) (some (.int res.1)) res.2 := by
  refine gM_of (y := yX7_orderOf) (by decide +kernel) (Nat.le_of_ble_eq_true rfl) ?_
  intro X ok hl hG hres hnm
  subst hl; subst hG
  unfold mX7_orderOf at h
  show Wx X w 0 0 0 [(0, .inr (.inr (some v0))), (1, .inl v1), (2, .inl v2)] []
  refine Wx.run ok kX7_orderOf 0 4 (lv' := [(4, .inl v2), (3, .inl (1 : Int32)), (0, .inr (.inr (some v0))), (1, .inl v1), (2, .inl v2)]) (st' := []) (pc' := 5) rfl ?_
  refine Wx.sub [2, 3, 4, 1, 0] rfl ?_
  refine aX7_orderOf_l5 ok hres (F := F) F _ _ _ _ _ _ h
set_option maxRecDepth 100000 in
set_option maxHeartbeats 4000000 in
theorem aX7_quaternions_b134 {X : gX} (ok : gOk X cX7_quaternions RX7 8 (some .int) rmX7_quaternions) {res : Int32 × gW} (hres : gRs X (some (.int res.1)) res.2) {F : Nat} (r : Nat → Int32 → Int32 → gW → Option (Int32 × gW)) (k144 : Nat → Int32 → gW → Option (Int32 × gW)) (hr : ∀ (v0 : Nat) (v1 : Int32) (v2 : Int32) (w : gW), r v0 v1 v2 w = some res → Wx X w 0 0 22 [(0, .inr (.inr (some v0))), (1, .inl v1), (2, .inl v2)] []) (hk144 : ∀ (v0 : Nat) (v1 : Int32) (w : gW), k144 v0 v1 w = some res → Wx X w 0 0 144 [(0, .inr (.inr (some v0))), (1, .inl v1)] []) : ∀ (v0 : Nat) (v1 : Int32) (v2 : Int32) (s0 : Option Nat) (s1 : Int32) (s2 : Int32) (s3 : Int32) (s4 : Int32) (w : gW), mX7_quaternions_b134 F r k144 v0 v1 v2 s0 s1 s2 s3 s4 w = some res → Wx X w 0 0 134 [(0, .inr (.inr (some v0))), (1, .inl v1), (2, .inl v2)] [.inl s4, .inl s3, .inl s2, .inl s1, .inr (.inr s0)] := by
  intro v0 v1 v2 s0 s1 s2 s3 s4 w h
  unfold mX7_quaternions_b134 at h
  refine Wx.run ok kX7_quaternions 80 1 (lv' := [(0, .inr (.inr (some v0))), (1, .inl v1), (2, .inl v2)]) (st' := [.inl (s3 + s4), .inl s2, .inl s1, .inr (.inr s0)]) (pc' := 135) rfl ?_
  obtain ⟨a135, ha135, h⟩ := gob h
  obtain ⟨q135, hq135, h⟩ := gob h
  refine Wx.callV ok kX7_quaternions 81 rfl lm_RX7_104 cd_X7_set ha135 [.inl s1, .inl s2, .inl (s3 + s4)] none (aX7_set _ _ hq135) (by decide) rfl (Nat.le_of_ble_eq_true rfl) rfl rfl ?_
  refine Wx.run ok kX7_quaternions 82 1 (lv' := [(2, .inl (v2 + (1 : Int32))), (0, .inr (.inr (some v0))), (1, .inl v1)]) (st' := []) (pc' := 141) rfl ?_
  refine Wx.jump ok kX7_quaternions 83 (tgt := 22) rfl (by decide) ?_
  refine Wx.sub [1, 2, 0] rfl ?_
  exact hr _ _ _ _ h
set_option maxRecDepth 100000 in
set_option maxHeartbeats 4000000 in
theorem aX7_quaternions_b113 {X : gX} (ok : gOk X cX7_quaternions RX7 8 (some .int) rmX7_quaternions) {res : Int32 × gW} (hres : gRs X (some (.int res.1)) res.2) {F : Nat} (r : Nat → Int32 → Int32 → gW → Option (Int32 × gW)) (k144 : Nat → Int32 → gW → Option (Int32 × gW)) (hr : ∀ (v0 : Nat) (v1 : Int32) (v2 : Int32) (w : gW), r v0 v1 v2 w = some res → Wx X w 0 0 22 [(0, .inr (.inr (some v0))), (1, .inl v1), (2, .inl v2)] []) (hk144 : ∀ (v0 : Nat) (v1 : Int32) (w : gW), k144 v0 v1 w = some res → Wx X w 0 0 144 [(0, .inr (.inr (some v0))), (1, .inl v1)] []) : ∀ (v0 : Nat) (v1 : Int32) (v2 : Int32) (v5 : Int32) (v6 : Int32) (s0 : Int32) (w : gW), mX7_quaternions_b113 F r k144 v0 v1 v2 v5 v6 s0 w = some res → Wx X w 0 0 113 [(0, .inr (.inr (some v0))), (1, .inl v1), (2, .inl v2), (5, .inl v5), (6, .inl v6)] [.inl s0] := by
  intro v0 v1 v2 v5 v6 s0 w h
  unfold mX7_quaternions_b113 at h
  refine Wx.run ok kX7_quaternions 68 6 (lv' := [(7, .inl s0), (0, .inr (.inr (some v0))), (1, .inl v1), (2, .inl v2), (5, .inl v5), (6, .inl v6)]) (st' := [.inl s0, .inl v6, .inl v2, .inl v1, .inr (.inr (some v0))]) (pc' := 122) rfl ?_
  refine Wx.if_eq ok kX7_quaternions 74 (tgt := 132) rfl (by decide) h (fun hc122 h => ?_) (fun hc122 h => ?_)
  · refine Wx.run ok kX7_quaternions 79 1 (lv' := [(7, .inl s0), (0, .inr (.inr (some v0))), (1, .inl v1), (2, .inl v2), (5, .inl v5), (6, .inl v6)]) (st' := [.inl v5, .inl v6, .inl v2, .inl v1, .inr (.inr (some v0))]) (pc' := 134) rfl ?_
    refine Wx.sub [1, 2, 3] rfl ?_
    exact aX7_quaternions_b134 ok hres (F := F) r k144 hr hk144 _ _ _ _ _ _ _ _ _ h
  · refine Wx.run ok kX7_quaternions 75 3 (lv' := [(7, .inl s0), (0, .inr (.inr (some v0))), (1, .inl v1), (2, .inl v2), (5, .inl v5), (6, .inl v6)]) (st' := [.inl (v5 ^^^ (4 : Int32)), .inl v6, .inl v2, .inl v1, .inr (.inr (some v0))]) (pc' := 129) rfl ?_
    refine Wx.jump ok kX7_quaternions 78 (tgt := 134) rfl (by decide) ?_
    refine Wx.sub [1, 2, 3] rfl ?_
    exact aX7_quaternions_b134 ok hres (F := F) r k144 hr hk144 _ _ _ _ _ _ _ _ _ h
set_option maxRecDepth 100000 in
set_option maxHeartbeats 4000000 in
theorem aX7_quaternions_b112 {X : gX} (ok : gOk X cX7_quaternions RX7 8 (some .int) rmX7_quaternions) {res : Int32 × gW} (hres : gRs X (some (.int res.1)) res.2) {F : Nat} (r : Nat → Int32 → Int32 → gW → Option (Int32 × gW)) (k144 : Nat → Int32 → gW → Option (Int32 × gW)) (hr : ∀ (v0 : Nat) (v1 : Int32) (v2 : Int32) (w : gW), r v0 v1 v2 w = some res → Wx X w 0 0 22 [(0, .inr (.inr (some v0))), (1, .inl v1), (2, .inl v2)] []) (hk144 : ∀ (v0 : Nat) (v1 : Int32) (w : gW), k144 v0 v1 w = some res → Wx X w 0 0 144 [(0, .inr (.inr (some v0))), (1, .inl v1)] []) : ∀ (v0 : Nat) (v1 : Int32) (v2 : Int32) (v5 : Int32) (v6 : Int32) (w : gW), mX7_quaternions_b112 F r k144 v0 v1 v2 v5 v6 w = some res → Wx X w 0 0 112 [(0, .inr (.inr (some v0))), (1, .inl v1), (2, .inl v2), (5, .inl v5), (6, .inl v6)] [] := by
  intro v0 v1 v2 v5 v6 w h
  unfold mX7_quaternions_b112 at h
  refine Wx.run ok kX7_quaternions 67 1 (lv' := [(0, .inr (.inr (some v0))), (1, .inl v1), (2, .inl v2), (5, .inl v5), (6, .inl v6)]) (st' := [.inl (0 : Int32)]) (pc' := 113) rfl ?_
  exact aX7_quaternions_b113 ok hres (F := F) r k144 hr hk144 _ _ _ _ _ _ _ h
set_option maxRecDepth 100000 in
set_option maxHeartbeats 4000000 in
theorem aX7_quaternions_b108 {X : gX} (ok : gOk X cX7_quaternions RX7 8 (some .int) rmX7_quaternions) {res : Int32 × gW} (hres : gRs X (some (.int res.1)) res.2) {F : Nat} (r : Nat → Int32 → Int32 → gW → Option (Int32 × gW)) (k144 : Nat → Int32 → gW → Option (Int32 × gW)) (hr : ∀ (v0 : Nat) (v1 : Int32) (v2 : Int32) (w : gW), r v0 v1 v2 w = some res → Wx X w 0 0 22 [(0, .inr (.inr (some v0))), (1, .inl v1), (2, .inl v2)] []) (hk144 : ∀ (v0 : Nat) (v1 : Int32) (w : gW), k144 v0 v1 w = some res → Wx X w 0 0 144 [(0, .inr (.inr (some v0))), (1, .inl v1)] []) : ∀ (v0 : Nat) (v1 : Int32) (v2 : Int32) (v5 : Int32) (v6 : Int32) (w : gW), mX7_quaternions_b108 F r k144 v0 v1 v2 v5 v6 w = some res → Wx X w 0 0 108 [(0, .inr (.inr (some v0))), (1, .inl v1), (2, .inl v2), (5, .inl v5), (6, .inl v6)] [] := by
  intro v0 v1 v2 v5 v6 w h
  unfold mX7_quaternions_b108 at h
  refine Wx.run ok kX7_quaternions 65 1 (lv' := [(0, .inr (.inr (some v0))), (1, .inl v1), (2, .inl v2), (5, .inl v5), (6, .inl v6)]) (st' := [.inl (1 : Int32)]) (pc' := 109) rfl ?_
  refine Wx.jump ok kX7_quaternions 66 (tgt := 113) rfl (by decide) ?_
  exact aX7_quaternions_b113 ok hres (F := F) r k144 hr hk144 _ _ _ _ _ _ _ h
set_option maxRecDepth 100000 in
set_option maxHeartbeats 4000000 in
theorem aX7_quaternions_b79 {X : gX} (ok : gOk X cX7_quaternions RX7 8 (some .int) rmX7_quaternions) {res : Int32 × gW} (hres : gRs X (some (.int res.1)) res.2) {F : Nat} (r : Nat → Int32 → Int32 → gW → Option (Int32 × gW)) (k144 : Nat → Int32 → gW → Option (Int32 × gW)) (hr : ∀ (v0 : Nat) (v1 : Int32) (v2 : Int32) (w : gW), r v0 v1 v2 w = some res → Wx X w 0 0 22 [(0, .inr (.inr (some v0))), (1, .inl v1), (2, .inl v2)] []) (hk144 : ∀ (v0 : Nat) (v1 : Int32) (w : gW), k144 v0 v1 w = some res → Wx X w 0 0 144 [(0, .inr (.inr (some v0))), (1, .inl v1)] []) : ∀ (v0 : Nat) (v1 : Int32) (v2 : Int32) (v3 : Int32) (v4 : Int32) (v5 : Int32) (s0 : Int32) (w : gW), mX7_quaternions_b79 F r k144 v0 v1 v2 v3 v4 v5 s0 w = some res → Wx X w 0 0 79 [(0, .inr (.inr (some v0))), (1, .inl v1), (2, .inl v2), (3, .inl v3), (4, .inl v4), (5, .inl v5)] [.inl s0] := by
  intro v0 v1 v2 v3 v4 v5 s0 w h
  unfold mX7_quaternions_b79 at h
  refine Wx.run ok kX7_quaternions 48 2 (lv' := [(6, .inl s0), (0, .inr (.inr (some v0))), (1, .inl v1), (2, .inl v2), (3, .inl v3), (4, .inl v4), (5, .inl v5)]) (st' := [.inl v3]) (pc' := 82) rfl ?_
  refine Wx.if_le ok kX7_quaternions 50 (tgt := 112) rfl (by decide) h (fun hc82 h => ?_) (fun hc82 h => ?_)
  · refine Wx.sub [1, 2, 3, 6, 0] rfl ?_
    exact aX7_quaternions_b112 ok hres (F := F) r k144 hr hk144 _ _ _ _ _ _ h
  · refine Wx.run ok kX7_quaternions 51 1 (lv' := [(6, .inl s0), (0, .inr (.inr (some v0))), (1, .inl v1), (2, .inl v2), (3, .inl v3), (4, .inl v4), (5, .inl v5)]) (st' := [.inl v4]) (pc' := 87) rfl ?_
    refine Wx.if_le ok kX7_quaternions 52 (tgt := 112) rfl (by decide) h (fun hc87 h => ?_) (fun hc87 h => ?_)
    · refine Wx.sub [1, 2, 3, 6, 0] rfl ?_
      exact aX7_quaternions_b112 ok hres (F := F) r k144 hr hk144 _ _ _ _ _ _ h
    · refine Wx.run ok kX7_quaternions 53 2 (lv' := [(6, .inl s0), (0, .inr (.inr (some v0))), (1, .inl v1), (2, .inl v2), (3, .inl v3), (4, .inl v4), (5, .inl v5)]) (st' := [.inl v4, .inl v3]) (pc' := 93) rfl ?_
      refine Wx.icmp_eq ok kX7_quaternions 55 (tgt := 108) rfl (by decide) h (fun hc93 h => ?_) (fun hc93 h => ?_)
      · refine Wx.sub [1, 2, 3, 6, 0] rfl ?_
        exact aX7_quaternions_b108 ok hres (F := F) r k144 hr hk144 _ _ _ _ _ _ h
      · refine Wx.run ok kX7_quaternions 56 6 (lv' := [(6, .inl s0), (0, .inr (.inr (some v0))), (1, .inl v1), (2, .inl v2), (3, .inl v3), (4, .inl v4), (5, .inl v5)]) (st' := [.inl (3 : Int32), .inl ((v4 - v3) + (3 : Int32))]) (pc' := 103) rfl ?_
        refine Wx.irem ok kX7_quaternions 62 rfl h (fun t103 h => ?_)
        refine Wx.run ok kX7_quaternions 63 1 (lv' := [(6, .inl s0), (0, .inr (.inr (some v0))), (1, .inl v1), (2, .inl v2), (3, .inl v3), (4, .inl v4), (5, .inl v5)]) (st' := [.inl (2 : Int32), .inl t103]) (pc' := 105) rfl ?_
        refine Wx.icmp_ne ok kX7_quaternions 64 (tgt := 112) rfl (by decide) h (fun hc105 h => ?_) (fun hc105 h => ?_)
        · refine Wx.sub [1, 2, 3, 6, 0] rfl ?_
          exact aX7_quaternions_b108 ok hres (F := F) r k144 hr hk144 _ _ _ _ _ _ h
        · refine Wx.sub [1, 2, 3, 6, 0] rfl ?_
          exact aX7_quaternions_b112 ok hres (F := F) r k144 hr hk144 _ _ _ _ _ _ h
set_option maxRecDepth 100000 in
set_option maxHeartbeats 4000000 in
theorem aX7_quaternions_h22 {X : gX} (ok : gOk X cX7_quaternions RX7 8 (some .int) rmX7_quaternions) {res : Int32 × gW} (hres : gRs X (some (.int res.1)) res.2) {F : Nat} (r : Nat → Int32 → Int32 → gW → Option (Int32 × gW)) (k144 : Nat → Int32 → gW → Option (Int32 × gW)) (hr : ∀ (v0 : Nat) (v1 : Int32) (v2 : Int32) (w : gW), r v0 v1 v2 w = some res → Wx X w 0 0 22 [(0, .inr (.inr (some v0))), (1, .inl v1), (2, .inl v2)] []) (hk144 : ∀ (v0 : Nat) (v1 : Int32) (w : gW), k144 v0 v1 w = some res → Wx X w 0 0 144 [(0, .inr (.inr (some v0))), (1, .inl v1)] []) : ∀ (v0 : Nat) (v1 : Int32) (v2 : Int32) (w : gW), mX7_quaternions_h22 F r k144 v0 v1 v2 w = some res → Wx X w 0 0 22 [(0, .inr (.inr (some v0))), (1, .inl v1), (2, .inl v2)] [] := by
  intro v0 v1 v2 w h
  unfold mX7_quaternions_h22 at h
  refine Wx.run ok kX7_quaternions 13 2 (lv' := [(0, .inr (.inr (some v0))), (1, .inl v1), (2, .inl v2)]) (st' := [.inl (8 : Int32), .inl v2]) (pc' := 25) rfl ?_
  refine Wx.icmp_ge ok kX7_quaternions 15 (tgt := 144) rfl (by decide) h (fun hc25 h => ?_) (fun hc25 h => ?_)
  · refine Wx.sub [0, 1] rfl ?_
    exact hk144 _ _ _ h
  · refine Wx.run ok kX7_quaternions 16 15 (lv' := [(5, .inl ((v1 ^^^ v2) &&& (4 : Int32))), (4, .inl (v2 &&& (3 : Int32))), (3, .inl (v1 &&& (3 : Int32))), (0, .inr (.inr (some v0))), (1, .inl v1), (2, .inl v2)]) (st' := [.inl (v1 &&& (3 : Int32))]) (pc' := 45) rfl ?_
    refine Wx.if_ne ok kX7_quaternions 31 (tgt := 53) rfl (by decide) h (fun hc45 h => ?_) (fun hc45 h => ?_)
    · refine Wx.run ok kX7_quaternions 32 1 (lv' := [(5, .inl ((v1 ^^^ v2) &&& (4 : Int32))), (4, .inl (v2 &&& (3 : Int32))), (3, .inl (v1 &&& (3 : Int32))), (0, .inr (.inr (some v0))), (1, .inl v1), (2, .inl v2)]) (st' := [.inl (v2 &&& (3 : Int32))]) (pc' := 50) rfl ?_
      refine Wx.jump ok kX7_quaternions 33 (tgt := 79) rfl (by decide) ?_
      refine Wx.sub [3, 4, 5, 2, 1, 0] rfl ?_
      exact aX7_quaternions_b79 ok hres (F := F) r k144 hr hk144 _ _ _ _ _ _ _ _ h
    · refine Wx.run ok kX7_quaternions 34 1 (lv' := [(5, .inl ((v1 ^^^ v2) &&& (4 : Int32))), (4, .inl (v2 &&& (3 : Int32))), (3, .inl (v1 &&& (3 : Int32))), (0, .inr (.inr (some v0))), (1, .inl v1), (2, .inl v2)]) (st' := [.inl (v2 &&& (3 : Int32))]) (pc' := 55) rfl ?_
      refine Wx.if_ne ok kX7_quaternions 35 (tgt := 62) rfl (by decide) h (fun hc55 h => ?_) (fun hc55 h => ?_)
      · refine Wx.run ok kX7_quaternions 36 1 (lv' := [(5, .inl ((v1 ^^^ v2) &&& (4 : Int32))), (4, .inl (v2 &&& (3 : Int32))), (3, .inl (v1 &&& (3 : Int32))), (0, .inr (.inr (some v0))), (1, .inl v1), (2, .inl v2)]) (st' := [.inl (v1 &&& (3 : Int32))]) (pc' := 59) rfl ?_
        refine Wx.jump ok kX7_quaternions 37 (tgt := 79) rfl (by decide) ?_
        refine Wx.sub [3, 4, 5, 2, 1, 0] rfl ?_
        exact aX7_quaternions_b79 ok hres (F := F) r k144 hr hk144 _ _ _ _ _ _ _ _ h
      · refine Wx.run ok kX7_quaternions 38 2 (lv' := [(5, .inl ((v1 ^^^ v2) &&& (4 : Int32))), (4, .inl (v2 &&& (3 : Int32))), (3, .inl (v1 &&& (3 : Int32))), (0, .inr (.inr (some v0))), (1, .inl v1), (2, .inl v2)]) (st' := [.inl (v2 &&& (3 : Int32)), .inl (v1 &&& (3 : Int32))]) (pc' := 65) rfl ?_
        refine Wx.icmp_ne ok kX7_quaternions 40 (tgt := 72) rfl (by decide) h (fun hc65 h => ?_) (fun hc65 h => ?_)
        · refine Wx.run ok kX7_quaternions 41 1 (lv' := [(5, .inl ((v1 ^^^ v2) &&& (4 : Int32))), (4, .inl (v2 &&& (3 : Int32))), (3, .inl (v1 &&& (3 : Int32))), (0, .inr (.inr (some v0))), (1, .inl v1), (2, .inl v2)]) (st' := [.inl (0 : Int32)]) (pc' := 69) rfl ?_
          refine Wx.jump ok kX7_quaternions 42 (tgt := 79) rfl (by decide) ?_
          refine Wx.sub [3, 4, 5, 2, 1, 0] rfl ?_
          exact aX7_quaternions_b79 ok hres (F := F) r k144 hr hk144 _ _ _ _ _ _ _ _ h
        · refine Wx.run ok kX7_quaternions 43 5 (lv' := [(5, .inl ((v1 ^^^ v2) &&& (4 : Int32))), (4, .inl (v2 &&& (3 : Int32))), (3, .inl (v1 &&& (3 : Int32))), (0, .inr (.inr (some v0))), (1, .inl v1), (2, .inl v2)]) (st' := [.inl (((6 : Int32) - (v1 &&& (3 : Int32))) - (v2 &&& (3 : Int32)))]) (pc' := 79) rfl ?_
          refine Wx.sub [3, 4, 5, 2, 1, 0] rfl ?_
          exact aX7_quaternions_b79 ok hres (F := F) r k144 hr hk144 _ _ _ _ _ _ _ _ h
set_option maxRecDepth 100000 in
set_option maxHeartbeats 4000000 in
theorem aX7_quaternions_l22 {X : gX} (ok : gOk X cX7_quaternions RX7 8 (some .int) rmX7_quaternions) {res : Int32 × gW} (hres : gRs X (some (.int res.1)) res.2) {F : Nat} (k144 : Nat → Int32 → gW → Option (Int32 × gW)) (hk144 : ∀ (v0 : Nat) (v1 : Int32) (w : gW), k144 v0 v1 w = some res → Wx X w 0 0 144 [(0, .inr (.inr (some v0))), (1, .inl v1)] []) : ∀ (n : Nat) (v0 : Nat) (v1 : Int32) (v2 : Int32) (w : gW), mX7_quaternions_l22 F k144 n v0 v1 v2 w = some res → Wx X w 0 0 22 [(0, .inr (.inr (some v0))), (1, .inl v1), (2, .inl v2)] [] := by
  intro n
  induction n with
  | zero => intro v0 v1 v2 w h; cases (show (none : Option (Int32 × gW)) = some res from h)
  | succ n ih =>
    intro v0 v1 v2 w h
    exact aX7_quaternions_h22 ok hres (F := F) (mX7_quaternions_l22 F k144 n) k144 ih hk144 v0 v1 v2 w h
set_option maxRecDepth 100000 in
set_option maxHeartbeats 4000000 in
theorem aX7_quaternions_h14 {X : gX} (ok : gOk X cX7_quaternions RX7 8 (some .int) rmX7_quaternions) {res : Int32 × gW} (hres : gRs X (some (.int res.1)) res.2) {F : Nat} (r : Nat → Int32 → gW → Option (Int32 × gW)) (k150 : Nat → gW → Option (Int32 × gW)) (hr : ∀ (v0 : Nat) (v1 : Int32) (w : gW), r v0 v1 w = some res → Wx X w 0 0 14 [(0, .inr (.inr (some v0))), (1, .inl v1)] []) (hk150 : ∀ (v0 : Nat) (w : gW), k150 v0 w = some res → Wx X w 0 0 150 [(0, .inr (.inr (some v0)))] []) : ∀ (v0 : Nat) (v1 : Int32) (w : gW), mX7_quaternions_h14 F r k150 v0 v1 w = some res → Wx X w 0 0 14 [(0, .inr (.inr (some v0))), (1, .inl v1)] [] := by
  intro v0 v1 w h
  unfold mX7_quaternions_h14 at h
  refine Wx.run ok kX7_quaternions 8 2 (lv' := [(0, .inr (.inr (some v0))), (1, .inl v1)]) (st' := [.inl (8 : Int32), .inl v1]) (pc' := 17) rfl ?_
  refine Wx.icmp_ge ok kX7_quaternions 10 (tgt := 150) rfl (by decide) h (fun hc17 h => ?_) (fun hc17 h => ?_)
  · refine Wx.sub [0] rfl ?_
    exact hk150 _ _ h
  · refine Wx.run ok kX7_quaternions 11 2 (lv' := [(2, .inl (0 : Int32)), (0, .inr (.inr (some v0))), (1, .inl v1)]) (st' := []) (pc' := 22) rfl ?_
    refine Wx.sub [1, 2, 0] rfl ?_
    refine aX7_quaternions_l22 ok hres (F := F) _ ?_ F _ _ _ _ h
    · intro v0 v1 w h
      refine Wx.run ok kX7_quaternions 84 1 (lv' := [(1, .inl (v1 + (1 : Int32))), (0, .inr (.inr (some v0)))]) (st' := []) (pc' := 147) rfl ?_
      refine Wx.jump ok kX7_quaternions 85 (tgt := 14) rfl (by decide) ?_
      refine Wx.sub [1, 0] rfl ?_
      exact hr _ _ _ h
set_option maxRecDepth 100000 in
set_option maxHeartbeats 4000000 in
theorem aX7_quaternions_l14 {X : gX} (ok : gOk X cX7_quaternions RX7 8 (some .int) rmX7_quaternions) {res : Int32 × gW} (hres : gRs X (some (.int res.1)) res.2) {F : Nat} (k150 : Nat → gW → Option (Int32 × gW)) (hk150 : ∀ (v0 : Nat) (w : gW), k150 v0 w = some res → Wx X w 0 0 150 [(0, .inr (.inr (some v0)))] []) : ∀ (n : Nat) (v0 : Nat) (v1 : Int32) (w : gW), mX7_quaternions_l14 F k150 n v0 v1 w = some res → Wx X w 0 0 14 [(0, .inr (.inr (some v0))), (1, .inl v1)] [] := by
  intro n
  induction n with
  | zero => intro v0 v1 w h; cases (show (none : Option (Int32 × gW)) = some res from h)
  | succ n ih =>
    intro v0 v1 w h
    exact aX7_quaternions_h14 ok hres (F := F) (mX7_quaternions_l14 F k150 n) k150 ih hk150 v0 v1 w h
set_option maxRecDepth 100000 in
set_option maxHeartbeats 4000000 in
theorem aX7_quaternions (l : Launch) (G : gG) {F : Nat} {v0 : Nat} {w : gW} {res : Int32 × gW} (h : mX7_quaternions F v0 w = some res) : gM l yX7_quaternions cX7_quaternions 8 (some .int) rmX7_quaternions G w (gTs [.inr (.inr (some v0))]) (some (.int res.1)) res.2 := by
  refine gM_of (y := yX7_quaternions) (by decide +kernel) (Nat.le_of_ble_eq_true rfl) ?_
  intro X ok hl hG hres hnm
  subst hl; subst hG
  unfold mX7_quaternions at h
  show Wx X w 0 0 0 [(0, .inr (.inr (some v0)))] []
  refine Wx.run ok kX7_quaternions 0 1 (lv' := [(0, .inr (.inr (some v0)))]) (st' := [.inr (.inr (some v0))]) (pc' := 1) rfl ?_
  refine Wx.getI ok kX7_quaternions 1 rfl lk_RX7_95_0 h (fun t1 h => ?_)
  refine Wx.run ok kX7_quaternions 2 1 (lv' := [(0, .inr (.inr (some v0)))]) (st' := [.inl (8 : Int32), .inl t1]) (pc' := 6) rfl ?_
  refine Wx.icmp_ne ok kX7_quaternions 3 (tgt := 12) rfl (by decide) h (fun hc6 h => ?_) (fun hc6 h => ?_)
  · refine Wx.run ok kX7_quaternions 4 1 (lv' := [(0, .inr (.inr (some v0)))]) (st' := [.inl (-3 : Int32)]) (pc' := 11) rfl ?_
    exact Wx.ireturn ok kX7_quaternions 5 rfl hres h (by decide)
  · refine Wx.run ok kX7_quaternions 6 2 (lv' := [(1, .inl (0 : Int32)), (0, .inr (.inr (some v0)))]) (st' := []) (pc' := 14) rfl ?_
    refine Wx.sub [1, 0] rfl ?_
    refine aX7_quaternions_l14 ok hres (F := F) _ ?_ F _ _ _ h
    · intro v0 w h
      refine Wx.run ok kX7_quaternions 86 2 (lv' := [(0, .inr (.inr (some v0)))]) (st' := [.inl (8 : Int32), .inr (.inr (some v0))]) (pc' := 153) rfl ?_
      obtain ⟨a153, ha153, h⟩ := gob h
      obtain ⟨q153, hq153, h⟩ := gob h
      refine Wx.callV ok kX7_quaternions 88 rfl lm_RX7_108 cd_X7_added ha153 [.inl (8 : Int32)] (some (.inl q153.1)) (aX7_added _ _ hq153) (by decide) rfl (Nat.le_of_ble_eq_true rfl) rfl rfl ?_
      exact Wx.ireturn ok kX7_quaternions 89 rfl hres h (by decide)
set_option maxRecDepth 100000 in
set_option maxHeartbeats 4000000 in
theorem aX7_settles_h6 {X : gX} (ok : gOk X cX7_settles RX7 6 none rmX7_settles) {res : gW} (hres : gRs X none res) {F : Nat} (r : Nat → Int32 → gW → Option (gW)) (k29 : Nat → Int32 → gW → Option (gW)) (hr : ∀ (v0 : Nat) (v1 : Int32) (w : gW), r v0 v1 w = some res → Wx X w 0 0 6 [(0, .inr (.inr (some v0))), (1, .inl v1)] []) (hk29 : ∀ (v0 : Nat) (v1 : Int32) (w : gW), k29 v0 v1 w = some res → Wx X w 0 0 29 [(0, .inr (.inr (some v0))), (1, .inl v1)] []) : ∀ (v0 : Nat) (v1 : Int32) (w : gW), mX7_settles_h6 F r k29 v0 v1 w = some res → Wx X w 0 0 6 [(0, .inr (.inr (some v0))), (1, .inl v1)] [] := by
  intro v0 v1 w h
  unfold mX7_settles_h6 at h
  refine Wx.run ok kX7_settles 4 2 (lv' := [(0, .inr (.inr (some v0))), (1, .inl v1)]) (st' := [.inr (.inr (some v0)), .inl v1]) (pc' := 8) rfl ?_
  refine Wx.getI ok kX7_settles 6 rfl lk_RX7_202_0 h (fun t8 h => ?_)
  refine Wx.icmp_ge ok kX7_settles 7 (tgt := 29) rfl (by decide) h (fun hc11 h => ?_) (fun hc11 h => ?_)
  · exact hk29 _ _ _ h
  · refine Wx.run ok kX7_settles 8 1 (lv' := [(0, .inr (.inr (some v0))), (1, .inl v1)]) (st' := [.inr (.inr (some v0))]) (pc' := 15) rfl ?_
    refine Wx.getR ok kX7_settles 9 rfl lk_RX7_67_0 h (fun t15 h => ?_)
    refine Wx.run ok kX7_settles 10 1 (lv' := [(0, .inr (.inr (some v0))), (1, .inl v1)]) (st' := [.inl v1, .inr (.inr t15)]) (pc' := 19) rfl ?_
    refine Wx.iald ok kX7_settles 11 rfl h (fun t19 h => ?_)
    refine Wx.if_ne ok kX7_settles 12 (tgt := 29) rfl (by decide) h (fun hc20 h => ?_) (fun hc20 h => ?_)
    · refine Wx.run ok kX7_settles 13 1 (lv' := [(1, .inl (v1 + (1 : Int32))), (0, .inr (.inr (some v0)))]) (st' := []) (pc' := 26) rfl ?_
      refine Wx.jump ok kX7_settles 14 (tgt := 6) rfl (by decide) ?_
      refine Wx.sub [1, 0] rfl ?_
      exact hr _ _ _ h
    · exact hk29 _ _ _ h
set_option maxRecDepth 100000 in
set_option maxHeartbeats 4000000 in
theorem aX7_settles_l6 {X : gX} (ok : gOk X cX7_settles RX7 6 none rmX7_settles) {res : gW} (hres : gRs X none res) {F : Nat} (k29 : Nat → Int32 → gW → Option (gW)) (hk29 : ∀ (v0 : Nat) (v1 : Int32) (w : gW), k29 v0 v1 w = some res → Wx X w 0 0 29 [(0, .inr (.inr (some v0))), (1, .inl v1)] []) : ∀ (n : Nat) (v0 : Nat) (v1 : Int32) (w : gW), mX7_settles_l6 F k29 n v0 v1 w = some res → Wx X w 0 0 6 [(0, .inr (.inr (some v0))), (1, .inl v1)] [] := by
  intro n
  induction n with
  | zero => intro v0 v1 w h; cases (show (none : Option (gW)) = some res from h)
  | succ n ih =>
    intro v0 v1 w h
    exact aX7_settles_h6 ok hres (F := F) (mX7_settles_l6 F k29 n) k29 ih hk29 v0 v1 w h
set_option maxRecDepth 100000 in
set_option maxHeartbeats 4000000 in
theorem aX7_settles_h40 {X : gX} (ok : gOk X cX7_settles RX7 6 none rmX7_settles) {res : gW} (hres : gRs X none res) {F : Nat} (r : Nat → Int32 → Int32 → gW → Option (gW)) (k63 : Nat → Int32 → Int32 → gW → Option (gW)) (hr : ∀ (v0 : Nat) (v1 : Int32) (v2 : Int32) (w : gW), r v0 v1 v2 w = some res → Wx X w 0 0 40 [(0, .inr (.inr (some v0))), (1, .inl v1), (2, .inl v2)] []) (hk63 : ∀ (v0 : Nat) (v1 : Int32) (v2 : Int32) (w : gW), k63 v0 v1 v2 w = some res → Wx X w 0 0 63 [(0, .inr (.inr (some v0))), (1, .inl v1), (2, .inl v2)] []) : ∀ (v0 : Nat) (v1 : Int32) (v2 : Int32) (w : gW), mX7_settles_h40 F r k63 v0 v1 v2 w = some res → Wx X w 0 0 40 [(0, .inr (.inr (some v0))), (1, .inl v1), (2, .inl v2)] [] := by
  intro v0 v1 v2 w h
  unfold mX7_settles_h40 at h
  refine Wx.run ok kX7_settles 22 2 (lv' := [(0, .inr (.inr (some v0))), (1, .inl v1), (2, .inl v2)]) (st' := [.inr (.inr (some v0)), .inl v2]) (pc' := 42) rfl ?_
  refine Wx.getR ok kX7_settles 24 rfl lk_RX7_67_0 h (fun t42 h => ?_)
  refine Wx.run ok kX7_settles 25 1 (lv' := [(0, .inr (.inr (some v0))), (1, .inl v1), (2, .inl v2)]) (st' := [.inl v1, .inr (.inr t42), .inl v2]) (pc' := 46) rfl ?_
  refine Wx.iald ok kX7_settles 26 rfl h (fun t46 h => ?_)
  refine Wx.run ok kX7_settles 27 2 (lv' := [(0, .inr (.inr (some v0))), (1, .inl v1), (2, .inl v2)]) (st' := [.inr (.inr (some v0)), .inl (v2 * t46)]) (pc' := 49) rfl ?_
  refine Wx.getI ok kX7_settles 29 rfl lk_RX7_196_0 h (fun t49 h => ?_)
  refine Wx.irem ok kX7_settles 30 rfl h (fun t52 h => ?_)
  refine Wx.run ok kX7_settles 31 1 (lv' := [(0, .inr (.inr (some v0))), (1, .inl v1), (2, .inl v2)]) (st' := [.inl (1 : Int32), .inl t52]) (pc' := 54) rfl ?_
  refine Wx.icmp_eq ok kX7_settles 32 (tgt := 63) rfl (by decide) h (fun hc54 h => ?_) (fun hc54 h => ?_)
  · exact hk63 _ _ _ _ h
  · refine Wx.run ok kX7_settles 33 1 (lv' := [(2, .inl (v2 + (1 : Int32))), (0, .inr (.inr (some v0))), (1, .inl v1)]) (st' := []) (pc' := 60) rfl ?_
    refine Wx.jump ok kX7_settles 34 (tgt := 40) rfl (by decide) ?_
    refine Wx.sub [1, 2, 0] rfl ?_
    exact hr _ _ _ _ h
set_option maxRecDepth 100000 in
set_option maxHeartbeats 4000000 in
theorem aX7_settles_l40 {X : gX} (ok : gOk X cX7_settles RX7 6 none rmX7_settles) {res : gW} (hres : gRs X none res) {F : Nat} (k63 : Nat → Int32 → Int32 → gW → Option (gW)) (hk63 : ∀ (v0 : Nat) (v1 : Int32) (v2 : Int32) (w : gW), k63 v0 v1 v2 w = some res → Wx X w 0 0 63 [(0, .inr (.inr (some v0))), (1, .inl v1), (2, .inl v2)] []) : ∀ (n : Nat) (v0 : Nat) (v1 : Int32) (v2 : Int32) (w : gW), mX7_settles_l40 F k63 n v0 v1 v2 w = some res → Wx X w 0 0 40 [(0, .inr (.inr (some v0))), (1, .inl v1), (2, .inl v2)] [] := by
  intro n
  induction n with
  | zero => intro v0 v1 v2 w h; cases (show (none : Option (gW)) = some res from h)
  | succ n ih =>
    intro v0 v1 v2 w h
    exact aX7_settles_h40 ok hres (F := F) (mX7_settles_l40 F k63 n) k63 ih hk63 v0 v1 v2 w h
set_option maxRecDepth 100000 in
set_option maxHeartbeats 4000000 in
theorem aX7_settles_h65 {X : gX} (ok : gOk X cX7_settles RX7 6 none rmX7_settles) {res : gW} (hres : gRs X none res) {F : Nat} (r : Nat → Int32 → Int32 → Int32 → gW → Option (gW)) (k98 : Nat → Int32 → gW → Option (gW)) (hr : ∀ (v0 : Nat) (v1 : Int32) (v2 : Int32) (v3 : Int32) (w : gW), r v0 v1 v2 v3 w = some res → Wx X w 0 0 65 [(0, .inr (.inr (some v0))), (1, .inl v1), (2, .inl v2), (3, .inl v3)] []) (hk98 : ∀ (v0 : Nat) (v1 : Int32) (w : gW), k98 v0 v1 w = some res → Wx X w 0 0 98 [(0, .inr (.inr (some v0))), (1, .inl v1)] []) : ∀ (v0 : Nat) (v1 : Int32) (v2 : Int32) (v3 : Int32) (w : gW), mX7_settles_h65 F r k98 v0 v1 v2 v3 w = some res → Wx X w 0 0 65 [(0, .inr (.inr (some v0))), (1, .inl v1), (2, .inl v2), (3, .inl v3)] [] := by
  intro v0 v1 v2 v3 w h
  unfold mX7_settles_h65 at h
  refine Wx.run ok kX7_settles 37 2 (lv' := [(0, .inr (.inr (some v0))), (1, .inl v1), (2, .inl v2), (3, .inl v3)]) (st' := [.inr (.inr (some v0)), .inl v3]) (pc' := 67) rfl ?_
  refine Wx.getI ok kX7_settles 39 rfl lk_RX7_202_0 h (fun t67 h => ?_)
  refine Wx.icmp_ge ok kX7_settles 40 (tgt := 98) rfl (by decide) h (fun hc70 h => ?_) (fun hc70 h => ?_)
  · refine Wx.sub [0, 1] rfl ?_
    exact hk98 _ _ _ h
  · refine Wx.run ok kX7_settles 41 1 (lv' := [(0, .inr (.inr (some v0))), (1, .inl v1), (2, .inl v2), (3, .inl v3)]) (st' := [.inr (.inr (some v0))]) (pc' := 74) rfl ?_
    refine Wx.getR ok kX7_settles 42 rfl lk_RX7_67_0 h (fun t74 h => ?_)
    refine Wx.run ok kX7_settles 43 2 (lv' := [(0, .inr (.inr (some v0))), (1, .inl v1), (2, .inl v2), (3, .inl v3)]) (st' := [.inr (.inr (some v0)), .inl v3, .inr (.inr t74)]) (pc' := 79) rfl ?_
    refine Wx.getR ok kX7_settles 45 rfl lk_RX7_67_0 h (fun t79 h => ?_)
    refine Wx.run ok kX7_settles 46 1 (lv' := [(0, .inr (.inr (some v0))), (1, .inl v1), (2, .inl v2), (3, .inl v3)]) (st' := [.inl v3, .inr (.inr t79), .inl v3, .inr (.inr t74)]) (pc' := 83) rfl ?_
    refine Wx.iald ok kX7_settles 47 rfl h (fun t83 h => ?_)
    refine Wx.run ok kX7_settles 48 3 (lv' := [(0, .inr (.inr (some v0))), (1, .inl v1), (2, .inl v2), (3, .inl v3)]) (st' := [.inr (.inr (some v0)), .inl (t83 * v2), .inl v3, .inr (.inr t74)]) (pc' := 87) rfl ?_
    refine Wx.getI ok kX7_settles 51 rfl lk_RX7_196_0 h (fun t87 h => ?_)
    refine Wx.irem ok kX7_settles 52 rfl h (fun t90 h => ?_)
    refine Wx.iast ok kX7_settles 53 rfl h (fun w91 h => ?_)
    refine Wx.run ok kX7_settles 54 1 (lv' := [(3, .inl (v3 + (1 : Int32))), (0, .inr (.inr (some v0))), (1, .inl v1), (2, .inl v2)]) (st' := []) (pc' := 95) rfl ?_
    refine Wx.jump ok kX7_settles 55 (tgt := 65) rfl (by decide) ?_
    refine Wx.sub [1, 2, 3, 0] rfl ?_
    exact hr _ _ _ _ _ h
set_option maxRecDepth 100000 in
set_option maxHeartbeats 4000000 in
theorem aX7_settles_l65 {X : gX} (ok : gOk X cX7_settles RX7 6 none rmX7_settles) {res : gW} (hres : gRs X none res) {F : Nat} (k98 : Nat → Int32 → gW → Option (gW)) (hk98 : ∀ (v0 : Nat) (v1 : Int32) (w : gW), k98 v0 v1 w = some res → Wx X w 0 0 98 [(0, .inr (.inr (some v0))), (1, .inl v1)] []) : ∀ (n : Nat) (v0 : Nat) (v1 : Int32) (v2 : Int32) (v3 : Int32) (w : gW), mX7_settles_l65 F k98 n v0 v1 v2 v3 w = some res → Wx X w 0 0 65 [(0, .inr (.inr (some v0))), (1, .inl v1), (2, .inl v2), (3, .inl v3)] [] := by
  intro n
  induction n with
  | zero => intro v0 v1 v2 v3 w h; cases (show (none : Option (gW)) = some res from h)
  | succ n ih =>
    intro v0 v1 v2 v3 w h
    exact aX7_settles_h65 ok hres (F := F) (mX7_settles_l65 F k98 n) k98 ih hk98 v0 v1 v2 v3 w h
set_option maxRecDepth 100000 in
set_option maxHeartbeats 4000000 in
theorem aX7_settles_h124 {X : gX} (ok : gOk X cX7_settles RX7 6 none rmX7_settles) {res : gW} (hres : gRs X none res) {F : Nat} (r : Nat → Int32 → Int32 → Int32 → Int32 → gW → Option (gW)) (k189 : Nat → Int32 → Int32 → gW → Option (gW)) (hr : ∀ (v0 : Nat) (v1 : Int32) (v3 : Int32) (v4 : Int32) (v5 : Int32) (w : gW), r v0 v1 v3 v4 v5 w = some res → Wx X w 0 0 124 [(0, .inr (.inr (some v0))), (1, .inl v1), (3, .inl v3), (4, .inl v4), (5, .inl v5)] []) (hk189 : ∀ (v0 : Nat) (v1 : Int32) (v3 : Int32) (w : gW), k189 v0 v1 v3 w = some res → Wx X w 0 0 189 [(0, .inr (.inr (some v0))), (1, .inl v1), (3, .inl v3)] []) : ∀ (v0 : Nat) (v1 : Int32) (v3 : Int32) (v4 : Int32) (v5 : Int32) (w : gW), mX7_settles_h124 F r k189 v0 v1 v3 v4 v5 w = some res → Wx X w 0 0 124 [(0, .inr (.inr (some v0))), (1, .inl v1), (3, .inl v3), (4, .inl v4), (5, .inl v5)] [] := by
  intro v0 v1 v3 v4 v5 w h
  unfold mX7_settles_h124 at h
  refine Wx.run ok kX7_settles 73 2 (lv' := [(0, .inr (.inr (some v0))), (1, .inl v1), (3, .inl v3), (4, .inl v4), (5, .inl v5)]) (st' := [.inr (.inr (some v0)), .inl v5]) (pc' := 127) rfl ?_
  refine Wx.getI ok kX7_settles 75 rfl lk_RX7_202_0 h (fun t127 h => ?_)
  refine Wx.icmp_ge ok kX7_settles 76 (tgt := 189) rfl (by decide) h (fun hc130 h => ?_) (fun hc130 h => ?_)
  · refine Wx.sub [0, 1, 2] rfl ?_
    exact hk189 _ _ _ _ h
  · refine Wx.run ok kX7_settles 77 1 (lv' := [(0, .inr (.inr (some v0))), (1, .inl v1), (3, .inl v3), (4, .inl v4), (5, .inl v5)]) (st' := [.inl v4]) (pc' := 135) rfl ?_
    refine Wx.if_le ok kX7_settles 78 (tgt := 189) rfl (by decide) h (fun hc135 h => ?_) (fun hc135 h => ?_)
    · refine Wx.sub [0, 1, 2] rfl ?_
      exact hk189 _ _ _ _ h
    · refine Wx.run ok kX7_settles 79 1 (lv' := [(0, .inr (.inr (some v0))), (1, .inl v1), (3, .inl v3), (4, .inl v4), (5, .inl v5)]) (st' := [.inr (.inr (some v0))]) (pc' := 139) rfl ?_
      refine Wx.getR ok kX7_settles 80 rfl lk_RX7_70_0 h (fun t139 h => ?_)
      refine Wx.run ok kX7_settles 81 6 (lv' := [(0, .inr (.inr (some v0))), (1, .inl v1), (3, .inl v3), (4, .inl v4), (5, .inl v5)]) (st' := [.inr (.inr (some v0)), .inl (((98 : Int32) * v3) + v5), .inr (.inr t139)]) (pc' := 150) rfl ?_
      refine Wx.getR ok kX7_settles 87 rfl lk_RX7_70_0 h (fun t150 h => ?_)
      refine Wx.run ok kX7_settles 88 5 (lv' := [(0, .inr (.inr (some v0))), (1, .inl v1), (3, .inl v3), (4, .inl v4), (5, .inl v5)]) (st' := [.inl (((98 : Int32) * v3) + v5), .inr (.inr t150), .inl (((98 : Int32) * v3) + v5), .inr (.inr t139)]) (pc' := 160) rfl ?_
      refine Wx.iald ok kX7_settles 93 rfl h (fun t160 h => ?_)
      refine Wx.run ok kX7_settles 94 1 (lv' := [(0, .inr (.inr (some v0))), (1, .inl v1), (3, .inl v3), (4, .inl v4), (5, .inl v5)]) (st' := [.inr (.inr (some v0)), .inl t160, .inl (((98 : Int32) * v3) + v5), .inr (.inr t139)]) (pc' := 162) rfl ?_
      refine Wx.getI ok kX7_settles 95 rfl lk_RX7_196_0 h (fun t162 h => ?_)
      refine Wx.run ok kX7_settles 96 3 (lv' := [(0, .inr (.inr (some v0))), (1, .inl v1), (3, .inl v3), (4, .inl v4), (5, .inl v5)]) (st' := [.inr (.inr (some v0)), .inl (t162 - v4), .inl t160, .inl (((98 : Int32) * v3) + v5), .inr (.inr t139)]) (pc' := 169) rfl ?_
      refine Wx.getR ok kX7_settles 99 rfl lk_RX7_67_0 h (fun t169 h => ?_)
      refine Wx.run ok kX7_settles 100 1 (lv' := [(0, .inr (.inr (some v0))), (1, .inl v1), (3, .inl v3), (4, .inl v4), (5, .inl v5)]) (st' := [.inl v5, .inr (.inr t169), .inl (t162 - v4), .inl t160, .inl (((98 : Int32) * v3) + v5), .inr (.inr t139)]) (pc' := 174) rfl ?_
      refine Wx.iald ok kX7_settles 101 rfl h (fun t174 h => ?_)
      refine Wx.run ok kX7_settles 102 3 (lv' := [(0, .inr (.inr (some v0))), (1, .inl v1), (3, .inl v3), (4, .inl v4), (5, .inl v5)]) (st' := [.inr (.inr (some v0)), .inl (t160 + ((t162 - v4) * t174)), .inl (((98 : Int32) * v3) + v5), .inr (.inr t139)]) (pc' := 178) rfl ?_
      refine Wx.getI ok kX7_settles 105 rfl lk_RX7_196_0 h (fun t178 h => ?_)
      refine Wx.irem ok kX7_settles 106 rfl h (fun t181 h => ?_)
      refine Wx.iast ok kX7_settles 107 rfl h (fun w182 h => ?_)
      refine Wx.run ok kX7_settles 108 1 (lv' := [(5, .inl (v5 + (1 : Int32))), (0, .inr (.inr (some v0))), (1, .inl v1), (3, .inl v3), (4, .inl v4)]) (st' := []) (pc' := 186) rfl ?_
      refine Wx.jump ok kX7_settles 109 (tgt := 124) rfl (by decide) ?_
      refine Wx.sub [1, 2, 3, 4, 0] rfl ?_
      exact hr _ _ _ _ _ _ h
set_option maxRecDepth 100000 in
set_option maxHeartbeats 4000000 in
theorem aX7_settles_l124 {X : gX} (ok : gOk X cX7_settles RX7 6 none rmX7_settles) {res : gW} (hres : gRs X none res) {F : Nat} (k189 : Nat → Int32 → Int32 → gW → Option (gW)) (hk189 : ∀ (v0 : Nat) (v1 : Int32) (v3 : Int32) (w : gW), k189 v0 v1 v3 w = some res → Wx X w 0 0 189 [(0, .inr (.inr (some v0))), (1, .inl v1), (3, .inl v3)] []) : ∀ (n : Nat) (v0 : Nat) (v1 : Int32) (v3 : Int32) (v4 : Int32) (v5 : Int32) (w : gW), mX7_settles_l124 F k189 n v0 v1 v3 v4 v5 w = some res → Wx X w 0 0 124 [(0, .inr (.inr (some v0))), (1, .inl v1), (3, .inl v3), (4, .inl v4), (5, .inl v5)] [] := by
  intro n
  induction n with
  | zero => intro v0 v1 v3 v4 v5 w h; cases (show (none : Option (gW)) = some res from h)
  | succ n ih =>
    intro v0 v1 v3 v4 v5 w h
    exact aX7_settles_h124 ok hres (F := F) (mX7_settles_l124 F k189 n) k189 ih hk189 v0 v1 v3 v4 v5 w h
set_option maxRecDepth 100000 in
set_option maxHeartbeats 4000000 in
theorem aX7_settles_b189 {X : gX} (ok : gOk X cX7_settles RX7 6 none rmX7_settles) {res : gW} (hres : gRs X none res) {F : Nat} (r : Nat → Int32 → Int32 → gW → Option (gW)) (k195 : Nat → Int32 → gW → Option (gW)) (hr : ∀ (v0 : Nat) (v1 : Int32) (v3 : Int32) (w : gW), r v0 v1 v3 w = some res → Wx X w 0 0 100 [(0, .inr (.inr (some v0))), (1, .inl v1), (3, .inl v3)] []) (hk195 : ∀ (v0 : Nat) (v1 : Int32) (w : gW), k195 v0 v1 w = some res → Wx X w 0 0 195 [(0, .inr (.inr (some v0))), (1, .inl v1)] []) : ∀ (v0 : Nat) (v1 : Int32) (v3 : Int32) (w : gW), mX7_settles_b189 F r k195 v0 v1 v3 w = some res → Wx X w 0 0 189 [(0, .inr (.inr (some v0))), (1, .inl v1), (3, .inl v3)] [] := by
  intro v0 v1 v3 w h
  unfold mX7_settles_b189 at h
  refine Wx.run ok kX7_settles 110 1 (lv' := [(3, .inl (v3 + (1 : Int32))), (0, .inr (.inr (some v0))), (1, .inl v1)]) (st' := []) (pc' := 192) rfl ?_
  refine Wx.jump ok kX7_settles 111 (tgt := 100) rfl (by decide) ?_
  refine Wx.sub [1, 2, 0] rfl ?_
  exact hr _ _ _ _ h
set_option maxRecDepth 100000 in
set_option maxHeartbeats 4000000 in
theorem aX7_settles_h100 {X : gX} (ok : gOk X cX7_settles RX7 6 none rmX7_settles) {res : gW} (hres : gRs X none res) {F : Nat} (r : Nat → Int32 → Int32 → gW → Option (gW)) (k195 : Nat → Int32 → gW → Option (gW)) (hr : ∀ (v0 : Nat) (v1 : Int32) (v3 : Int32) (w : gW), r v0 v1 v3 w = some res → Wx X w 0 0 100 [(0, .inr (.inr (some v0))), (1, .inl v1), (3, .inl v3)] []) (hk195 : ∀ (v0 : Nat) (v1 : Int32) (w : gW), k195 v0 v1 w = some res → Wx X w 0 0 195 [(0, .inr (.inr (some v0))), (1, .inl v1)] []) : ∀ (v0 : Nat) (v1 : Int32) (v3 : Int32) (w : gW), mX7_settles_h100 F r k195 v0 v1 v3 w = some res → Wx X w 0 0 100 [(0, .inr (.inr (some v0))), (1, .inl v1), (3, .inl v3)] [] := by
  intro v0 v1 v3 w h
  unfold mX7_settles_h100 at h
  refine Wx.run ok kX7_settles 58 2 (lv' := [(0, .inr (.inr (some v0))), (1, .inl v1), (3, .inl v3)]) (st' := [.inr (.inr (some v0)), .inl v3]) (pc' := 102) rfl ?_
  refine Wx.getI ok kX7_settles 60 rfl lk_RX7_199_0 h (fun t102 h => ?_)
  refine Wx.icmp_ge ok kX7_settles 61 (tgt := 195) rfl (by decide) h (fun hc105 h => ?_) (fun hc105 h => ?_)
  · refine Wx.sub [0, 1] rfl ?_
    exact hk195 _ _ _ h
  · refine Wx.run ok kX7_settles 62 1 (lv' := [(0, .inr (.inr (some v0))), (1, .inl v1), (3, .inl v3)]) (st' := [.inr (.inr (some v0))]) (pc' := 109) rfl ?_
    refine Wx.getR ok kX7_settles 63 rfl lk_RX7_70_0 h (fun t109 h => ?_)
    refine Wx.run ok kX7_settles 64 5 (lv' := [(0, .inr (.inr (some v0))), (1, .inl v1), (3, .inl v3)]) (st' := [.inl (((98 : Int32) * v3) + v1), .inr (.inr t109)]) (pc' := 118) rfl ?_
    refine Wx.iald ok kX7_settles 69 rfl h (fun t118 h => ?_)
    refine Wx.run ok kX7_settles 70 3 (lv' := [(5, .inl (0 : Int32)), (4, .inl t118), (0, .inr (.inr (some v0))), (1, .inl v1), (3, .inl v3)]) (st' := []) (pc' := 124) rfl ?_
    refine Wx.sub [2, 3, 4, 1, 0] rfl ?_
    refine aX7_settles_l124 ok hres (F := F) _ ?_ F _ _ _ _ _ _ h
    · intro v0 v1 v3 w h
      exact aX7_settles_b189 ok hres (F := F) r k195 hr hk195 _ _ _ _ h
set_option maxRecDepth 100000 in
set_option maxHeartbeats 4000000 in
theorem aX7_settles_l100 {X : gX} (ok : gOk X cX7_settles RX7 6 none rmX7_settles) {res : gW} (hres : gRs X none res) {F : Nat} (k195 : Nat → Int32 → gW → Option (gW)) (hk195 : ∀ (v0 : Nat) (v1 : Int32) (w : gW), k195 v0 v1 w = some res → Wx X w 0 0 195 [(0, .inr (.inr (some v0))), (1, .inl v1)] []) : ∀ (n : Nat) (v0 : Nat) (v1 : Int32) (v3 : Int32) (w : gW), mX7_settles_l100 F k195 n v0 v1 v3 w = some res → Wx X w 0 0 100 [(0, .inr (.inr (some v0))), (1, .inl v1), (3, .inl v3)] [] := by
  intro n
  induction n with
  | zero => intro v0 v1 v3 w h; cases (show (none : Option (gW)) = some res from h)
  | succ n ih =>
    intro v0 v1 v3 w h
    exact aX7_settles_h100 ok hres (F := F) (mX7_settles_l100 F k195 n) k195 ih hk195 v0 v1 v3 w h
set_option maxRecDepth 100000 in
set_option maxHeartbeats 4000000 in
theorem aX7_settles_h233 {X : gX} (ok : gOk X cX7_settles RX7 6 none rmX7_settles) {res : gW} (hres : gRs X none res) {F : Nat} (r : Nat → Int32 → Int32 → Int32 → gW → Option (gW)) (k274 : Nat → Int32 → Int32 → gW → Option (gW)) (hr : ∀ (v0 : Nat) (v1 : Int32) (v3 : Int32) (v4 : Int32) (w : gW), r v0 v1 v3 v4 w = some res → Wx X w 0 0 233 [(0, .inr (.inr (some v0))), (1, .inl v1), (3, .inl v3), (4, .inl v4)] []) (hk274 : ∀ (v0 : Nat) (v1 : Int32) (v3 : Int32) (w : gW), k274 v0 v1 v3 w = some res → Wx X w 0 0 274 [(0, .inr (.inr (some v0))), (1, .inl v1), (3, .inl v3)] []) : ∀ (v0 : Nat) (v1 : Int32) (v3 : Int32) (v4 : Int32) (w : gW), mX7_settles_h233 F r k274 v0 v1 v3 v4 w = some res → Wx X w 0 0 233 [(0, .inr (.inr (some v0))), (1, .inl v1), (3, .inl v3), (4, .inl v4)] [] := by
  intro v0 v1 v3 v4 w h
  unfold mX7_settles_h233 at h
  refine Wx.run ok kX7_settles 137 2 (lv' := [(0, .inr (.inr (some v0))), (1, .inl v1), (3, .inl v3), (4, .inl v4)]) (st' := [.inr (.inr (some v0)), .inl v4]) (pc' := 236) rfl ?_
  refine Wx.getI ok kX7_settles 139 rfl lk_RX7_202_0 h (fun t236 h => ?_)
  refine Wx.icmp_ge ok kX7_settles 140 (tgt := 274) rfl (by decide) h (fun hc239 h => ?_) (fun hc239 h => ?_)
  · refine Wx.sub [0, 1, 2] rfl ?_
    exact hk274 _ _ _ _ h
  · refine Wx.run ok kX7_settles 141 1 (lv' := [(0, .inr (.inr (some v0))), (1, .inl v1), (3, .inl v3), (4, .inl v4)]) (st' := [.inr (.inr (some v0))]) (pc' := 243) rfl ?_
    refine Wx.getR ok kX7_settles 142 rfl lk_RX7_70_0 h (fun t243 h => ?_)
    refine Wx.run ok kX7_settles 143 6 (lv' := [(0, .inr (.inr (some v0))), (1, .inl v1), (3, .inl v3), (4, .inl v4)]) (st' := [.inr (.inr (some v0)), .inl (((98 : Int32) * v3) + v4), .inr (.inr t243)]) (pc' := 254) rfl ?_
    refine Wx.getR ok kX7_settles 149 rfl lk_RX7_70_0 h (fun t254 h => ?_)
    refine Wx.run ok kX7_settles 150 7 (lv' := [(0, .inr (.inr (some v0))), (1, .inl v1), (3, .inl v3), (4, .inl v4)]) (st' := [.inl (((98 : Int32) * (v3 - (1 : Int32))) + v4), .inr (.inr t254), .inl (((98 : Int32) * v3) + v4), .inr (.inr t243)]) (pc' := 266) rfl ?_
    refine Wx.iald ok kX7_settles 157 rfl h (fun t266 h => ?_)
    refine Wx.iast ok kX7_settles 158 rfl h (fun w267 h => ?_)
    refine Wx.run ok kX7_settles 159 1 (lv' := [(4, .inl (v4 + (1 : Int32))), (0, .inr (.inr (some v0))), (1, .inl v1), (3, .inl v3)]) (st' := []) (pc' := 271) rfl ?_
    refine Wx.jump ok kX7_settles 160 (tgt := 233) rfl (by decide) ?_
    refine Wx.sub [1, 2, 3, 0] rfl ?_
    exact hr _ _ _ _ _ h
set_option maxRecDepth 100000 in
set_option maxHeartbeats 4000000 in
theorem aX7_settles_l233 {X : gX} (ok : gOk X cX7_settles RX7 6 none rmX7_settles) {res : gW} (hres : gRs X none res) {F : Nat} (k274 : Nat → Int32 → Int32 → gW → Option (gW)) (hk274 : ∀ (v0 : Nat) (v1 : Int32) (v3 : Int32) (w : gW), k274 v0 v1 v3 w = some res → Wx X w 0 0 274 [(0, .inr (.inr (some v0))), (1, .inl v1), (3, .inl v3)] []) : ∀ (n : Nat) (v0 : Nat) (v1 : Int32) (v3 : Int32) (v4 : Int32) (w : gW), mX7_settles_l233 F k274 n v0 v1 v3 v4 w = some res → Wx X w 0 0 233 [(0, .inr (.inr (some v0))), (1, .inl v1), (3, .inl v3), (4, .inl v4)] [] := by
  intro n
  induction n with
  | zero => intro v0 v1 v3 v4 w h; cases (show (none : Option (gW)) = some res from h)
  | succ n ih =>
    intro v0 v1 v3 v4 w h
    exact aX7_settles_h233 ok hres (F := F) (mX7_settles_l233 F k274 n) k274 ih hk274 v0 v1 v3 v4 w h
set_option maxRecDepth 100000 in
set_option maxHeartbeats 4000000 in
theorem aX7_settles_h200 {X : gX} (ok : gOk X cX7_settles RX7 6 none rmX7_settles) {res : gW} (hres : gRs X none res) {F : Nat} (r : Nat → Int32 → Int32 → gW → Option (gW)) (k280 : Nat → Int32 → Int32 → gW → Option (gW)) (hr : ∀ (v0 : Nat) (v1 : Int32) (v3 : Int32) (w : gW), r v0 v1 v3 w = some res → Wx X w 0 0 200 [(0, .inr (.inr (some v0))), (1, .inl v1), (3, .inl v3)] []) (hk280 : ∀ (v0 : Nat) (v1 : Int32) (v3 : Int32) (w : gW), k280 v0 v1 v3 w = some res → Wx X w 0 0 280 [(0, .inr (.inr (some v0))), (1, .inl v1), (3, .inl v3)] []) : ∀ (v0 : Nat) (v1 : Int32) (v3 : Int32) (w : gW), mX7_settles_h200 F r k280 v0 v1 v3 w = some res → Wx X w 0 0 200 [(0, .inr (.inr (some v0))), (1, .inl v1), (3, .inl v3)] [] := by
  intro v0 v1 v3 w h
  unfold mX7_settles_h200 at h
  refine Wx.run ok kX7_settles 115 1 (lv' := [(0, .inr (.inr (some v0))), (1, .inl v1), (3, .inl v3)]) (st' := [.inl v3]) (pc' := 201) rfl ?_
  refine Wx.if_le ok kX7_settles 116 (tgt := 280) rfl (by decide) h (fun hc201 h => ?_) (fun hc201 h => ?_)
  · exact hk280 _ _ _ _ h
  · refine Wx.run ok kX7_settles 117 1 (lv' := [(0, .inr (.inr (some v0))), (1, .inl v1), (3, .inl v3)]) (st' := [.inr (.inr (some v0))]) (pc' := 205) rfl ?_
    refine Wx.getR ok kX7_settles 118 rfl lk_RX7_73_0 h (fun t205 h => ?_)
    refine Wx.run ok kX7_settles 119 3 (lv' := [(0, .inr (.inr (some v0))), (1, .inl v1), (3, .inl v3)]) (st' := [.inl (v3 - (1 : Int32)), .inr (.inr t205)]) (pc' := 211) rfl ?_
    refine Wx.iald ok kX7_settles 122 rfl h (fun t211 h => ?_)
    refine Wx.run ok kX7_settles 123 1 (lv' := [(0, .inr (.inr (some v0))), (1, .inl v1), (3, .inl v3)]) (st' := [.inl v1, .inl t211]) (pc' := 213) rfl ?_
    refine Wx.icmp_le ok kX7_settles 124 (tgt := 280) rfl (by decide) h (fun hc213 h => ?_) (fun hc213 h => ?_)
    · exact hk280 _ _ _ _ h
    · refine Wx.run ok kX7_settles 125 1 (lv' := [(0, .inr (.inr (some v0))), (1, .inl v1), (3, .inl v3)]) (st' := [.inr (.inr (some v0))]) (pc' := 217) rfl ?_
      refine Wx.getR ok kX7_settles 126 rfl lk_RX7_73_0 h (fun t217 h => ?_)
      refine Wx.run ok kX7_settles 127 2 (lv' := [(0, .inr (.inr (some v0))), (1, .inl v1), (3, .inl v3)]) (st' := [.inr (.inr (some v0)), .inl v3, .inr (.inr t217)]) (pc' := 222) rfl ?_
      refine Wx.getR ok kX7_settles 129 rfl lk_RX7_73_0 h (fun t222 h => ?_)
      refine Wx.run ok kX7_settles 130 3 (lv' := [(0, .inr (.inr (some v0))), (1, .inl v1), (3, .inl v3)]) (st' := [.inl (v3 - (1 : Int32)), .inr (.inr t222), .inl v3, .inr (.inr t217)]) (pc' := 228) rfl ?_
      refine Wx.iald ok kX7_settles 133 rfl h (fun t228 h => ?_)
      refine Wx.iast ok kX7_settles 134 rfl h (fun w229 h => ?_)
      refine Wx.run ok kX7_settles 135 2 (lv' := [(4, .inl (0 : Int32)), (0, .inr (.inr (some v0))), (1, .inl v1), (3, .inl v3)]) (st' := []) (pc' := 233) rfl ?_
      refine Wx.sub [1, 2, 3, 0] rfl ?_
      refine aX7_settles_l233 ok hres (F := F) _ ?_ F _ _ _ _ _ h
      · intro v0 v1 v3 w h
        refine Wx.run ok kX7_settles 161 1 (lv' := [(3, .inl (v3 + (-1 : Int32))), (0, .inr (.inr (some v0))), (1, .inl v1)]) (st' := []) (pc' := 277) rfl ?_
        refine Wx.jump ok kX7_settles 162 (tgt := 200) rfl (by decide) ?_
        refine Wx.sub [1, 2, 0] rfl ?_
        exact hr _ _ _ _ h
set_option maxRecDepth 100000 in
set_option maxHeartbeats 4000000 in
theorem aX7_settles_l200 {X : gX} (ok : gOk X cX7_settles RX7 6 none rmX7_settles) {res : gW} (hres : gRs X none res) {F : Nat} (k280 : Nat → Int32 → Int32 → gW → Option (gW)) (hk280 : ∀ (v0 : Nat) (v1 : Int32) (v3 : Int32) (w : gW), k280 v0 v1 v3 w = some res → Wx X w 0 0 280 [(0, .inr (.inr (some v0))), (1, .inl v1), (3, .inl v3)] []) : ∀ (n : Nat) (v0 : Nat) (v1 : Int32) (v3 : Int32) (w : gW), mX7_settles_l200 F k280 n v0 v1 v3 w = some res → Wx X w 0 0 200 [(0, .inr (.inr (some v0))), (1, .inl v1), (3, .inl v3)] [] := by
  intro n
  induction n with
  | zero => intro v0 v1 v3 w h; cases (show (none : Option (gW)) = some res from h)
  | succ n ih =>
    intro v0 v1 v3 w h
    exact aX7_settles_h200 ok hres (F := F) (mX7_settles_l200 F k280 n) k280 ih hk280 v0 v1 v3 w h
set_option maxRecDepth 100000 in
set_option maxHeartbeats 4000000 in
theorem aX7_settles_h290 {X : gX} (ok : gOk X cX7_settles RX7 6 none rmX7_settles) {res : gW} (hres : gRs X none res) {F : Nat} (r : Nat → Int32 → Int32 → gW → Option (gW)) (k324 : Nat → gW → Option (gW)) (hr : ∀ (v0 : Nat) (v3 : Int32) (v4 : Int32) (w : gW), r v0 v3 v4 w = some res → Wx X w 0 0 290 [(0, .inr (.inr (some v0))), (3, .inl v3), (4, .inl v4)] []) (hk324 : ∀ (v0 : Nat) (w : gW), k324 v0 w = some res → Wx X w 0 0 324 [(0, .inr (.inr (some v0)))] []) : ∀ (v0 : Nat) (v3 : Int32) (v4 : Int32) (w : gW), mX7_settles_h290 F r k324 v0 v3 v4 w = some res → Wx X w 0 0 290 [(0, .inr (.inr (some v0))), (3, .inl v3), (4, .inl v4)] [] := by
  intro v0 v3 v4 w h
  unfold mX7_settles_h290 at h
  refine Wx.run ok kX7_settles 170 2 (lv' := [(0, .inr (.inr (some v0))), (3, .inl v3), (4, .inl v4)]) (st' := [.inr (.inr (some v0)), .inl v4]) (pc' := 293) rfl ?_
  refine Wx.getI ok kX7_settles 172 rfl lk_RX7_202_0 h (fun t293 h => ?_)
  refine Wx.icmp_ge ok kX7_settles 173 (tgt := 324) rfl (by decide) h (fun hc296 h => ?_) (fun hc296 h => ?_)
  · refine Wx.sub [0] rfl ?_
    exact hk324 _ _ h
  · refine Wx.run ok kX7_settles 174 1 (lv' := [(0, .inr (.inr (some v0))), (3, .inl v3), (4, .inl v4)]) (st' := [.inr (.inr (some v0))]) (pc' := 300) rfl ?_
    refine Wx.getR ok kX7_settles 175 rfl lk_RX7_70_0 h (fun t300 h => ?_)
    refine Wx.run ok kX7_settles 176 6 (lv' := [(0, .inr (.inr (some v0))), (3, .inl v3), (4, .inl v4)]) (st' := [.inr (.inr (some v0)), .inl (((98 : Int32) * v3) + v4), .inr (.inr t300)]) (pc' := 311) rfl ?_
    refine Wx.getR ok kX7_settles 182 rfl lk_RX7_67_0 h (fun t311 h => ?_)
    refine Wx.run ok kX7_settles 183 1 (lv' := [(0, .inr (.inr (some v0))), (3, .inl v3), (4, .inl v4)]) (st' := [.inl v4, .inr (.inr t311), .inl (((98 : Int32) * v3) + v4), .inr (.inr t300)]) (pc' := 316) rfl ?_
    refine Wx.iald ok kX7_settles 184 rfl h (fun t316 h => ?_)
    refine Wx.iast ok kX7_settles 185 rfl h (fun w317 h => ?_)
    refine Wx.run ok kX7_settles 186 1 (lv' := [(4, .inl (v4 + (1 : Int32))), (0, .inr (.inr (some v0))), (3, .inl v3)]) (st' := []) (pc' := 321) rfl ?_
    refine Wx.jump ok kX7_settles 187 (tgt := 290) rfl (by decide) ?_
    refine Wx.sub [1, 2, 0] rfl ?_
    exact hr _ _ _ _ h
set_option maxRecDepth 100000 in
set_option maxHeartbeats 4000000 in
theorem aX7_settles_l290 {X : gX} (ok : gOk X cX7_settles RX7 6 none rmX7_settles) {res : gW} (hres : gRs X none res) {F : Nat} (k324 : Nat → gW → Option (gW)) (hk324 : ∀ (v0 : Nat) (w : gW), k324 v0 w = some res → Wx X w 0 0 324 [(0, .inr (.inr (some v0)))] []) : ∀ (n : Nat) (v0 : Nat) (v3 : Int32) (v4 : Int32) (w : gW), mX7_settles_l290 F k324 n v0 v3 v4 w = some res → Wx X w 0 0 290 [(0, .inr (.inr (some v0))), (3, .inl v3), (4, .inl v4)] [] := by
  intro n
  induction n with
  | zero => intro v0 v3 v4 w h; cases (show (none : Option (gW)) = some res from h)
  | succ n ih =>
    intro v0 v3 v4 w h
    exact aX7_settles_h290 ok hres (F := F) (mX7_settles_l290 F k324 n) k324 ih hk324 v0 v3 v4 w h
set_option maxRecDepth 100000 in
set_option maxHeartbeats 4000000 in
theorem aX7_settles_b280 {X : gX} (ok : gOk X cX7_settles RX7 6 none rmX7_settles) {res : gW} (hres : gRs X none res) {F : Nat} : ∀ (v0 : Nat) (v1 : Int32) (v3 : Int32) (w : gW), mX7_settles_b280 F v0 v1 v3 w = some res → Wx X w 0 0 280 [(0, .inr (.inr (some v0))), (1, .inl v1), (3, .inl v3)] [] := by
  intro v0 v1 v3 w h
  unfold mX7_settles_b280 at h
  refine Wx.run ok kX7_settles 163 1 (lv' := [(0, .inr (.inr (some v0))), (1, .inl v1), (3, .inl v3)]) (st' := [.inr (.inr (some v0))]) (pc' := 281) rfl ?_
  refine Wx.getR ok kX7_settles 164 rfl lk_RX7_73_0 h (fun t281 h => ?_)
  refine Wx.run ok kX7_settles 165 2 (lv' := [(0, .inr (.inr (some v0))), (1, .inl v1), (3, .inl v3)]) (st' := [.inl v1, .inl v3, .inr (.inr t281)]) (pc' := 286) rfl ?_
  refine Wx.iast ok kX7_settles 167 rfl h (fun w286 h => ?_)
  refine Wx.run ok kX7_settles 168 2 (lv' := [(4, .inl (0 : Int32)), (0, .inr (.inr (some v0))), (1, .inl v1), (3, .inl v3)]) (st' := []) (pc' := 290) rfl ?_
  refine Wx.sub [1, 3, 0] rfl ?_
  refine aX7_settles_l290 ok hres (F := F) _ ?_ F _ _ _ _ h
  · intro v0 w h
    refine Wx.run ok kX7_settles 188 2 (lv' := [(0, .inr (.inr (some v0)))]) (st' := [.inr (.inr (some v0)), .inr (.inr (some v0))]) (pc' := 326) rfl ?_
    refine Wx.getI ok kX7_settles 190 rfl lk_RX7_199_0 h (fun t326 h => ?_)
    refine Wx.run ok kX7_settles 191 2 (lv' := [(0, .inr (.inr (some v0)))]) (st' := [.inl (t326 + (1 : Int32)), .inr (.inr (some v0))]) (pc' := 331) rfl ?_
    refine Wx.put ok kX7_settles 193 rfl lk_RX7_199_1 (gFit_i _) h (fun w331 h => ?_)
    exact Wx.vreturn ok kX7_settles 194 rfl hres h (by decide)
set_option maxRecDepth 100000 in
set_option maxHeartbeats 4000000 in
theorem aX7_settles_b29 {X : gX} (ok : gOk X cX7_settles RX7 6 none rmX7_settles) {res : gW} (hres : gRs X none res) {F : Nat} : ∀ (v0 : Nat) (v1 : Int32) (w : gW), mX7_settles_b29 F v0 v1 w = some res → Wx X w 0 0 29 [(0, .inr (.inr (some v0))), (1, .inl v1)] [] := by
  intro v0 v1 w h
  unfold mX7_settles_b29 at h
  refine Wx.run ok kX7_settles 15 2 (lv' := [(0, .inr (.inr (some v0))), (1, .inl v1)]) (st' := [.inr (.inr (some v0)), .inl v1]) (pc' := 31) rfl ?_
  refine Wx.getI ok kX7_settles 17 rfl lk_RX7_202_0 h (fun t31 h => ?_)
  refine Wx.icmp_ne ok kX7_settles 18 (tgt := 38) rfl (by decide) h (fun hc34 h => ?_) (fun hc34 h => ?_)
  · exact Wx.vreturn ok kX7_settles 19 rfl hres h (by decide)
  · refine Wx.run ok kX7_settles 20 2 (lv' := [(2, .inl (1 : Int32)), (0, .inr (.inr (some v0))), (1, .inl v1)]) (st' := []) (pc' := 40) rfl ?_
    refine Wx.sub [1, 2, 0] rfl ?_
    refine aX7_settles_l40 ok hres (F := F) _ ?_ F _ _ _ _ h
    · intro v0 v1 v2 w h
      refine Wx.run ok kX7_settles 35 2 (lv' := [(3, .inl (0 : Int32)), (0, .inr (.inr (some v0))), (1, .inl v1), (2, .inl v2)]) (st' := []) (pc' := 65) rfl ?_
      refine Wx.sub [1, 2, 3, 0] rfl ?_
      refine aX7_settles_l65 ok hres (F := F) _ ?_ F _ _ _ _ _ h
      · intro v0 v1 w h
        refine Wx.run ok kX7_settles 56 2 (lv' := [(3, .inl (0 : Int32)), (0, .inr (.inr (some v0))), (1, .inl v1)]) (st' := []) (pc' := 100) rfl ?_
        refine Wx.sub [1, 2, 0] rfl ?_
        refine aX7_settles_l100 ok hres (F := F) _ ?_ F _ _ _ _ h
        · intro v0 v1 w h
          refine Wx.run ok kX7_settles 112 1 (lv' := [(0, .inr (.inr (some v0))), (1, .inl v1)]) (st' := [.inr (.inr (some v0))]) (pc' := 196) rfl ?_
          refine Wx.getI ok kX7_settles 113 rfl lk_RX7_199_0 h (fun t196 h => ?_)
          refine Wx.run ok kX7_settles 114 1 (lv' := [(3, .inl t196), (0, .inr (.inr (some v0))), (1, .inl v1)]) (st' := []) (pc' := 200) rfl ?_
          refine Wx.sub [1, 2, 0] rfl ?_
          refine aX7_settles_l200 ok hres (F := F) _ ?_ F _ _ _ _ h
          · intro v0 v1 v3 w h
            exact aX7_settles_b280 ok hres (F := F) _ _ _ _ h
set_option maxRecDepth 100000 in
set_option maxHeartbeats 4000000 in
theorem aX7_settles (l : Launch) (G : gG) {F : Nat} {v0 : Nat} {w : gW} {res : gW} (h : mX7_settles F v0 w = some res) : gM l yX7_settles cX7_settles 6 none rmX7_settles G w (gTs [.inr (.inr (some v0))]) none res := by
  refine gM_of (y := yX7_settles) (by decide +kernel) (Nat.le_of_ble_eq_true rfl) ?_
  intro X ok hl hG hres hnm
  subst hl; subst hG
  unfold mX7_settles at h
  show Wx X w 0 0 0 [(0, .inr (.inr (some v0)))] []
  refine Wx.run ok kX7_settles 0 1 (lv' := [(0, .inr (.inr (some v0)))]) (st' := [.inr (.inr (some v0))]) (pc' := 1) rfl ?_
  obtain ⟨a1, ha1, h⟩ := gob h
  obtain ⟨q1, hq1, h⟩ := gob h
  refine Wx.callV ok kX7_settles 1 rfl lm_RX7_205 cd_X7_reduceLine ha1 [] none (aX7_reduceLine _ _ hq1) (by decide) rfl (Nat.le_of_ble_eq_true rfl) rfl rfl ?_
  refine Wx.run ok kX7_settles 2 2 (lv' := [(1, .inl (0 : Int32)), (0, .inr (.inr (some v0)))]) (st' := []) (pc' := 6) rfl ?_
  refine Wx.sub [1, 0] rfl ?_
  refine aX7_settles_l6 ok hres (F := F) _ ?_ F _ _ _ h
  · intro v0 v1 w h
    exact aX7_settles_b29 ok hres (F := F) _ _ _ h
set_option maxRecDepth 100000 in
set_option maxHeartbeats 4000000 in
theorem aX7_sheet_h55 {X : gX} (ok : gOk X cX7_sheet RX7 5 (some .int) rmX7_sheet) {res : Int32 × gW} (hres : gRs X (some (.int res.1)) res.2) {F : Nat} (r : Nat → Int32 → Int32 → gW → Option (Int32 × gW)) (hr : ∀ (v0 : Nat) (v1 : Int32) (v4 : Int32) (w : gW), r v0 v1 v4 w = some res → Wx X w 0 0 55 [(0, .inr (.inr (some v0))), (1, .inl v1), (4, .inl v4)] []) : ∀ (v0 : Nat) (v1 : Int32) (v4 : Int32) (w : gW), mX7_sheet_h55 F r v0 v1 v4 w = some res → Wx X w 0 0 55 [(0, .inr (.inr (some v0))), (1, .inl v1), (4, .inl v4)] [] := by
  intro v0 v1 v4 w h
  unfold mX7_sheet_h55 at h
  refine Wx.run ok kX7_sheet 33 2 (lv' := [(0, .inr (.inr (some v0))), (1, .inl v1), (4, .inl v4)]) (st' := [.inl (144 : Int32), .inl v4]) (pc' := 60) rfl ?_
  refine Wx.icmp_ge ok kX7_sheet 35 (tgt := 83) rfl (by decide) h (fun hc60 h => ?_) (fun hc60 h => ?_)
  · refine Wx.run ok kX7_sheet 47 1 (lv' := [(0, .inr (.inr (some v0))), (1, .inl v1), (4, .inl v4)]) (st' := [.inl (1 : Int32)]) (pc' := 84) rfl ?_
    exact Wx.ireturn ok kX7_sheet 48 rfl hres h (by decide)
  · refine Wx.run ok kX7_sheet 36 1 (lv' := [(0, .inr (.inr (some v0))), (1, .inl v1), (4, .inl v4)]) (st' := [.inr (.inr (some v0))]) (pc' := 64) rfl ?_
    refine Wx.getR ok kX7_sheet 37 rfl lk_RX7_26_0 h (fun t64 h => ?_)
    refine Wx.run ok kX7_sheet 38 6 (lv' := [(0, .inr (.inr (some v0))), (1, .inl v1), (4, .inl v4)]) (st' := [.inl (0 : Int32), .inl (((144 : Int32) * v1) + v4), .inr (.inr t64)]) (pc' := 76) rfl ?_
    refine Wx.iast ok kX7_sheet 44 rfl h (fun w76 h => ?_)
    refine Wx.run ok kX7_sheet 45 1 (lv' := [(4, .inl (v4 + (1 : Int32))), (0, .inr (.inr (some v0))), (1, .inl v1)]) (st' := []) (pc' := 80) rfl ?_
    refine Wx.jump ok kX7_sheet 46 (tgt := 55) rfl (by decide) ?_
    refine Wx.sub [1, 2, 0] rfl ?_
    exact hr _ _ _ _ h
set_option maxRecDepth 100000 in
set_option maxHeartbeats 4000000 in
theorem aX7_sheet_l55 {X : gX} (ok : gOk X cX7_sheet RX7 5 (some .int) rmX7_sheet) {res : Int32 × gW} (hres : gRs X (some (.int res.1)) res.2) {F : Nat} : ∀ (n : Nat) (v0 : Nat) (v1 : Int32) (v4 : Int32) (w : gW), mX7_sheet_l55 F n v0 v1 v4 w = some res → Wx X w 0 0 55 [(0, .inr (.inr (some v0))), (1, .inl v1), (4, .inl v4)] [] := by
  intro n
  induction n with
  | zero => intro v0 v1 v4 w h; cases (show (none : Option (Int32 × gW)) = some res from h)
  | succ n ih =>
    intro v0 v1 v4 w h
    exact aX7_sheet_h55 ok hres (F := F) (mX7_sheet_l55 F n) ih v0 v1 v4 w h
set_option maxRecDepth 100000 in
set_option maxHeartbeats 4000000 in
theorem aX7_sheet (l : Launch) (G : gG) {F : Nat} {v0 : Nat} {v1 : Int32} {v2 : Int32} {v3 : Int32} {w : gW} {res : Int32 × gW} (h : mX7_sheet F v0 v1 v2 v3 w = some res) : gM l yX7_sheet cX7_sheet 5 (some .int) rmX7_sheet G w (gTs [.inr (.inr (some v0)), .inl v1, .inl v2, .inl v3]) (some (.int res.1)) res.2 := by
  refine gM_of (y := yX7_sheet) (by decide +kernel) (Nat.le_of_ble_eq_true rfl) ?_
  intro X ok hl hG hres hnm
  subst hl; subst hG
  unfold mX7_sheet at h
  show Wx X w 0 0 0 [(0, .inr (.inr (some v0))), (1, .inl v1), (2, .inl v2), (3, .inl v3)] []
  refine Wx.run ok kX7_sheet 0 3 (lv' := [(0, .inr (.inr (some v0))), (1, .inl v1), (2, .inl v2), (3, .inl v3)]) (st' := [.inr (.inl (0 : Int64)), .inr (.inl ((v1).toInt64))]) (pc' := 3) rfl ?_
  refine Wx.ldc2 ok kX7_sheet 3 rfl gw_860 ?_
  obtain ⟨q6, hq6, h⟩ := gob h
  refine Wx.callS ok kX7_sheet 4 rfl lm_RX7_100 cd_X7_in [.inr (.inl ((v1).toInt64)), .inr (.inl (0 : Int64)), .inr (.inl (3 : Int64))] (some (.inl q6.1)) (aX7_in _ _ hq6) (by decide) rfl (Nat.le_of_ble_eq_true rfl) rfl rfl ?_
  refine Wx.if_eq ok kX7_sheet 5 (tgt := 29) rfl (by decide) h (fun hc9 h => ?_) (fun hc9 h => ?_)
  · refine Wx.run ok kX7_sheet 15 1 (lv' := [(0, .inr (.inr (some v0))), (1, .inl v1), (2, .inl v2), (3, .inl v3)]) (st' := [.inl (-1 : Int32)]) (pc' := 30) rfl ?_
    exact Wx.ireturn ok kX7_sheet 16 rfl hres h (by decide)
  · refine Wx.run ok kX7_sheet 6 4 (lv' := [(0, .inr (.inr (some v0))), (1, .inl v1), (2, .inl v2), (3, .inl v3)]) (st' := [.inr (.inl (1 : Int64)), .inr (.inl (0 : Int64)), .inr (.inl ((v2).toInt64))]) (pc' := 16) rfl ?_
    obtain ⟨q16, hq16, h⟩ := gob h
    refine Wx.callS ok kX7_sheet 10 rfl lm_RX7_100 cd_X7_in [.inr (.inl ((v2).toInt64)), .inr (.inl (0 : Int64)), .inr (.inl (1 : Int64))] (some (.inl q16.1)) (aX7_in _ _ hq16) (by decide) rfl (Nat.le_of_ble_eq_true rfl) rfl rfl ?_
    refine Wx.if_eq ok kX7_sheet 11 (tgt := 29) rfl (by decide) h (fun hc19 h => ?_) (fun hc19 h => ?_)
    · refine Wx.run ok kX7_sheet 15 1 (lv' := [(0, .inr (.inr (some v0))), (1, .inl v1), (2, .inl v2), (3, .inl v3)]) (st' := [.inl (-1 : Int32)]) (pc' := 30) rfl ?_
      exact Wx.ireturn ok kX7_sheet 16 rfl hres h (by decide)
    · refine Wx.run ok kX7_sheet 12 2 (lv' := [(0, .inr (.inr (some v0))), (1, .inl v1), (2, .inl v2), (3, .inl v3)]) (st' := [.inl (144 : Int32), .inl v3]) (pc' := 26) rfl ?_
      refine Wx.icmp_le ok kX7_sheet 14 (tgt := 31) rfl (by decide) h (fun hc26 h => ?_) (fun hc26 h => ?_)
      · refine Wx.run ok kX7_sheet 17 1 (lv' := [(0, .inr (.inr (some v0))), (1, .inl v1), (2, .inl v2), (3, .inl v3)]) (st' := [.inl v3]) (pc' := 32) rfl ?_
        refine Wx.if_ge ok kX7_sheet 18 (tgt := 38) rfl (by decide) h (fun hc32 h => ?_) (fun hc32 h => ?_)
        · refine Wx.run ok kX7_sheet 21 1 (lv' := [(0, .inr (.inr (some v0))), (1, .inl v1), (2, .inl v2), (3, .inl v3)]) (st' := [.inr (.inr (some v0))]) (pc' := 39) rfl ?_
          refine Wx.getR ok kX7_sheet 22 rfl lk_RX7_20_0 h (fun t39 h => ?_)
          refine Wx.run ok kX7_sheet 23 2 (lv' := [(0, .inr (.inr (some v0))), (1, .inl v1), (2, .inl v2), (3, .inl v3)]) (st' := [.inl v2, .inl v1, .inr (.inr t39)]) (pc' := 44) rfl ?_
          refine Wx.iast ok kX7_sheet 25 rfl h (fun w44 h => ?_)
          refine Wx.run ok kX7_sheet 26 1 (lv' := [(0, .inr (.inr (some v0))), (1, .inl v1), (2, .inl v2), (3, .inl v3)]) (st' := [.inr (.inr (some v0))]) (pc' := 46) rfl ?_
          refine Wx.getR ok kX7_sheet 27 rfl lk_RX7_23_0 h (fun t46 h => ?_)
          refine Wx.run ok kX7_sheet 28 2 (lv' := [(0, .inr (.inr (some v0))), (1, .inl v1), (2, .inl v2), (3, .inl v3)]) (st' := [.inl v3, .inl v1, .inr (.inr t46)]) (pc' := 51) rfl ?_
          refine Wx.iast ok kX7_sheet 30 rfl h (fun w51 h => ?_)
          refine Wx.run ok kX7_sheet 31 2 (lv' := [(4, .inl (0 : Int32)), (0, .inr (.inr (some v0))), (1, .inl v1), (2, .inl v2), (3, .inl v3)]) (st' := []) (pc' := 55) rfl ?_
          refine Wx.sub [1, 2, 0] rfl ?_
          refine aX7_sheet_l55 ok hres (F := F) F _ _ _ _ h
        · refine Wx.run ok kX7_sheet 19 1 (lv' := [(0, .inr (.inr (some v0))), (1, .inl v1), (2, .inl v2), (3, .inl v3)]) (st' := [.inl (-14 : Int32)]) (pc' := 37) rfl ?_
          exact Wx.ireturn ok kX7_sheet 20 rfl hres h (by decide)
      · refine Wx.run ok kX7_sheet 15 1 (lv' := [(0, .inr (.inr (some v0))), (1, .inl v1), (2, .inl v2), (3, .inl v3)]) (st' := [.inl (-1 : Int32)]) (pc' := 30) rfl ?_
        exact Wx.ireturn ok kX7_sheet 16 rfl hres h (by decide)
set_option maxRecDepth 100000 in
set_option maxHeartbeats 4000000 in
theorem aX7_sumOf_h19 {X : gX} (ok : gOk X cX7_sumOf RX7 5 none rmX7_sumOf) {res : gW} (hres : gRs X none res) {F : Nat} (r : Nat → Int32 → Int32 → Int32 → gW → Option (gW)) (k73 : Nat → Int32 → Int32 → gW → Option (gW)) (hr : ∀ (v0 : Nat) (v2 : Int32) (v3 : Int32) (v4 : Int32) (w : gW), r v0 v2 v3 v4 w = some res → Wx X w 0 0 19 [(0, .inr (.inr (some v0))), (2, .inl v2), (3, .inl v3), (4, .inl v4)] []) (hk73 : ∀ (v0 : Nat) (v2 : Int32) (v3 : Int32) (w : gW), k73 v0 v2 v3 w = some res → Wx X w 0 0 73 [(0, .inr (.inr (some v0))), (2, .inl v2), (3, .inl v3)] []) : ∀ (v0 : Nat) (v2 : Int32) (v3 : Int32) (v4 : Int32) (w : gW), mX7_sumOf_h19 F r k73 v0 v2 v3 v4 w = some res → Wx X w 0 0 19 [(0, .inr (.inr (some v0))), (2, .inl v2), (3, .inl v3), (4, .inl v4)] [] := by
  intro v0 v2 v3 v4 w h
  unfold mX7_sumOf_h19 at h
  refine Wx.run ok kX7_sumOf 12 2 (lv' := [(0, .inr (.inr (some v0))), (2, .inl v2), (3, .inl v3), (4, .inl v4)]) (st' := [.inr (.inr (some v0)), .inl v4]) (pc' := 22) rfl ?_
  refine Wx.getI ok kX7_sumOf 14 rfl lk_RX7_202_0 h (fun t22 h => ?_)
  refine Wx.icmp_ge ok kX7_sumOf 15 (tgt := 73) rfl (by decide) h (fun hc25 h => ?_) (fun hc25 h => ?_)
  · refine Wx.sub [0, 1, 2] rfl ?_
    exact hk73 _ _ _ _ h
  · refine Wx.run ok kX7_sumOf 16 1 (lv' := [(0, .inr (.inr (some v0))), (2, .inl v2), (3, .inl v3), (4, .inl v4)]) (st' := [.inr (.inr (some v0))]) (pc' := 29) rfl ?_
    refine Wx.getR ok kX7_sumOf 17 rfl lk_RX7_67_0 h (fun t29 h => ?_)
    refine Wx.run ok kX7_sumOf 18 2 (lv' := [(0, .inr (.inr (some v0))), (2, .inl v2), (3, .inl v3), (4, .inl v4)]) (st' := [.inr (.inr (some v0)), .inl v4, .inr (.inr t29)]) (pc' := 35) rfl ?_
    refine Wx.getR ok kX7_sumOf 20 rfl lk_RX7_67_0 h (fun t35 h => ?_)
    refine Wx.run ok kX7_sumOf 21 1 (lv' := [(0, .inr (.inr (some v0))), (2, .inl v2), (3, .inl v3), (4, .inl v4)]) (st' := [.inl v4, .inr (.inr t35), .inl v4, .inr (.inr t29)]) (pc' := 40) rfl ?_
    refine Wx.iald ok kX7_sumOf 22 rfl h (fun t40 h => ?_)
    refine Wx.run ok kX7_sumOf 23 2 (lv' := [(0, .inr (.inr (some v0))), (2, .inl v2), (3, .inl v3), (4, .inl v4)]) (st' := [.inr (.inr (some v0)), .inl v2, .inl t40, .inl v4, .inr (.inr t29)]) (pc' := 43) rfl ?_
    refine Wx.getI ok kX7_sumOf 25 rfl lk_RX7_196_0 h (fun t43 h => ?_)
    refine Wx.irem ok kX7_sumOf 26 rfl h (fun t46 h => ?_)
    refine Wx.run ok kX7_sumOf 27 1 (lv' := [(0, .inr (.inr (some v0))), (2, .inl v2), (3, .inl v3), (4, .inl v4)]) (st' := [.inr (.inr (some v0)), .inl t46, .inl t40, .inl v4, .inr (.inr t29)]) (pc' := 48) rfl ?_
    refine Wx.getR ok kX7_sumOf 28 rfl lk_RX7_89_0 h (fun t48 h => ?_)
    refine Wx.run ok kX7_sumOf 29 5 (lv' := [(0, .inr (.inr (some v0))), (2, .inl v2), (3, .inl v3), (4, .inl v4)]) (st' := [.inl (((98 : Int32) * v3) + v4), .inr (.inr t48), .inl t46, .inl t40, .inl v4, .inr (.inr t29)]) (pc' := 58) rfl ?_
    refine Wx.iald ok kX7_sumOf 34 rfl h (fun t58 h => ?_)
    refine Wx.run ok kX7_sumOf 35 3 (lv' := [(0, .inr (.inr (some v0))), (2, .inl v2), (3, .inl v3), (4, .inl v4)]) (st' := [.inr (.inr (some v0)), .inl (t40 + (t46 * t58)), .inl v4, .inr (.inr t29)]) (pc' := 62) rfl ?_
    refine Wx.getI ok kX7_sumOf 38 rfl lk_RX7_196_0 h (fun t62 h => ?_)
    refine Wx.irem ok kX7_sumOf 39 rfl h (fun t65 h => ?_)
    refine Wx.iast ok kX7_sumOf 40 rfl h (fun w66 h => ?_)
    refine Wx.run ok kX7_sumOf 41 1 (lv' := [(4, .inl (v4 + (1 : Int32))), (0, .inr (.inr (some v0))), (2, .inl v2), (3, .inl v3)]) (st' := []) (pc' := 70) rfl ?_
    refine Wx.jump ok kX7_sumOf 42 (tgt := 19) rfl (by decide) ?_
    refine Wx.sub [1, 2, 3, 0] rfl ?_
    exact hr _ _ _ _ _ h
set_option maxRecDepth 100000 in
set_option maxHeartbeats 4000000 in
theorem aX7_sumOf_l19 {X : gX} (ok : gOk X cX7_sumOf RX7 5 none rmX7_sumOf) {res : gW} (hres : gRs X none res) {F : Nat} (k73 : Nat → Int32 → Int32 → gW → Option (gW)) (hk73 : ∀ (v0 : Nat) (v2 : Int32) (v3 : Int32) (w : gW), k73 v0 v2 v3 w = some res → Wx X w 0 0 73 [(0, .inr (.inr (some v0))), (2, .inl v2), (3, .inl v3)] []) : ∀ (n : Nat) (v0 : Nat) (v2 : Int32) (v3 : Int32) (v4 : Int32) (w : gW), mX7_sumOf_l19 F k73 n v0 v2 v3 v4 w = some res → Wx X w 0 0 19 [(0, .inr (.inr (some v0))), (2, .inl v2), (3, .inl v3), (4, .inl v4)] [] := by
  intro n
  induction n with
  | zero => intro v0 v2 v3 v4 w h; cases (show (none : Option (gW)) = some res from h)
  | succ n ih =>
    intro v0 v2 v3 v4 w h
    exact aX7_sumOf_h19 ok hres (F := F) (mX7_sumOf_l19 F k73 n) k73 ih hk73 v0 v2 v3 v4 w h
set_option maxRecDepth 100000 in
set_option maxHeartbeats 4000000 in
theorem aX7_sumOf_h8 {X : gX} (ok : gOk X cX7_sumOf RX7 5 none rmX7_sumOf) {res : gW} (hres : gRs X none res) {F : Nat} (r : Nat → Int32 → Int32 → gW → Option (gW)) (hr : ∀ (v0 : Nat) (v2 : Int32) (v3 : Int32) (w : gW), r v0 v2 v3 w = some res → Wx X w 0 0 8 [(0, .inr (.inr (some v0))), (2, .inl v2), (3, .inl v3)] []) : ∀ (v0 : Nat) (v2 : Int32) (v3 : Int32) (w : gW), mX7_sumOf_h8 F r v0 v2 v3 w = some res → Wx X w 0 0 8 [(0, .inr (.inr (some v0))), (2, .inl v2), (3, .inl v3)] [] := by
  intro v0 v2 v3 w h
  unfold mX7_sumOf_h8 at h
  refine Wx.run ok kX7_sumOf 6 2 (lv' := [(0, .inr (.inr (some v0))), (2, .inl v2), (3, .inl v3)]) (st' := [.inr (.inr (some v0)), .inl v3]) (pc' := 10) rfl ?_
  refine Wx.getI ok kX7_sumOf 8 rfl lk_RX7_255_0 h (fun t10 h => ?_)
  refine Wx.icmp_ge ok kX7_sumOf 9 (tgt := 86) rfl (by decide) h (fun hc13 h => ?_) (fun hc13 h => ?_)
  · exact Wx.vreturn ok kX7_sumOf 50 rfl hres h (by decide)
  · refine Wx.run ok kX7_sumOf 10 2 (lv' := [(4, .inl (0 : Int32)), (0, .inr (.inr (some v0))), (2, .inl v2), (3, .inl v3)]) (st' := []) (pc' := 19) rfl ?_
    refine Wx.sub [1, 2, 3, 0] rfl ?_
    refine aX7_sumOf_l19 ok hres (F := F) _ ?_ F _ _ _ _ _ h
    · intro v0 v2 v3 w h
      refine Wx.run ok kX7_sumOf 43 2 (lv' := [(0, .inr (.inr (some v0))), (2, .inl v2), (3, .inl v3)]) (st' := [.inr (.inr (some v0)), .inl v2]) (pc' := 75) rfl ?_
      refine Wx.getI ok kX7_sumOf 45 rfl lk_RX7_196_0 h (fun t75 h => ?_)
      refine Wx.idiv ok kX7_sumOf 46 rfl h (fun t78 h => ?_)
      refine Wx.run ok kX7_sumOf 47 2 (lv' := [(3, .inl (v3 + (1 : Int32))), (2, .inl t78), (0, .inr (.inr (some v0)))]) (st' := []) (pc' := 83) rfl ?_
      refine Wx.jump ok kX7_sumOf 49 (tgt := 8) rfl (by decide) ?_
      refine Wx.sub [2, 1, 0] rfl ?_
      exact hr _ _ _ _ h
set_option maxRecDepth 100000 in
set_option maxHeartbeats 4000000 in
theorem aX7_sumOf_l8 {X : gX} (ok : gOk X cX7_sumOf RX7 5 none rmX7_sumOf) {res : gW} (hres : gRs X none res) {F : Nat} : ∀ (n : Nat) (v0 : Nat) (v2 : Int32) (v3 : Int32) (w : gW), mX7_sumOf_l8 F n v0 v2 v3 w = some res → Wx X w 0 0 8 [(0, .inr (.inr (some v0))), (2, .inl v2), (3, .inl v3)] [] := by
  intro n
  induction n with
  | zero => intro v0 v2 v3 w h; cases (show (none : Option (gW)) = some res from h)
  | succ n ih =>
    intro v0 v2 v3 w h
    exact aX7_sumOf_h8 ok hres (F := F) (mX7_sumOf_l8 F n) ih v0 v2 v3 w h
set_option maxRecDepth 100000 in
set_option maxHeartbeats 4000000 in
theorem aX7_sumOf (l : Launch) (G : gG) {F : Nat} {v0 : Nat} {v1 : Int32} {w : gW} {res : gW} (h : mX7_sumOf F v0 v1 w = some res) : gM l yX7_sumOf cX7_sumOf 5 none rmX7_sumOf G w (gTs [.inr (.inr (some v0)), .inl v1]) none res := by
  refine gM_of (y := yX7_sumOf) (by decide +kernel) (Nat.le_of_ble_eq_true rfl) ?_
  intro X ok hl hG hres hnm
  subst hl; subst hG
  unfold mX7_sumOf at h
  show Wx X w 0 0 0 [(0, .inr (.inr (some v0))), (1, .inl v1)] []
  refine Wx.run ok kX7_sumOf 0 1 (lv' := [(0, .inr (.inr (some v0))), (1, .inl v1)]) (st' := [.inr (.inr (some v0))]) (pc' := 1) rfl ?_
  obtain ⟨a1, ha1, h⟩ := gob h
  obtain ⟨q1, hq1, h⟩ := gob h
  refine Wx.callV ok kX7_sumOf 1 rfl lm_RX7_220 cd_X7_clearLine ha1 [] none (aX7_clearLine _ _ hq1) (by decide) rfl (Nat.le_of_ble_eq_true rfl) rfl rfl ?_
  refine Wx.run ok kX7_sumOf 2 4 (lv' := [(3, .inl (0 : Int32)), (2, .inl v1), (0, .inr (.inr (some v0))), (1, .inl v1)]) (st' := []) (pc' := 8) rfl ?_
  refine Wx.sub [2, 1, 0] rfl ?_
  refine aX7_sumOf_l8 ok hres (F := F) F _ _ _ _ h
set_option maxRecDepth 100000 in
set_option maxHeartbeats 4000000 in
theorem aX7_table_b154 {X : gX} (ok : gOk X cX7_table RX7 10 (some .int) rmX7_table) {res : Int32 × gW} (hres : gRs X (some (.int res.1)) res.2) {F : Nat} (r : Nat → Int32 → Int32 → Int32 → Int32 → gW → Option (Int32 × gW)) (k170 : Nat → Int32 → Int32 → Int32 → gW → Option (Int32 × gW)) (k143 : Int32 → Int32 → Int32 → gW → Option (Int32 × gW)) (hr : ∀ (v0 : Nat) (v1 : Int32) (v3 : Int32) (v5 : Int32) (v6 : Int32) (w : gW), r v0 v1 v3 v5 v6 w = some res → Wx X w 0 0 79 [(0, .inr (.inr (some v0))), (1, .inl v1), (3, .inl v3), (5, .inl v5), (6, .inl v6)] []) (hk170 : ∀ (v0 : Nat) (v1 : Int32) (v3 : Int32) (v5 : Int32) (w : gW), k170 v0 v1 v3 v5 w = some res → Wx X w 0 0 170 [(0, .inr (.inr (some v0))), (1, .inl v1), (3, .inl v3), (5, .inl v5)] []) (hk143 : ∀ (v3 : Int32) (v5 : Int32) (v6 : Int32) (w : gW), k143 v3 v5 v6 w = some res → Wx X w 0 0 143 [(3, .inl v3), (5, .inl v5), (6, .inl v6)] []) : ∀ (v0 : Nat) (v1 : Int32) (v3 : Int32) (v5 : Int32) (v6 : Int32) (v7 : Int32) (w : gW), mX7_table_b154 F r k170 k143 v0 v1 v3 v5 v6 v7 w = some res → Wx X w 0 0 154 [(0, .inr (.inr (some v0))), (1, .inl v1), (3, .inl v3), (5, .inl v5), (6, .inl v6), (7, .inl v7)] [] := by
  intro v0 v1 v3 v5 v6 v7 w h
  unfold mX7_table_b154 at h
  refine Wx.run ok kX7_table 88 4 (lv' := [(0, .inr (.inr (some v0))), (1, .inl v1), (3, .inl v3), (5, .inl v5), (6, .inl v6), (7, .inl v7)]) (st' := [.inl v7, .inl v6, .inl v5, .inr (.inr (some v0))]) (pc' := 161) rfl ?_
  obtain ⟨a161, ha161, h⟩ := gob h
  obtain ⟨q161, hq161, h⟩ := gob h
  refine Wx.callV ok kX7_table 92 rfl lm_RX7_104 cd_X7_set ha161 [.inl v5, .inl v6, .inl v7] none (aX7_set _ _ hq161) (by decide) rfl (Nat.le_of_ble_eq_true rfl) rfl rfl ?_
  refine Wx.run ok kX7_table 93 1 (lv' := [(6, .inl (v6 + (1 : Int32))), (0, .inr (.inr (some v0))), (1, .inl v1), (3, .inl v3), (5, .inl v5), (7, .inl v7)]) (st' := []) (pc' := 167) rfl ?_
  refine Wx.jump ok kX7_table 94 (tgt := 79) rfl (by decide) ?_
  refine Wx.sub [1, 2, 3, 4, 0] rfl ?_
  exact hr _ _ _ _ _ _ h
set_option maxRecDepth 100000 in
set_option maxHeartbeats 4000000 in
theorem aX7_table_b131 {X : gX} (ok : gOk X cX7_table RX7 10 (some .int) rmX7_table) {res : Int32 × gW} (hres : gRs X (some (.int res.1)) res.2) {F : Nat} (r : Nat → Int32 → Int32 → Int32 → Int32 → gW → Option (Int32 × gW)) (k170 : Nat → Int32 → Int32 → Int32 → gW → Option (Int32 × gW)) (k143 : Int32 → Int32 → Int32 → gW → Option (Int32 × gW)) (hr : ∀ (v0 : Nat) (v1 : Int32) (v3 : Int32) (v5 : Int32) (v6 : Int32) (w : gW), r v0 v1 v3 v5 v6 w = some res → Wx X w 0 0 79 [(0, .inr (.inr (some v0))), (1, .inl v1), (3, .inl v3), (5, .inl v5), (6, .inl v6)] []) (hk170 : ∀ (v0 : Nat) (v1 : Int32) (v3 : Int32) (v5 : Int32) (w : gW), k170 v0 v1 v3 v5 w = some res → Wx X w 0 0 170 [(0, .inr (.inr (some v0))), (1, .inl v1), (3, .inl v3), (5, .inl v5)] []) (hk143 : ∀ (v3 : Int32) (v5 : Int32) (v6 : Int32) (w : gW), k143 v3 v5 v6 w = some res → Wx X w 0 0 143 [(3, .inl v3), (5, .inl v5), (6, .inl v6)] []) : ∀ (v0 : Nat) (v1 : Int32) (v3 : Int32) (v5 : Int32) (v6 : Int32) (v7 : Int32) (w : gW), mX7_table_b131 F r k170 k143 v0 v1 v3 v5 v6 v7 w = some res → Wx X w 0 0 131 [(0, .inr (.inr (some v0))), (1, .inl v1), (3, .inl v3), (5, .inl v5), (6, .inl v6), (7, .inl v7)] [] := by
  intro v0 v1 v3 v5 v6 v7 w h
  unfold mX7_table_b131 at h
  refine Wx.run ok kX7_table 75 1 (lv' := [(0, .inr (.inr (some v0))), (1, .inl v1), (3, .inl v3), (5, .inl v5), (6, .inl v6), (7, .inl v7)]) (st' := [.inl v6]) (pc' := 133) rfl ?_
  refine Wx.if_ne ok kX7_table 76 (tgt := 154) rfl (by decide) h (fun hc133 h => ?_) (fun hc133 h => ?_)
  · refine Wx.run ok kX7_table 77 2 (lv' := [(0, .inr (.inr (some v0))), (1, .inl v1), (3, .inl v3), (5, .inl v5), (6, .inl v6), (7, .inl v7)]) (st' := [.inl v5, .inl v7]) (pc' := 140) rfl ?_
    refine Wx.icmp_eq ok kX7_table 79 (tgt := 154) rfl (by decide) h (fun hc140 h => ?_) (fun hc140 h => ?_)
    · exact aX7_table_b154 ok hres (F := F) r k170 k143 hr hk170 hk143 _ _ _ _ _ _ _ h
    · refine Wx.sub [2, 3, 4] rfl ?_
      exact hk143 _ _ _ _ h
  · exact aX7_table_b154 ok hres (F := F) r k170 k143 hr hk170 hk143 _ _ _ _ _ _ _ h
set_option maxRecDepth 100000 in
set_option maxHeartbeats 4000000 in
theorem aX7_table_h79 {X : gX} (ok : gOk X cX7_table RX7 10 (some .int) rmX7_table) {res : Int32 × gW} (hres : gRs X (some (.int res.1)) res.2) {F : Nat} (r : Nat → Int32 → Int32 → Int32 → Int32 → gW → Option (Int32 × gW)) (k170 : Nat → Int32 → Int32 → Int32 → gW → Option (Int32 × gW)) (k143 : Int32 → Int32 → Int32 → gW → Option (Int32 × gW)) (hr : ∀ (v0 : Nat) (v1 : Int32) (v3 : Int32) (v5 : Int32) (v6 : Int32) (w : gW), r v0 v1 v3 v5 v6 w = some res → Wx X w 0 0 79 [(0, .inr (.inr (some v0))), (1, .inl v1), (3, .inl v3), (5, .inl v5), (6, .inl v6)] []) (hk170 : ∀ (v0 : Nat) (v1 : Int32) (v3 : Int32) (v5 : Int32) (w : gW), k170 v0 v1 v3 v5 w = some res → Wx X w 0 0 170 [(0, .inr (.inr (some v0))), (1, .inl v1), (3, .inl v3), (5, .inl v5)] []) (hk143 : ∀ (v3 : Int32) (v5 : Int32) (v6 : Int32) (w : gW), k143 v3 v5 v6 w = some res → Wx X w 0 0 143 [(3, .inl v3), (5, .inl v5), (6, .inl v6)] []) : ∀ (v0 : Nat) (v1 : Int32) (v3 : Int32) (v5 : Int32) (v6 : Int32) (w : gW), mX7_table_h79 F r k170 k143 v0 v1 v3 v5 v6 w = some res → Wx X w 0 0 79 [(0, .inr (.inr (some v0))), (1, .inl v1), (3, .inl v3), (5, .inl v5), (6, .inl v6)] [] := by
  intro v0 v1 v3 v5 v6 w h
  unfold mX7_table_h79 at h
  refine Wx.run ok kX7_table 45 2 (lv' := [(0, .inr (.inr (some v0))), (1, .inl v1), (3, .inl v3), (5, .inl v5), (6, .inl v6)]) (st' := [.inl v3, .inl v6]) (pc' := 82) rfl ?_
  refine Wx.icmp_ge ok kX7_table 47 (tgt := 170) rfl (by decide) h (fun hc82 h => ?_) (fun hc82 h => ?_)
  · refine Wx.sub [0, 1, 2, 3] rfl ?_
    exact hk170 _ _ _ _ _ h
  · refine Wx.run ok kX7_table 48 1 (lv' := [(0, .inr (.inr (some v0))), (1, .inl v1), (3, .inl v3), (5, .inl v5), (6, .inl v6)]) (st' := [.inr (.inr (some v0))]) (pc' := 86) rfl ?_
    refine Wx.getR ok kX7_table 49 rfl lk_RX7_26_0 h (fun t86 h => ?_)
    refine Wx.run ok kX7_table 50 9 (lv' := [(0, .inr (.inr (some v0))), (1, .inl v1), (3, .inl v3), (5, .inl v5), (6, .inl v6)]) (st' := [.inl ((((144 : Int32) * v1) + (v3 * v5)) + v6), .inr (.inr t86)]) (pc' := 102) rfl ?_
    refine Wx.iald ok kX7_table 59 rfl h (fun t102 h => ?_)
    refine Wx.run ok kX7_table 60 8 (lv' := [(7, .inl t102), (0, .inr (.inr (some v0))), (1, .inl v1), (3, .inl v3), (5, .inl v5), (6, .inl v6)]) (st' := [.inr (.inl (((v3 - (1 : Int32))).toInt64)), .inr (.inl (0 : Int64)), .inr (.inl ((t102).toInt64))]) (pc' := 113) rfl ?_
    obtain ⟨q113, hq113, h⟩ := gob h
    refine Wx.callS ok kX7_table 68 rfl lm_RX7_100 cd_X7_in [.inr (.inl ((t102).toInt64)), .inr (.inl (0 : Int64)), .inr (.inl (((v3 - (1 : Int32))).toInt64))] (some (.inl q113.1)) (aX7_in _ _ hq113) (by decide) rfl (Nat.le_of_ble_eq_true rfl) rfl rfl ?_
    refine Wx.if_eq ok kX7_table 69 (tgt := 143) rfl (by decide) h (fun hc116 h => ?_) (fun hc116 h => ?_)
    · refine Wx.sub [3, 4, 5] rfl ?_
      exact hk143 _ _ _ _ h
    · refine Wx.run ok kX7_table 70 1 (lv' := [(7, .inl t102), (0, .inr (.inr (some v0))), (1, .inl v1), (3, .inl v3), (5, .inl v5), (6, .inl v6)]) (st' := [.inl v5]) (pc' := 121) rfl ?_
      refine Wx.if_ne ok kX7_table 71 (tgt := 131) rfl (by decide) h (fun hc121 h => ?_) (fun hc121 h => ?_)
      · refine Wx.run ok kX7_table 72 2 (lv' := [(7, .inl t102), (0, .inr (.inr (some v0))), (1, .inl v1), (3, .inl v3), (5, .inl v5), (6, .inl v6)]) (st' := [.inl v6, .inl t102]) (pc' := 128) rfl ?_
        refine Wx.icmp_ne ok kX7_table 74 (tgt := 143) rfl (by decide) h (fun hc128 h => ?_) (fun hc128 h => ?_)
        · refine Wx.sub [1, 2, 3, 4, 5, 0] rfl ?_
          exact aX7_table_b131 ok hres (F := F) r k170 k143 hr hk170 hk143 _ _ _ _ _ _ _ h
        · refine Wx.sub [3, 4, 5] rfl ?_
          exact hk143 _ _ _ _ h
      · refine Wx.sub [1, 2, 3, 4, 5, 0] rfl ?_
        exact aX7_table_b131 ok hres (F := F) r k170 k143 hr hk170 hk143 _ _ _ _ _ _ _ h
set_option maxRecDepth 100000 in
set_option maxHeartbeats 4000000 in
theorem aX7_table_l79 {X : gX} (ok : gOk X cX7_table RX7 10 (some .int) rmX7_table) {res : Int32 × gW} (hres : gRs X (some (.int res.1)) res.2) {F : Nat} (k170 : Nat → Int32 → Int32 → Int32 → gW → Option (Int32 × gW)) (k143 : Int32 → Int32 → Int32 → gW → Option (Int32 × gW)) (hk170 : ∀ (v0 : Nat) (v1 : Int32) (v3 : Int32) (v5 : Int32) (w : gW), k170 v0 v1 v3 v5 w = some res → Wx X w 0 0 170 [(0, .inr (.inr (some v0))), (1, .inl v1), (3, .inl v3), (5, .inl v5)] []) (hk143 : ∀ (v3 : Int32) (v5 : Int32) (v6 : Int32) (w : gW), k143 v3 v5 v6 w = some res → Wx X w 0 0 143 [(3, .inl v3), (5, .inl v5), (6, .inl v6)] []) : ∀ (n : Nat) (v0 : Nat) (v1 : Int32) (v3 : Int32) (v5 : Int32) (v6 : Int32) (w : gW), mX7_table_l79 F k170 k143 n v0 v1 v3 v5 v6 w = some res → Wx X w 0 0 79 [(0, .inr (.inr (some v0))), (1, .inl v1), (3, .inl v3), (5, .inl v5), (6, .inl v6)] [] := by
  intro n
  induction n with
  | zero => intro v0 v1 v3 v5 v6 w h; cases (show (none : Option (Int32 × gW)) = some res from h)
  | succ n ih =>
    intro v0 v1 v3 v5 v6 w h
    exact aX7_table_h79 ok hres (F := F) (mX7_table_l79 F k170 k143 n) k170 k143 ih hk170 hk143 v0 v1 v3 v5 v6 w h
set_option maxRecDepth 100000 in
set_option maxHeartbeats 4000000 in
theorem aX7_table_h70 {X : gX} (ok : gOk X cX7_table RX7 10 (some .int) rmX7_table) {res : Int32 × gW} (hres : gRs X (some (.int res.1)) res.2) {F : Nat} (r : Nat → Int32 → Int32 → Int32 → gW → Option (Int32 × gW)) (k176 : Nat → Int32 → gW → Option (Int32 × gW)) (k143 : Int32 → Int32 → Int32 → gW → Option (Int32 × gW)) (hr : ∀ (v0 : Nat) (v1 : Int32) (v3 : Int32) (v5 : Int32) (w : gW), r v0 v1 v3 v5 w = some res → Wx X w 0 0 70 [(0, .inr (.inr (some v0))), (1, .inl v1), (3, .inl v3), (5, .inl v5)] []) (hk176 : ∀ (v0 : Nat) (v3 : Int32) (w : gW), k176 v0 v3 w = some res → Wx X w 0 0 176 [(0, .inr (.inr (some v0))), (3, .inl v3)] []) (hk143 : ∀ (v3 : Int32) (v5 : Int32) (v6 : Int32) (w : gW), k143 v3 v5 v6 w = some res → Wx X w 0 0 143 [(3, .inl v3), (5, .inl v5), (6, .inl v6)] []) : ∀ (v0 : Nat) (v1 : Int32) (v3 : Int32) (v5 : Int32) (w : gW), mX7_table_h70 F r k176 k143 v0 v1 v3 v5 w = some res → Wx X w 0 0 70 [(0, .inr (.inr (some v0))), (1, .inl v1), (3, .inl v3), (5, .inl v5)] [] := by
  intro v0 v1 v3 v5 w h
  unfold mX7_table_h70 at h
  refine Wx.run ok kX7_table 40 2 (lv' := [(0, .inr (.inr (some v0))), (1, .inl v1), (3, .inl v3), (5, .inl v5)]) (st' := [.inl v3, .inl v5]) (pc' := 73) rfl ?_
  refine Wx.icmp_ge ok kX7_table 42 (tgt := 176) rfl (by decide) h (fun hc73 h => ?_) (fun hc73 h => ?_)
  · refine Wx.sub [0, 2] rfl ?_
    exact hk176 _ _ _ h
  · refine Wx.run ok kX7_table 43 2 (lv' := [(6, .inl (0 : Int32)), (0, .inr (.inr (some v0))), (1, .inl v1), (3, .inl v3), (5, .inl v5)]) (st' := []) (pc' := 79) rfl ?_
    refine Wx.sub [1, 2, 3, 4, 0] rfl ?_
    refine aX7_table_l79 ok hres (F := F) _ _ ?_ ?_ F _ _ _ _ _ _ h
    · intro v0 v1 v3 v5 w h
      refine Wx.run ok kX7_table 95 1 (lv' := [(5, .inl (v5 + (1 : Int32))), (0, .inr (.inr (some v0))), (1, .inl v1), (3, .inl v3)]) (st' := []) (pc' := 173) rfl ?_
      refine Wx.jump ok kX7_table 96 (tgt := 70) rfl (by decide) ?_
      refine Wx.sub [1, 2, 3, 0] rfl ?_
      exact hr _ _ _ _ _ h
    · intro v3 v5 v6 w h
      exact hk143 _ _ _ _ h
set_option maxRecDepth 100000 in
set_option maxHeartbeats 4000000 in
theorem aX7_table_l70 {X : gX} (ok : gOk X cX7_table RX7 10 (some .int) rmX7_table) {res : Int32 × gW} (hres : gRs X (some (.int res.1)) res.2) {F : Nat} (k176 : Nat → Int32 → gW → Option (Int32 × gW)) (k143 : Int32 → Int32 → Int32 → gW → Option (Int32 × gW)) (hk176 : ∀ (v0 : Nat) (v3 : Int32) (w : gW), k176 v0 v3 w = some res → Wx X w 0 0 176 [(0, .inr (.inr (some v0))), (3, .inl v3)] []) (hk143 : ∀ (v3 : Int32) (v5 : Int32) (v6 : Int32) (w : gW), k143 v3 v5 v6 w = some res → Wx X w 0 0 143 [(3, .inl v3), (5, .inl v5), (6, .inl v6)] []) : ∀ (n : Nat) (v0 : Nat) (v1 : Int32) (v3 : Int32) (v5 : Int32) (w : gW), mX7_table_l70 F k176 k143 n v0 v1 v3 v5 w = some res → Wx X w 0 0 70 [(0, .inr (.inr (some v0))), (1, .inl v1), (3, .inl v3), (5, .inl v5)] [] := by
  intro n
  induction n with
  | zero => intro v0 v1 v3 v5 w h; cases (show (none : Option (Int32 × gW)) = some res from h)
  | succ n ih =>
    intro v0 v1 v3 v5 w h
    exact aX7_table_h70 ok hres (F := F) (mX7_table_l70 F k176 k143 n) k176 k143 ih hk176 hk143 v0 v1 v3 v5 w h
set_option maxRecDepth 100000 in
set_option maxHeartbeats 4000000 in
theorem aX7_table_h185 {X : gX} (ok : gOk X cX7_table RX7 10 (some .int) rmX7_table) {res : Int32 × gW} (hres : gRs X (some (.int res.1)) res.2) {F : Nat} (r : Nat → Int32 → Int32 → Int32 → gW → Option (Int32 × gW)) (k269 : Nat → Int32 → Int32 → gW → Option (Int32 × gW)) (hr : ∀ (v0 : Nat) (v3 : Int32) (v5 : Int32) (v6 : Int32) (w : gW), r v0 v3 v5 v6 w = some res → Wx X w 0 0 185 [(0, .inr (.inr (some v0))), (3, .inl v3), (5, .inl v5), (6, .inl v6)] []) (hk269 : ∀ (v0 : Nat) (v3 : Int32) (v5 : Int32) (w : gW), k269 v0 v3 v5 w = some res → Wx X w 0 0 269 [(0, .inr (.inr (some v0))), (3, .inl v3), (5, .inl v5)] []) : ∀ (v0 : Nat) (v3 : Int32) (v5 : Int32) (v6 : Int32) (w : gW), mX7_table_h185 F r k269 v0 v3 v5 v6 w = some res → Wx X w 0 0 185 [(0, .inr (.inr (some v0))), (3, .inl v3), (5, .inl v5), (6, .inl v6)] [] := by
  intro v0 v3 v5 v6 w h
  unfold mX7_table_h185 at h
  refine Wx.run ok kX7_table 102 6 (lv' := [(0, .inr (.inr (some v0))), (3, .inl v3), (5, .inl v5), (6, .inl v6)]) (st' := [.inl ((v3 * v3) * v3), .inl v6]) (pc' := 192) rfl ?_
  refine Wx.icmp_ge ok kX7_table 108 (tgt := 269) rfl (by decide) h (fun hc192 h => ?_) (fun hc192 h => ?_)
  · refine Wx.sub [0, 1, 2] rfl ?_
    exact hk269 _ _ _ _ h
  · refine Wx.run ok kX7_table 109 4 (lv' := [(0, .inr (.inr (some v0))), (3, .inl v3), (5, .inl v5), (6, .inl v6)]) (st' := [.inl (v3 * v3), .inl v6]) (pc' := 200) rfl ?_
    refine Wx.idiv ok kX7_table 113 rfl h (fun t200 h => ?_)
    refine Wx.run ok kX7_table 114 3 (lv' := [(7, .inl t200), (0, .inr (.inr (some v0))), (3, .inl v3), (5, .inl v5), (6, .inl v6)]) (st' := [.inl v3, .inl v6]) (pc' := 206) rfl ?_
    refine Wx.idiv ok kX7_table 117 rfl h (fun t206 h => ?_)
    refine Wx.run ok kX7_table 118 1 (lv' := [(7, .inl t200), (0, .inr (.inr (some v0))), (3, .inl v3), (5, .inl v5), (6, .inl v6)]) (st' := [.inl v3, .inl t206]) (pc' := 208) rfl ?_
    refine Wx.irem ok kX7_table 119 rfl h (fun t208 h => ?_)
    refine Wx.run ok kX7_table 120 3 (lv' := [(8, .inl t208), (7, .inl t200), (0, .inr (.inr (some v0))), (3, .inl v3), (5, .inl v5), (6, .inl v6)]) (st' := [.inl v3, .inl v6]) (pc' := 214) rfl ?_
    refine Wx.irem ok kX7_table 123 rfl h (fun t214 h => ?_)
    refine Wx.run ok kX7_table 124 7 (lv' := [(9, .inl t214), (8, .inl t208), (7, .inl t200), (0, .inr (.inr (some v0))), (3, .inl v3), (5, .inl v5), (6, .inl v6)]) (st' := [.inl t208, .inl t200, .inl v5, .inr (.inr (some v0)), .inl v5, .inr (.inr (some v0))]) (pc' := 227) rfl ?_
    obtain ⟨a227, ha227, h⟩ := gob h
    obtain ⟨q227, hq227, h⟩ := gob h
    refine Wx.callV ok kX7_table 131 rfl lm_RX7_118 cd_X7_prod ha227 [.inl v5, .inl t200, .inl t208] (some (.inl q227.1)) (aX7_prod _ _ hq227) (by decide) rfl (Nat.le_of_ble_eq_true rfl) rfl rfl ?_
    refine Wx.run ok kX7_table 132 1 (lv' := [(9, .inl t214), (8, .inl t208), (7, .inl t200), (0, .inr (.inr (some v0))), (3, .inl v3), (5, .inl v5), (6, .inl v6)]) (st' := [.inl t214, .inl q227.1, .inl v5, .inr (.inr (some v0))]) (pc' := 232) rfl ?_
    obtain ⟨a232, ha232, h⟩ := gob h
    obtain ⟨q232, hq232, h⟩ := gob h
    refine Wx.callV ok kX7_table 133 rfl lm_RX7_118 cd_X7_prod ha232 [.inl v5, .inl q227.1, .inl t214] (some (.inl q232.1)) (aX7_prod _ _ hq232) (by decide) rfl (Nat.le_of_ble_eq_true rfl) rfl rfl ?_
    refine Wx.run ok kX7_table 134 7 (lv' := [(9, .inl t214), (8, .inl t208), (7, .inl t200), (0, .inr (.inr (some v0))), (3, .inl v3), (5, .inl v5), (6, .inl v6)]) (st' := [.inl t214, .inl t208, .inl v5, .inr (.inr (some v0)), .inl t200, .inl v5, .inr (.inr (some v0)), .inl q232.1]) (pc' := 247) rfl ?_
    obtain ⟨a247, ha247, h⟩ := gob h
    obtain ⟨q247, hq247, h⟩ := gob h
    refine Wx.callV ok kX7_table 141 rfl lm_RX7_118 cd_X7_prod ha247 [.inl v5, .inl t208, .inl t214] (some (.inl q247.1)) (aX7_prod _ _ hq247) (by decide) rfl (Nat.le_of_ble_eq_true rfl) rfl rfl ?_
    obtain ⟨a250, ha250, h⟩ := gob h
    obtain ⟨q250, hq250, h⟩ := gob h
    refine Wx.callV ok kX7_table 142 rfl lm_RX7_118 cd_X7_prod ha250 [.inl v5, .inl t200, .inl q247.1] (some (.inl q250.1)) (aX7_prod _ _ hq250) (by decide) rfl (Nat.le_of_ble_eq_true rfl) rfl rfl ?_
    refine Wx.icmp_eq ok kX7_table 143 (tgt := 263) rfl (by decide) h (fun hc253 h => ?_) (fun hc253 h => ?_)
    · refine Wx.run ok kX7_table 148 1 (lv' := [(6, .inl (v6 + (1 : Int32))), (9, .inl t214), (8, .inl t208), (7, .inl t200), (0, .inr (.inr (some v0))), (3, .inl v3), (5, .inl v5)]) (st' := []) (pc' := 266) rfl ?_
      refine Wx.jump ok kX7_table 149 (tgt := 185) rfl (by decide) ?_
      refine Wx.sub [4, 5, 6, 0] rfl ?_
      exact hr _ _ _ _ _ h
    · refine Wx.run ok kX7_table 144 3 (lv' := [(9, .inl t214), (8, .inl t208), (7, .inl t200), (0, .inr (.inr (some v0))), (3, .inl v3), (5, .inl v5), (6, .inl v6)]) (st' := [.inl ((-1100 : Int32) - v6)]) (pc' := 262) rfl ?_
      exact Wx.ireturn ok kX7_table 147 rfl hres h (by decide)
set_option maxRecDepth 100000 in
set_option maxHeartbeats 4000000 in
theorem aX7_table_l185 {X : gX} (ok : gOk X cX7_table RX7 10 (some .int) rmX7_table) {res : Int32 × gW} (hres : gRs X (some (.int res.1)) res.2) {F : Nat} (k269 : Nat → Int32 → Int32 → gW → Option (Int32 × gW)) (hk269 : ∀ (v0 : Nat) (v3 : Int32) (v5 : Int32) (w : gW), k269 v0 v3 v5 w = some res → Wx X w 0 0 269 [(0, .inr (.inr (some v0))), (3, .inl v3), (5, .inl v5)] []) : ∀ (n : Nat) (v0 : Nat) (v3 : Int32) (v5 : Int32) (v6 : Int32) (w : gW), mX7_table_l185 F k269 n v0 v3 v5 v6 w = some res → Wx X w 0 0 185 [(0, .inr (.inr (some v0))), (3, .inl v3), (5, .inl v5), (6, .inl v6)] [] := by
  intro n
  induction n with
  | zero => intro v0 v3 v5 v6 w h; cases (show (none : Option (Int32 × gW)) = some res from h)
  | succ n ih =>
    intro v0 v3 v5 v6 w h
    exact aX7_table_h185 ok hres (F := F) (mX7_table_l185 F k269 n) k269 ih hk269 v0 v3 v5 v6 w h
set_option maxRecDepth 100000 in
set_option maxHeartbeats 4000000 in
theorem aX7_table_b313 {X : gX} (ok : gOk X cX7_table RX7 10 (some .int) rmX7_table) {res : Int32 × gW} (hres : gRs X (some (.int res.1)) res.2) {F : Nat} (r : Nat → Int32 → Int32 → Int32 → Int32 → Int32 → gW → Option (Int32 × gW)) (k321 : Nat → Int32 → Int32 → Int32 → Int32 → gW → Option (Int32 × gW)) (hr : ∀ (v0 : Nat) (v3 : Int32) (v5 : Int32) (v6 : Int32) (v7 : Int32) (v8 : Int32) (w : gW), r v0 v3 v5 v6 v7 v8 w = some res → Wx X w 0 0 284 [(0, .inr (.inr (some v0))), (3, .inl v3), (5, .inl v5), (6, .inl v6), (7, .inl v7), (8, .inl v8)] []) (hk321 : ∀ (v0 : Nat) (v3 : Int32) (v5 : Int32) (v6 : Int32) (v7 : Int32) (w : gW), k321 v0 v3 v5 v6 v7 w = some res → Wx X w 0 0 321 [(0, .inr (.inr (some v0))), (3, .inl v3), (5, .inl v5), (6, .inl v6), (7, .inl v7)] []) : ∀ (v0 : Nat) (v3 : Int32) (v5 : Int32) (v6 : Int32) (v8 : Int32) (s0 : Int32) (w : gW), mX7_table_b313 F r k321 v0 v3 v5 v6 v8 s0 w = some res → Wx X w 0 0 313 [(0, .inr (.inr (some v0))), (3, .inl v3), (5, .inl v5), (6, .inl v6), (8, .inl v8)] [.inl s0] := by
  intro v0 v3 v5 v6 v8 s0 w h
  unfold mX7_table_b313 at h
  refine Wx.run ok kX7_table 173 2 (lv' := [(8, .inl (v8 + (1 : Int32))), (7, .inl s0), (0, .inr (.inr (some v0))), (3, .inl v3), (5, .inl v5), (6, .inl v6)]) (st' := []) (pc' := 318) rfl ?_
  refine Wx.jump ok kX7_table 175 (tgt := 284) rfl (by decide) ?_
  refine Wx.sub [2, 3, 4, 5, 1, 0] rfl ?_
  exact hr _ _ _ _ _ _ _ h
set_option maxRecDepth 100000 in
set_option maxHeartbeats 4000000 in
theorem aX7_table_b308 {X : gX} (ok : gOk X cX7_table RX7 10 (some .int) rmX7_table) {res : Int32 × gW} (hres : gRs X (some (.int res.1)) res.2) {F : Nat} (r : Nat → Int32 → Int32 → Int32 → Int32 → Int32 → gW → Option (Int32 × gW)) (k321 : Nat → Int32 → Int32 → Int32 → Int32 → gW → Option (Int32 × gW)) (hr : ∀ (v0 : Nat) (v3 : Int32) (v5 : Int32) (v6 : Int32) (v7 : Int32) (v8 : Int32) (w : gW), r v0 v3 v5 v6 v7 v8 w = some res → Wx X w 0 0 284 [(0, .inr (.inr (some v0))), (3, .inl v3), (5, .inl v5), (6, .inl v6), (7, .inl v7), (8, .inl v8)] []) (hk321 : ∀ (v0 : Nat) (v3 : Int32) (v5 : Int32) (v6 : Int32) (v7 : Int32) (w : gW), k321 v0 v3 v5 v6 v7 w = some res → Wx X w 0 0 321 [(0, .inr (.inr (some v0))), (3, .inl v3), (5, .inl v5), (6, .inl v6), (7, .inl v7)] []) : ∀ (v0 : Nat) (v3 : Int32) (v5 : Int32) (v6 : Int32) (v8 : Int32) (w : gW), mX7_table_b308 F r k321 v0 v3 v5 v6 v8 w = some res → Wx X w 0 0 308 [(0, .inr (.inr (some v0))), (3, .inl v3), (5, .inl v5), (6, .inl v6), (8, .inl v8)] [] := by
  intro v0 v3 v5 v6 v8 w h
  unfold mX7_table_b308 at h
  refine Wx.run ok kX7_table 170 1 (lv' := [(0, .inr (.inr (some v0))), (3, .inl v3), (5, .inl v5), (6, .inl v6), (8, .inl v8)]) (st' := [.inl (1 : Int32)]) (pc' := 309) rfl ?_
  refine Wx.jump ok kX7_table 171 (tgt := 313) rfl (by decide) ?_
  exact aX7_table_b313 ok hres (F := F) r k321 hr hk321 _ _ _ _ _ _ _ h
set_option maxRecDepth 100000 in
set_option maxHeartbeats 4000000 in
theorem aX7_table_h284 {X : gX} (ok : gOk X cX7_table RX7 10 (some .int) rmX7_table) {res : Int32 × gW} (hres : gRs X (some (.int res.1)) res.2) {F : Nat} (r : Nat → Int32 → Int32 → Int32 → Int32 → Int32 → gW → Option (Int32 × gW)) (k321 : Nat → Int32 → Int32 → Int32 → Int32 → gW → Option (Int32 × gW)) (hr : ∀ (v0 : Nat) (v3 : Int32) (v5 : Int32) (v6 : Int32) (v7 : Int32) (v8 : Int32) (w : gW), r v0 v3 v5 v6 v7 v8 w = some res → Wx X w 0 0 284 [(0, .inr (.inr (some v0))), (3, .inl v3), (5, .inl v5), (6, .inl v6), (7, .inl v7), (8, .inl v8)] []) (hk321 : ∀ (v0 : Nat) (v3 : Int32) (v5 : Int32) (v6 : Int32) (v7 : Int32) (w : gW), k321 v0 v3 v5 v6 v7 w = some res → Wx X w 0 0 321 [(0, .inr (.inr (some v0))), (3, .inl v3), (5, .inl v5), (6, .inl v6), (7, .inl v7)] []) : ∀ (v0 : Nat) (v3 : Int32) (v5 : Int32) (v6 : Int32) (v7 : Int32) (v8 : Int32) (w : gW), mX7_table_h284 F r k321 v0 v3 v5 v6 v7 v8 w = some res → Wx X w 0 0 284 [(0, .inr (.inr (some v0))), (3, .inl v3), (5, .inl v5), (6, .inl v6), (7, .inl v7), (8, .inl v8)] [] := by
  intro v0 v3 v5 v6 v7 v8 w h
  unfold mX7_table_h284 at h
  refine Wx.run ok kX7_table 159 2 (lv' := [(0, .inr (.inr (some v0))), (3, .inl v3), (5, .inl v5), (6, .inl v6), (7, .inl v7), (8, .inl v8)]) (st' := [.inl v3, .inl v8]) (pc' := 287) rfl ?_
  refine Wx.icmp_ge ok kX7_table 161 (tgt := 321) rfl (by decide) h (fun hc287 h => ?_) (fun hc287 h => ?_)
  · refine Wx.sub [0, 1, 2, 3, 4] rfl ?_
    exact hk321 _ _ _ _ _ _ h
  · refine Wx.run ok kX7_table 162 1 (lv' := [(0, .inr (.inr (some v0))), (3, .inl v3), (5, .inl v5), (6, .inl v6), (7, .inl v7), (8, .inl v8)]) (st' := [.inl v7]) (pc' := 292) rfl ?_
    refine Wx.if_ne ok kX7_table 163 (tgt := 308) rfl (by decide) h (fun hc292 h => ?_) (fun hc292 h => ?_)
    · refine Wx.run ok kX7_table 164 4 (lv' := [(0, .inr (.inr (some v0))), (3, .inl v3), (5, .inl v5), (6, .inl v6), (7, .inl v7), (8, .inl v8)]) (st' := [.inl v8, .inl v6, .inl v5, .inr (.inr (some v0))]) (pc' := 302) rfl ?_
      obtain ⟨a302, ha302, h⟩ := gob h
      obtain ⟨q302, hq302, h⟩ := gob h
      refine Wx.callV ok kX7_table 168 rfl lm_RX7_118 cd_X7_prod ha302 [.inl v5, .inl v6, .inl v8] (some (.inl q302.1)) (aX7_prod _ _ hq302) (by decide) rfl (Nat.le_of_ble_eq_true rfl) rfl rfl ?_
      refine Wx.if_ne ok kX7_table 169 (tgt := 312) rfl (by decide) h (fun hc305 h => ?_) (fun hc305 h => ?_)
      · refine Wx.sub [0, 1, 2, 3, 5] rfl ?_
        exact aX7_table_b308 ok hres (F := F) r k321 hr hk321 _ _ _ _ _ _ h
      · refine Wx.run ok kX7_table 172 1 (lv' := [(0, .inr (.inr (some v0))), (3, .inl v3), (5, .inl v5), (6, .inl v6), (7, .inl v7), (8, .inl v8)]) (st' := [.inl (0 : Int32)]) (pc' := 313) rfl ?_
        refine Wx.sub [0, 1, 2, 3, 5] rfl ?_
        exact aX7_table_b313 ok hres (F := F) r k321 hr hk321 _ _ _ _ _ _ _ h
    · refine Wx.sub [0, 1, 2, 3, 5] rfl ?_
      exact aX7_table_b308 ok hres (F := F) r k321 hr hk321 _ _ _ _ _ _ h
set_option maxRecDepth 100000 in
set_option maxHeartbeats 4000000 in
theorem aX7_table_l284 {X : gX} (ok : gOk X cX7_table RX7 10 (some .int) rmX7_table) {res : Int32 × gW} (hres : gRs X (some (.int res.1)) res.2) {F : Nat} (k321 : Nat → Int32 → Int32 → Int32 → Int32 → gW → Option (Int32 × gW)) (hk321 : ∀ (v0 : Nat) (v3 : Int32) (v5 : Int32) (v6 : Int32) (v7 : Int32) (w : gW), k321 v0 v3 v5 v6 v7 w = some res → Wx X w 0 0 321 [(0, .inr (.inr (some v0))), (3, .inl v3), (5, .inl v5), (6, .inl v6), (7, .inl v7)] []) : ∀ (n : Nat) (v0 : Nat) (v3 : Int32) (v5 : Int32) (v6 : Int32) (v7 : Int32) (v8 : Int32) (w : gW), mX7_table_l284 F k321 n v0 v3 v5 v6 v7 v8 w = some res → Wx X w 0 0 284 [(0, .inr (.inr (some v0))), (3, .inl v3), (5, .inl v5), (6, .inl v6), (7, .inl v7), (8, .inl v8)] [] := by
  intro n
  induction n with
  | zero => intro v0 v3 v5 v6 v7 v8 w h; cases (show (none : Option (Int32 × gW)) = some res from h)
  | succ n ih =>
    intro v0 v3 v5 v6 v7 v8 w h
    exact aX7_table_h284 ok hres (F := F) (mX7_table_l284 F k321 n) k321 ih hk321 v0 v3 v5 v6 v7 v8 w h
set_option maxRecDepth 100000 in
set_option maxHeartbeats 4000000 in
theorem aX7_table_h272 {X : gX} (ok : gOk X cX7_table RX7 10 (some .int) rmX7_table) {res : Int32 × gW} (hres : gRs X (some (.int res.1)) res.2) {F : Nat} (r : Nat → Int32 → Int32 → Int32 → gW → Option (Int32 × gW)) (k339 : Nat → Int32 → gW → Option (Int32 × gW)) (hr : ∀ (v0 : Nat) (v3 : Int32) (v5 : Int32) (v6 : Int32) (w : gW), r v0 v3 v5 v6 w = some res → Wx X w 0 0 272 [(0, .inr (.inr (some v0))), (3, .inl v3), (5, .inl v5), (6, .inl v6)] []) (hk339 : ∀ (v0 : Nat) (v3 : Int32) (w : gW), k339 v0 v3 w = some res → Wx X w 0 0 339 [(0, .inr (.inr (some v0))), (3, .inl v3)] []) : ∀ (v0 : Nat) (v3 : Int32) (v5 : Int32) (v6 : Int32) (w : gW), mX7_table_h272 F r k339 v0 v3 v5 v6 w = some res → Wx X w 0 0 272 [(0, .inr (.inr (some v0))), (3, .inl v3), (5, .inl v5), (6, .inl v6)] [] := by
  intro v0 v3 v5 v6 w h
  unfold mX7_table_h272 at h
  refine Wx.run ok kX7_table 152 2 (lv' := [(0, .inr (.inr (some v0))), (3, .inl v3), (5, .inl v5), (6, .inl v6)]) (st' := [.inl v3, .inl v6]) (pc' := 275) rfl ?_
  refine Wx.icmp_ge ok kX7_table 154 (tgt := 339) rfl (by decide) h (fun hc275 h => ?_) (fun hc275 h => ?_)
  · refine Wx.sub [0, 1] rfl ?_
    exact hk339 _ _ _ h
  · refine Wx.run ok kX7_table 155 4 (lv' := [(8, .inl (0 : Int32)), (7, .inl (0 : Int32)), (0, .inr (.inr (some v0))), (3, .inl v3), (5, .inl v5), (6, .inl v6)]) (st' := []) (pc' := 284) rfl ?_
    refine Wx.sub [2, 3, 4, 5, 1, 0] rfl ?_
    refine aX7_table_l284 ok hres (F := F) _ ?_ F _ _ _ _ _ _ _ h
    · intro v0 v3 v5 v6 v7 w h
      refine Wx.run ok kX7_table 176 1 (lv' := [(0, .inr (.inr (some v0))), (3, .inl v3), (5, .inl v5), (6, .inl v6), (7, .inl v7)]) (st' := [.inl v7]) (pc' := 323) rfl ?_
      refine Wx.if_ne ok kX7_table 177 (tgt := 333) rfl (by decide) h (fun hc323 h => ?_) (fun hc323 h => ?_)
      · refine Wx.run ok kX7_table 178 3 (lv' := [(0, .inr (.inr (some v0))), (3, .inl v3), (5, .inl v5), (6, .inl v6), (7, .inl v7)]) (st' := [.inl ((-3100 : Int32) - v6)]) (pc' := 332) rfl ?_
        exact Wx.ireturn ok kX7_table 181 rfl hres h (by decide)
      · refine Wx.run ok kX7_table 182 1 (lv' := [(6, .inl (v6 + (1 : Int32))), (0, .inr (.inr (some v0))), (3, .inl v3), (5, .inl v5), (7, .inl v7)]) (st' := []) (pc' := 336) rfl ?_
        refine Wx.jump ok kX7_table 183 (tgt := 272) rfl (by decide) ?_
        refine Wx.sub [1, 2, 3, 0] rfl ?_
        exact hr _ _ _ _ _ h
set_option maxRecDepth 100000 in
set_option maxHeartbeats 4000000 in
theorem aX7_table_l272 {X : gX} (ok : gOk X cX7_table RX7 10 (some .int) rmX7_table) {res : Int32 × gW} (hres : gRs X (some (.int res.1)) res.2) {F : Nat} (k339 : Nat → Int32 → gW → Option (Int32 × gW)) (hk339 : ∀ (v0 : Nat) (v3 : Int32) (w : gW), k339 v0 v3 w = some res → Wx X w 0 0 339 [(0, .inr (.inr (some v0))), (3, .inl v3)] []) : ∀ (n : Nat) (v0 : Nat) (v3 : Int32) (v5 : Int32) (v6 : Int32) (w : gW), mX7_table_l272 F k339 n v0 v3 v5 v6 w = some res → Wx X w 0 0 272 [(0, .inr (.inr (some v0))), (3, .inl v3), (5, .inl v5), (6, .inl v6)] [] := by
  intro n
  induction n with
  | zero => intro v0 v3 v5 v6 w h; cases (show (none : Option (Int32 × gW)) = some res from h)
  | succ n ih =>
    intro v0 v3 v5 v6 w h
    exact aX7_table_h272 ok hres (F := F) (mX7_table_l272 F k339 n) k339 ih hk339 v0 v3 v5 v6 w h
set_option maxRecDepth 100000 in
set_option maxHeartbeats 4000000 in
theorem aX7_table_b143 {X : gX} (ok : gOk X cX7_table RX7 10 (some .int) rmX7_table) {res : Int32 × gW} (hres : gRs X (some (.int res.1)) res.2) {F : Nat} : ∀ (v3 : Int32) (v5 : Int32) (v6 : Int32) (w : gW), mX7_table_b143 F v3 v5 v6 w = some res → Wx X w 0 0 143 [(3, .inl v3), (5, .inl v5), (6, .inl v6)] [] := by
  intro v3 v5 v6 w h
  unfold mX7_table_b143 at h
  refine Wx.run ok kX7_table 80 7 (lv' := [(3, .inl v3), (5, .inl v5), (6, .inl v6)]) (st' := [.inl ((-100 : Int32) - ((v3 * v5) + v6))]) (pc' := 153) rfl ?_
  exact Wx.ireturn ok kX7_table 87 rfl hres h (by decide)
set_option maxRecDepth 100000 in
set_option maxHeartbeats 4000000 in
theorem aX7_table (l : Launch) (G : gG) {F : Nat} {v0 : Nat} {v1 : Int32} {v2 : Int32} {v3 : Int32} {w : gW} {res : Int32 × gW} (h : mX7_table F v0 v1 v2 v3 w = some res) : gM l yX7_table cX7_table 10 (some .int) rmX7_table G w (gTs [.inr (.inr (some v0)), .inl v1, .inl v2, .inl v3]) (some (.int res.1)) res.2 := by
  refine gM_of (y := yX7_table) (by decide +kernel) (Nat.le_of_ble_eq_true rfl) ?_
  intro X ok hl hG hres hnm
  subst hl; subst hG
  unfold mX7_table at h
  show Wx X w 0 0 0 [(0, .inr (.inr (some v0))), (1, .inl v1), (2, .inl v2), (3, .inl v3)] []
  refine Wx.run ok kX7_table 0 3 (lv' := [(0, .inr (.inr (some v0))), (1, .inl v1), (2, .inl v2), (3, .inl v3)]) (st' := [.inr (.inl (0 : Int64)), .inr (.inl ((v1).toInt64))]) (pc' := 3) rfl ?_
  refine Wx.ldc2 ok kX7_table 3 rfl gw_860 ?_
  obtain ⟨q6, hq6, h⟩ := gob h
  refine Wx.callS ok kX7_table 4 rfl lm_RX7_100 cd_X7_in [.inr (.inl ((v1).toInt64)), .inr (.inl (0 : Int64)), .inr (.inl (3 : Int64))] (some (.inl q6.1)) (aX7_in _ _ hq6) (by decide) rfl (Nat.le_of_ble_eq_true rfl) rfl rfl ?_
  refine Wx.if_eq ok kX7_table 5 (tgt := 34) rfl (by decide) h (fun hc9 h => ?_) (fun hc9 h => ?_)
  · refine Wx.run ok kX7_table 18 1 (lv' := [(0, .inr (.inr (some v0))), (1, .inl v1), (2, .inl v2), (3, .inl v3)]) (st' := [.inl (-1 : Int32)]) (pc' := 35) rfl ?_
    exact Wx.ireturn ok kX7_table 19 rfl hres h (by decide)
  · refine Wx.run ok kX7_table 6 4 (lv' := [(0, .inr (.inr (some v0))), (1, .inl v1), (2, .inl v2), (3, .inl v3)]) (st' := [.inr (.inl (1 : Int64)), .inr (.inl (0 : Int64)), .inr (.inl ((v2).toInt64))]) (pc' := 16) rfl ?_
    obtain ⟨q16, hq16, h⟩ := gob h
    refine Wx.callS ok kX7_table 10 rfl lm_RX7_100 cd_X7_in [.inr (.inl ((v2).toInt64)), .inr (.inl (0 : Int64)), .inr (.inl (1 : Int64))] (some (.inl q16.1)) (aX7_in _ _ hq16) (by decide) rfl (Nat.le_of_ble_eq_true rfl) rfl rfl ?_
    refine Wx.if_eq ok kX7_table 11 (tgt := 34) rfl (by decide) h (fun hc19 h => ?_) (fun hc19 h => ?_)
    · refine Wx.run ok kX7_table 18 1 (lv' := [(0, .inr (.inr (some v0))), (1, .inl v1), (2, .inl v2), (3, .inl v3)]) (st' := [.inl (-1 : Int32)]) (pc' := 35) rfl ?_
      exact Wx.ireturn ok kX7_table 19 rfl hres h (by decide)
    · refine Wx.run ok kX7_table 12 3 (lv' := [(0, .inr (.inr (some v0))), (1, .inl v1), (2, .inl v2), (3, .inl v3)]) (st' := [.inr (.inl (1 : Int64)), .inr (.inl ((v3).toInt64))]) (pc' := 25) rfl ?_
      refine Wx.ldc2 ok kX7_table 15 rfl gw_869 ?_
      obtain ⟨q28, hq28, h⟩ := gob h
      refine Wx.callS ok kX7_table 16 rfl lm_RX7_100 cd_X7_in [.inr (.inl ((v3).toInt64)), .inr (.inl (1 : Int64)), .inr (.inl (12 : Int64))] (some (.inl q28.1)) (aX7_in _ _ hq28) (by decide) rfl (Nat.le_of_ble_eq_true rfl) rfl rfl ?_
      refine Wx.if_ne ok kX7_table 17 (tgt := 36) rfl (by decide) h (fun hc31 h => ?_) (fun hc31 h => ?_)
      · refine Wx.run ok kX7_table 18 1 (lv' := [(0, .inr (.inr (some v0))), (1, .inl v1), (2, .inl v2), (3, .inl v3)]) (st' := [.inl (-1 : Int32)]) (pc' := 35) rfl ?_
        exact Wx.ireturn ok kX7_table 19 rfl hres h (by decide)
      · refine Wx.run ok kX7_table 20 6 (lv' := [(0, .inr (.inr (some v0))), (1, .inl v1), (2, .inl v2), (3, .inl v3)]) (st' := [.inl (v3 * v3), .inl v2, .inl v1, .inr (.inr (some v0))]) (pc' := 42) rfl ?_
        obtain ⟨a42, ha42, h⟩ := gob h
        obtain ⟨q42, hq42, h⟩ := gob h
        refine Wx.callV ok kX7_table 26 rfl lm_RX7_126 cd_X7_faultOf ha42 [.inl v1, .inl v2, .inl (v3 * v3)] (some (.inl q42.1)) (aX7_faultOf _ _ hq42) (by decide) rfl (Nat.le_of_ble_eq_true rfl) rfl rfl ?_
        refine Wx.run ok kX7_table 27 2 (lv' := [(4, .inl q42.1), (0, .inr (.inr (some v0))), (1, .inl v1), (2, .inl v2), (3, .inl v3)]) (st' := [.inl q42.1]) (pc' := 49) rfl ?_
        refine Wx.if_ge ok kX7_table 29 (tgt := 55) rfl (by decide) h (fun hc49 h => ?_) (fun hc49 h => ?_)
        · refine Wx.run ok kX7_table 32 1 (lv' := [(4, .inl q42.1), (0, .inr (.inr (some v0))), (1, .inl v1), (2, .inl v2), (3, .inl v3)]) (st' := [.inr (.inr (some v0))]) (pc' := 56) rfl ?_
          refine Wx.getI ok kX7_table 33 rfl lk_RX7_95_0 h (fun t56 h => ?_)
          refine Wx.run ok kX7_table 34 1 (lv' := [(4, .inl q42.1), (0, .inr (.inr (some v0))), (1, .inl v1), (2, .inl v2), (3, .inl v3)]) (st' := [.inl (8 : Int32), .inl t56]) (pc' := 61) rfl ?_
          refine Wx.icmp_ne ok kX7_table 35 (tgt := 67) rfl (by decide) h (fun hc61 h => ?_) (fun hc61 h => ?_)
          · refine Wx.run ok kX7_table 36 1 (lv' := [(4, .inl q42.1), (0, .inr (.inr (some v0))), (1, .inl v1), (2, .inl v2), (3, .inl v3)]) (st' := [.inl (-3 : Int32)]) (pc' := 66) rfl ?_
            exact Wx.ireturn ok kX7_table 37 rfl hres h (by decide)
          · refine Wx.run ok kX7_table 38 2 (lv' := [(5, .inl (0 : Int32)), (4, .inl q42.1), (0, .inr (.inr (some v0))), (1, .inl v1), (2, .inl v2), (3, .inl v3)]) (st' := []) (pc' := 70) rfl ?_
            refine Wx.sub [2, 3, 5, 0] rfl ?_
            refine aX7_table_l70 ok hres (F := F) _ _ ?_ ?_ F _ _ _ _ _ h
            · intro v0 v3 w h
              refine Wx.run ok kX7_table 97 1 (lv' := [(0, .inr (.inr (some v0))), (3, .inl v3)]) (st' := [.inr (.inr (some v0))]) (pc' := 177) rfl ?_
              refine Wx.getI ok kX7_table 98 rfl lk_RX7_95_0 h (fun t177 h => ?_)
              refine Wx.run ok kX7_table 99 3 (lv' := [(6, .inl (0 : Int32)), (5, .inl t177), (0, .inr (.inr (some v0))), (3, .inl v3)]) (st' := []) (pc' := 185) rfl ?_
              refine Wx.sub [2, 3, 1, 0] rfl ?_
              refine aX7_table_l185 ok hres (F := F) _ ?_ F _ _ _ _ _ h
              · intro v0 v3 v5 w h
                refine Wx.run ok kX7_table 150 2 (lv' := [(6, .inl (0 : Int32)), (0, .inr (.inr (some v0))), (3, .inl v3), (5, .inl v5)]) (st' := []) (pc' := 272) rfl ?_
                refine Wx.sub [1, 2, 3, 0] rfl ?_
                refine aX7_table_l272 ok hres (F := F) _ ?_ F _ _ _ _ _ h
                · intro v0 v3 w h
                  refine Wx.run ok kX7_table 184 2 (lv' := [(0, .inr (.inr (some v0))), (3, .inl v3)]) (st' := [.inl v3, .inr (.inr (some v0))]) (pc' := 341) rfl ?_
                  obtain ⟨a341, ha341, h⟩ := gob h
                  obtain ⟨q341, hq341, h⟩ := gob h
                  refine Wx.callV ok kX7_table 186 rfl lm_RX7_108 cd_X7_added ha341 [.inl v3] (some (.inl q341.1)) (aX7_added _ _ hq341) (by decide) rfl (Nat.le_of_ble_eq_true rfl) rfl rfl ?_
                  exact Wx.ireturn ok kX7_table 187 rfl hres h (by decide)
            · intro v3 v5 v6 w h
              exact aX7_table_b143 ok hres (F := F) _ _ _ _ h
        · refine Wx.run ok kX7_table 30 1 (lv' := [(4, .inl q42.1), (0, .inr (.inr (some v0))), (1, .inl v1), (2, .inl v2), (3, .inl v3)]) (st' := [.inl q42.1]) (pc' := 54) rfl ?_
          exact Wx.ireturn ok kX7_table 31 rfl hres h (by decide)
