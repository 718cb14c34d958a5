set_option maxRecDepth 100000 in
set_option maxHeartbeats 4000000 in
theorem aJ13_bitCount_95d88 (l : Launch) (G : gG) {F : Nat} {v0 : Int64} {w : gW} {res : Int32 × gW} (h : mJ13_bitCount_95d88 F v0 w = some res) : gM l yJ13_bitCount_95d88 cJ13_bitCount_95d88 2 (some .int) rmJ13_bitCount_95d88 G w (gTs [.inr (.inl v0)]) (some (.int res.1)) res.2 := by
  refine gM_of (y := yJ13_bitCount_95d88) (by decide +kernel) (Nat.le_of_ble_eq_true rfl) ?_
  intro X ok hl hG hres hnm
  subst hl; subst hG
  unfold mJ13_bitCount_95d88 at h
  show Wx X w 0 0 0 [(0, .inr (.inl v0))] []
  refine Wx.run ok kJ13_bitCount_95d88 0 4 (lv' := [(0, .inr (.inl v0))]) (st' := [.inr (.inl ((v0).toUInt64 >>> (((1 : Int32)).toInt64.toUInt64 &&& Int64.toUInt64 63)).toInt64), .inr (.inl v0)]) (pc' := 4) rfl ?_
  refine Wx.ldc2 ok kJ13_bitCount_95d88 4 rfl gw_278 ?_
  refine Wx.run ok kJ13_bitCount_95d88 5 4 (lv' := [(0, .inr (.inl (v0 - (((v0).toUInt64 >>> (((1 : Int32)).toInt64.toUInt64 &&& Int64.toUInt64 63)).toInt64 &&& (6148914691236517205 : Int64)))))]) (st' := [.inr (.inl (v0 - (((v0).toUInt64 >>> (((1 : Int32)).toInt64.toUInt64 &&& Int64.toUInt64 63)).toInt64 &&& (6148914691236517205 : Int64))))]) (pc' := 11) rfl ?_
  refine Wx.ldc2 ok kJ13_bitCount_95d88 9 rfl gw_279 ?_
  refine Wx.run ok kJ13_bitCount_95d88 10 4 (lv' := [(0, .inr (.inl (v0 - (((v0).toUInt64 >>> (((1 : Int32)).toInt64.toUInt64 &&& Int64.toUInt64 63)).toInt64 &&& (6148914691236517205 : Int64)))))]) (st' := [.inr (.inl (((v0 - (((v0).toUInt64 >>> (((1 : Int32)).toInt64.toUInt64 &&& Int64.toUInt64 63)).toInt64 &&& (6148914691236517205 : Int64)))).toUInt64 >>> (((2 : Int32)).toInt64.toUInt64 &&& Int64.toUInt64 63)).toInt64), .inr (.inl ((v0 - (((v0).toUInt64 >>> (((1 : Int32)).toInt64.toUInt64 &&& Int64.toUInt64 63)).toInt64 &&& (6148914691236517205 : Int64))) &&& (3689348814741910323 : Int64)))]) (pc' := 18) rfl ?_
  refine Wx.ldc2 ok kJ13_bitCount_95d88 14 rfl gw_279 ?_
  refine Wx.run ok kJ13_bitCount_95d88 15 8 (lv' := [(0, .inr (.inl (((v0 - (((v0).toUInt64 >>> (((1 : Int32)).toInt64.toUInt64 &&& Int64.toUInt64 63)).toInt64 &&& (6148914691236517205 : Int64))) &&& (3689348814741910323 : Int64)) + ((((v0 - (((v0).toUInt64 >>> (((1 : Int32)).toInt64.toUInt64 &&& Int64.toUInt64 63)).toInt64 &&& (6148914691236517205 : Int64)))).toUInt64 >>> (((2 : Int32)).toInt64.toUInt64 &&& Int64.toUInt64 63)).toInt64 &&& (3689348814741910323 : Int64)))))]) (st' := [.inr (.inl ((((v0 - (((v0).toUInt64 >>> (((1 : Int32)).toInt64.toUInt64 &&& Int64.toUInt64 63)).toInt64 &&& (6148914691236517205 : Int64))) &&& (3689348814741910323 : Int64)) + ((((v0 - (((v0).toUInt64 >>> (((1 : Int32)).toInt64.toUInt64 &&& Int64.toUInt64 63)).toInt64 &&& (6148914691236517205 : Int64)))).toUInt64 >>> (((2 : Int32)).toInt64.toUInt64 &&& Int64.toUInt64 63)).toInt64 &&& (3689348814741910323 : Int64))) + (((((v0 - (((v0).toUInt64 >>> (((1 : Int32)).toInt64.toUInt64 &&& Int64.toUInt64 63)).toInt64 &&& (6148914691236517205 : Int64))) &&& (3689348814741910323 : Int64)) + ((((v0 - (((v0).toUInt64 >>> (((1 : Int32)).toInt64.toUInt64 &&& Int64.toUInt64 63)).toInt64 &&& (6148914691236517205 : Int64)))).toUInt64 >>> (((2 : Int32)).toInt64.toUInt64 &&& Int64.toUInt64 63)).toInt64 &&& (3689348814741910323 : Int64)))).toUInt64 >>> (((4 : Int32)).toInt64.toUInt64 &&& Int64.toUInt64 63)).toInt64))]) (pc' := 29) rfl ?_
  refine Wx.ldc2 ok kJ13_bitCount_95d88 23 rfl gw_280 ?_
  refine Wx.run ok kJ13_bitCount_95d88 24 24 (lv' := [(0, .inr (.inl ((((((((v0 - (((v0).toUInt64 >>> (((1 : Int32)).toInt64.toUInt64 &&& Int64.toUInt64 63)).toInt64 &&& (6148914691236517205 : Int64))) &&& (3689348814741910323 : Int64)) + ((((v0 - (((v0).toUInt64 >>> (((1 : Int32)).toInt64.toUInt64 &&& Int64.toUInt64 63)).toInt64 &&& (6148914691236517205 : Int64)))).toUInt64 >>> (((2 : Int32)).toInt64.toUInt64 &&& Int64.toUInt64 63)).toInt64 &&& (3689348814741910323 : Int64))) + (((((v0 - (((v0).toUInt64 >>> (((1 : Int32)).toInt64.toUInt64 &&& Int64.toUInt64 63)).toInt64 &&& (6148914691236517205 : Int64))) &&& (3689348814741910323 : Int64)) + ((((v0 - (((v0).toUInt64 >>> (((1 : Int32)).toInt64.toUInt64 &&& Int64.toUInt64 63)).toInt64 &&& (6148914691236517205 : Int64)))).toUInt64 >>> (((2 : Int32)).toInt64.toUInt64 &&& Int64.toUInt64 63)).toInt64 &&& (3689348814741910323 : Int64)))).toUInt64 >>> (((4 : Int32)).toInt64.toUInt64 &&& Int64.toUInt64 63)).toInt64) &&& (1085102592571150095 : Int64)) + (((((((v0 - (((v0).toUInt64 >>> (((1 : Int32)).toInt64.toUInt64 &&& Int64.toUInt64 63)).toInt64 &&& (6148914691236517205 : Int64))) &&& (3689348814741910323 : Int64)) + ((((v0 - (((v0).toUInt64 >>> (((1 : Int32)).toInt64.toUInt64 &&& Int64.toUInt64 63)).toInt64 &&& (6148914691236517205 : Int64)))).toUInt64 >>> (((2 : Int32)).toInt64.toUInt64 &&& Int64.toUInt64 63)).toInt64 &&& (3689348814741910323 : Int64))) + (((((v0 - (((v0).toUInt64 >>> (((1 : Int32)).toInt64.toUInt64 &&& Int64.toUInt64 63)).toInt64 &&& (6148914691236517205 : Int64))) &&& (3689348814741910323 : Int64)) + ((((v0 - (((v0).toUInt64 >>> (((1 : Int32)).toInt64.toUInt64 &&& Int64.toUInt64 63)).toInt64 &&& (6148914691236517205 : Int64)))).toUInt64 >>> (((2 : Int32)).toInt64.toUInt64 &&& Int64.toUInt64 63)).toInt64 &&& (3689348814741910323 : Int64)))).toUInt64 >>> (((4 : Int32)).toInt64.toUInt64 &&& Int64.toUInt64 63)).toInt64) &&& (1085102592571150095 : Int64))).toUInt64 >>> (((8 : Int32)).toInt64.toUInt64 &&& Int64.toUInt64 63)).toInt64) + ((((((((v0 - (((v0).toUInt64 >>> (((1 : Int32)).toInt64.toUInt64 &&& Int64.toUInt64 63)).toInt64 &&& (6148914691236517205 : Int64))) &&& (3689348814741910323 : Int64)) + ((((v0 - (((v0).toUInt64 >>> (((1 : Int32)).toInt64.toUInt64 &&& Int64.toUInt64 63)).toInt64 &&& (6148914691236517205 : Int64)))).toUInt64 >>> (((2 : Int32)).toInt64.toUInt64 &&& Int64.toUInt64 63)).toInt64 &&& (3689348814741910323 : Int64))) + (((((v0 - (((v0).toUInt64 >>> (((1 : Int32)).toInt64.toUInt64 &&& Int64.toUInt64 63)).toInt64 &&& (6148914691236517205 : Int64))) &&& (3689348814741910323 : Int64)) + ((((v0 - (((v0).toUInt64 >>> (((1 : Int32)).toInt64.toUInt64 &&& Int64.toUInt64 63)).toInt64 &&& (6148914691236517205 : Int64)))).toUInt64 >>> (((2 : Int32)).toInt64.toUInt64 &&& Int64.toUInt64 63)).toInt64 &&& (3689348814741910323 : Int64)))).toUInt64 >>> (((4 : Int32)).toInt64.toUInt64 &&& Int64.toUInt64 63)).toInt64) &&& (1085102592571150095 : Int64)) + (((((((v0 - (((v0).toUInt64 >>> (((1 : Int32)).toInt64.toUInt64 &&& Int64.toUInt64 63)).toInt64 &&& (6148914691236517205 : Int64))) &&& (3689348814741910323 : Int64)) + ((((v0 - (((v0).toUInt64 >>> (((1 : Int32)).toInt64.toUInt64 &&& Int64.toUInt64 63)).toInt64 &&& (6148914691236517205 : Int64)))).toUInt64 >>> (((2 : Int32)).toInt64.toUInt64 &&& Int64.toUInt64 63)).toInt64 &&& (3689348814741910323 : Int64))) + (((((v0 - (((v0).toUInt64 >>> (((1 : Int32)).toInt64.toUInt64 &&& Int64.toUInt64 63)).toInt64 &&& (6148914691236517205 : Int64))) &&& (3689348814741910323 : Int64)) + ((((v0 - (((v0).toUInt64 >>> (((1 : Int32)).toInt64.toUInt64 &&& Int64.toUInt64 63)).toInt64 &&& (6148914691236517205 : Int64)))).toUInt64 >>> (((2 : Int32)).toInt64.toUInt64 &&& Int64.toUInt64 63)).toInt64 &&& (3689348814741910323 : Int64)))).toUInt64 >>> (((4 : Int32)).toInt64.toUInt64 &&& Int64.toUInt64 63)).toInt64) &&& (1085102592571150095 : Int64))).toUInt64 >>> (((8 : Int32)).toInt64.toUInt64 &&& Int64.toUInt64 63)).toInt64)).toUInt64 >>> (((16 : Int32)).toInt64.toUInt64 &&& Int64.toUInt64 63)).toInt64) + (((((((((v0 - (((v0).toUInt64 >>> (((1 : Int32)).toInt64.toUInt64 &&& Int64.toUInt64 63)).toInt64 &&& (6148914691236517205 : Int64))) &&& (3689348814741910323 : Int64)) + ((((v0 - (((v0).toUInt64 >>> (((1 : Int32)).toInt64.toUInt64 &&& Int64.toUInt64 63)).toInt64 &&& (6148914691236517205 : Int64)))).toUInt64 >>> (((2 : Int32)).toInt64.toUInt64 &&& Int64.toUInt64 63)).toInt64 &&& (3689348814741910323 : Int64))) + (((((v0 - (((v0).toUInt64 >>> (((1 : Int32)).toInt64.toUInt64 &&& Int64.toUInt64 63)).toInt64 &&& (6148914691236517205 : Int64))) &&& (3689348814741910323 : Int64)) + ((((v0 - (((v0).toUInt64 >>> (((1 : Int32)).toInt64.toUInt64 &&& Int64.toUInt64 63)).toInt64 &&& (6148914691236517205 : Int64)))).toUInt64 >>> (((2 : Int32)).toInt64.toUInt64 &&& Int64.toUInt64 63)).toInt64 &&& (3689348814741910323 : Int64)))).toUInt64 >>> (((4 : Int32)).toInt64.toUInt64 &&& Int64.toUInt64 63)).toInt64) &&& (1085102592571150095 : Int64)) + (((((((v0 - (((v0).toUInt64 >>> (((1 : Int32)).toInt64.toUInt64 &&& Int64.toUInt64 63)).toInt64 &&& (6148914691236517205 : Int64))) &&& (3689348814741910323 : Int64)) + ((((v0 - (((v0).toUInt64 >>> (((1 : Int32)).toInt64.toUInt64 &&& Int64.toUInt64 63)).toInt64 &&& (6148914691236517205 : Int64)))).toUInt64 >>> (((2 : Int32)).toInt64.toUInt64 &&& Int64.toUInt64 63)).toInt64 &&& (3689348814741910323 : Int64))) + (((((v0 - (((v0).toUInt64 >>> (((1 : Int32)).toInt64.toUInt64 &&& Int64.toUInt64 63)).toInt64 &&& (6148914691236517205 : Int64))) &&& (3689348814741910323 : Int64)) + ((((v0 - (((v0).toUInt64 >>> (((1 : Int32)).toInt64.toUInt64 &&& Int64.toUInt64 63)).toInt64 &&& (6148914691236517205 : Int64)))).toUInt64 >>> (((2 : Int32)).toInt64.toUInt64 &&& Int64.toUInt64 63)).toInt64 &&& (3689348814741910323 : Int64)))).toUInt64 >>> (((4 : Int32)).toInt64.toUInt64 &&& Int64.toUInt64 63)).toInt64) &&& (1085102592571150095 : Int64))).toUInt64 >>> (((8 : Int32)).toInt64.toUInt64 &&& Int64.toUInt64 63)).toInt64) + ((((((((v0 - (((v0).toUInt64 >>> (((1 : Int32)).toInt64.toUInt64 &&& Int64.toUInt64 63)).toInt64 &&& (6148914691236517205 : Int64))) &&& (3689348814741910323 : Int64)) + ((((v0 - (((v0).toUInt64 >>> (((1 : Int32)).toInt64.toUInt64 &&& Int64.toUInt64 63)).toInt64 &&& (6148914691236517205 : Int64)))).toUInt64 >>> (((2 : Int32)).toInt64.toUInt64 &&& Int64.toUInt64 63)).toInt64 &&& (3689348814741910323 : Int64))) + (((((v0 - (((v0).toUInt64 >>> (((1 : Int32)).toInt64.toUInt64 &&& Int64.toUInt64 63)).toInt64 &&& (6148914691236517205 : Int64))) &&& (3689348814741910323 : Int64)) + ((((v0 - (((v0).toUInt64 >>> (((1 : Int32)).toInt64.toUInt64 &&& Int64.toUInt64 63)).toInt64 &&& (6148914691236517205 : Int64)))).toUInt64 >>> (((2 : Int32)).toInt64.toUInt64 &&& Int64.toUInt64 63)).toInt64 &&& (3689348814741910323 : Int64)))).toUInt64 >>> (((4 : Int32)).toInt64.toUInt64 &&& Int64.toUInt64 63)).toInt64) &&& (1085102592571150095 : Int64)) + (((((((v0 - (((v0).toUInt64 >>> (((1 : Int32)).toInt64.toUInt64 &&& Int64.toUInt64 63)).toInt64 &&& (6148914691236517205 : Int64))) &&& (3689348814741910323 : Int64)) + ((((v0 - (((v0).toUInt64 >>> (((1 : Int32)).toInt64.toUInt64 &&& Int64.toUInt64 63)).toInt64 &&& (6148914691236517205 : Int64)))).toUInt64 >>> (((2 : Int32)).toInt64.toUInt64 &&& Int64.toUInt64 63)).toInt64 &&& (3689348814741910323 : Int64))) + (((((v0 - (((v0).toUInt64 >>> (((1 : Int32)).toInt64.toUInt64 &&& Int64.toUInt64 63)).toInt64 &&& (6148914691236517205 : Int64))) &&& (3689348814741910323 : Int64)) + ((((v0 - (((v0).toUInt64 >>> (((1 : Int32)).toInt64.toUInt64 &&& Int64.toUInt64 63)).toInt64 &&& (6148914691236517205 : Int64)))).toUInt64 >>> (((2 : Int32)).toInt64.toUInt64 &&& Int64.toUInt64 63)).toInt64 &&& (3689348814741910323 : Int64)))).toUInt64 >>> (((4 : Int32)).toInt64.toUInt64 &&& Int64.toUInt64 63)).toInt64) &&& (1085102592571150095 : Int64))).toUInt64 >>> (((8 : Int32)).toInt64.toUInt64 &&& Int64.toUInt64 63)).toInt64)).toUInt64 >>> (((16 : Int32)).toInt64.toUInt64 &&& Int64.toUInt64 63)).toInt64)).toUInt64 >>> (((32 : Int32)).toInt64.toUInt64 &&& Int64.toUInt64 63)).toInt64)))]) (st' := [.inl (((((((((((v0 - (((v0).toUInt64 >>> (((1 : Int32)).toInt64.toUInt64 &&& Int64.toUInt64 63)).toInt64 &&& (6148914691236517205 : Int64))) &&& (3689348814741910323 : Int64)) + ((((v0 - (((v0).toUInt64 >>> (((1 : Int32)).toInt64.toUInt64 &&& Int64.toUInt64 63)).toInt64 &&& (6148914691236517205 : Int64)))).toUInt64 >>> (((2 : Int32)).toInt64.toUInt64 &&& Int64.toUInt64 63)).toInt64 &&& (3689348814741910323 : Int64))) + (((((v0 - (((v0).toUInt64 >>> (((1 : Int32)).toInt64.toUInt64 &&& Int64.toUInt64 63)).toInt64 &&& (6148914691236517205 : Int64))) &&& (3689348814741910323 : Int64)) + ((((v0 - (((v0).toUInt64 >>> (((1 : Int32)).toInt64.toUInt64 &&& Int64.toUInt64 63)).toInt64 &&& (6148914691236517205 : Int64)))).toUInt64 >>> (((2 : Int32)).toInt64.toUInt64 &&& Int64.toUInt64 63)).toInt64 &&& (3689348814741910323 : Int64)))).toUInt64 >>> (((4 : Int32)).toInt64.toUInt64 &&& Int64.toUInt64 63)).toInt64) &&& (1085102592571150095 : Int64)) + (((((((v0 - (((v0).toUInt64 >>> (((1 : Int32)).toInt64.toUInt64 &&& Int64.toUInt64 63)).toInt64 &&& (6148914691236517205 : Int64))) &&& (3689348814741910323 : Int64)) + ((((v0 - (((v0).toUInt64 >>> (((1 : Int32)).toInt64.toUInt64 &&& Int64.toUInt64 63)).toInt64 &&& (6148914691236517205 : Int64)))).toUInt64 >>> (((2 : Int32)).toInt64.toUInt64 &&& Int64.toUInt64 63)).toInt64 &&& (3689348814741910323 : Int64))) + (((((v0 - (((v0).toUInt64 >>> (((1 : Int32)).toInt64.toUInt64 &&& Int64.toUInt64 63)).toInt64 &&& (6148914691236517205 : Int64))) &&& (3689348814741910323 : Int64)) + ((((v0 - (((v0).toUInt64 >>> (((1 : Int32)).toInt64.toUInt64 &&& Int64.toUInt64 63)).toInt64 &&& (6148914691236517205 : Int64)))).toUInt64 >>> (((2 : Int32)).toInt64.toUInt64 &&& Int64.toUInt64 63)).toInt64 &&& (3689348814741910323 : Int64)))).toUInt64 >>> (((4 : Int32)).toInt64.toUInt64 &&& Int64.toUInt64 63)).toInt64) &&& (1085102592571150095 : Int64))).toUInt64 >>> (((8 : Int32)).toInt64.toUInt64 &&& Int64.toUInt64 63)).toInt64) + ((((((((v0 - (((v0).toUInt64 >>> (((1 : Int32)).toInt64.toUInt64 &&& Int64.toUInt64 63)).toInt64 &&& (6148914691236517205 : Int64))) &&& (3689348814741910323 : Int64)) + ((((v0 - (((v0).toUInt64 >>> (((1 : Int32)).toInt64.toUInt64 &&& Int64.toUInt64 63)).toInt64 &&& (6148914691236517205 : Int64)))).toUInt64 >>> (((2 : Int32)).toInt64.toUInt64 &&& Int64.toUInt64 63)).toInt64 &&& (3689348814741910323 : Int64))) + (((((v0 - (((v0).toUInt64 >>> (((1 : Int32)).toInt64.toUInt64 &&& Int64.toUInt64 63)).toInt64 &&& (6148914691236517205 : Int64))) &&& (3689348814741910323 : Int64)) + ((((v0 - (((v0).toUInt64 >>> (((1 : Int32)).toInt64.toUInt64 &&& Int64.toUInt64 63)).toInt64 &&& (6148914691236517205 : Int64)))).toUInt64 >>> (((2 : Int32)).toInt64.toUInt64 &&& Int64.toUInt64 63)).toInt64 &&& (3689348814741910323 : Int64)))).toUInt64 >>> (((4 : Int32)).toInt64.toUInt64 &&& Int64.toUInt64 63)).toInt64) &&& (1085102592571150095 : Int64)) + (((((((v0 - (((v0).toUInt64 >>> (((1 : Int32)).toInt64.toUInt64 &&& Int64.toUInt64 63)).toInt64 &&& (6148914691236517205 : Int64))) &&& (3689348814741910323 : Int64)) + ((((v0 - (((v0).toUInt64 >>> (((1 : Int32)).toInt64.toUInt64 &&& Int64.toUInt64 63)).toInt64 &&& (6148914691236517205 : Int64)))).toUInt64 >>> (((2 : Int32)).toInt64.toUInt64 &&& Int64.toUInt64 63)).toInt64 &&& (3689348814741910323 : Int64))) + (((((v0 - (((v0).toUInt64 >>> (((1 : Int32)).toInt64.toUInt64 &&& Int64.toUInt64 63)).toInt64 &&& (6148914691236517205 : Int64))) &&& (3689348814741910323 : Int64)) + ((((v0 - (((v0).toUInt64 >>> (((1 : Int32)).toInt64.toUInt64 &&& Int64.toUInt64 63)).toInt64 &&& (6148914691236517205 : Int64)))).toUInt64 >>> (((2 : Int32)).toInt64.toUInt64 &&& Int64.toUInt64 63)).toInt64 &&& (3689348814741910323 : Int64)))).toUInt64 >>> (((4 : Int32)).toInt64.toUInt64 &&& Int64.toUInt64 63)).toInt64) &&& (1085102592571150095 : Int64))).toUInt64 >>> (((8 : Int32)).toInt64.toUInt64 &&& Int64.toUInt64 63)).toInt64)).toUInt64 >>> (((16 : Int32)).toInt64.toUInt64 &&& Int64.toUInt64 63)).toInt64) + (((((((((v0 - (((v0).toUInt64 >>> (((1 : Int32)).toInt64.toUInt64 &&& Int64.toUInt64 63)).toInt64 &&& (6148914691236517205 : Int64))) &&& (3689348814741910323 : Int64)) + ((((v0 - (((v0).toUInt64 >>> (((1 : Int32)).toInt64.toUInt64 &&& Int64.toUInt64 63)).toInt64 &&& (6148914691236517205 : Int64)))).toUInt64 >>> (((2 : Int32)).toInt64.toUInt64 &&& Int64.toUInt64 63)).toInt64 &&& (3689348814741910323 : Int64))) + (((((v0 - (((v0).toUInt64 >>> (((1 : Int32)).toInt64.toUInt64 &&& Int64.toUInt64 63)).toInt64 &&& (6148914691236517205 : Int64))) &&& (3689348814741910323 : Int64)) + ((((v0 - (((v0).toUInt64 >>> (((1 : Int32)).toInt64.toUInt64 &&& Int64.toUInt64 63)).toInt64 &&& (6148914691236517205 : Int64)))).toUInt64 >>> (((2 : Int32)).toInt64.toUInt64 &&& Int64.toUInt64 63)).toInt64 &&& (3689348814741910323 : Int64)))).toUInt64 >>> (((4 : Int32)).toInt64.toUInt64 &&& Int64.toUInt64 63)).toInt64) &&& (1085102592571150095 : Int64)) + (((((((v0 - (((v0).toUInt64 >>> (((1 : Int32)).toInt64.toUInt64 &&& Int64.toUInt64 63)).toInt64 &&& (6148914691236517205 : Int64))) &&& (3689348814741910323 : Int64)) + ((((v0 - (((v0).toUInt64 >>> (((1 : Int32)).toInt64.toUInt64 &&& Int64.toUInt64 63)).toInt64 &&& (6148914691236517205 : Int64)))).toUInt64 >>> (((2 : Int32)).toInt64.toUInt64 &&& Int64.toUInt64 63)).toInt64 &&& (3689348814741910323 : Int64))) + (((((v0 - (((v0).toUInt64 >>> (((1 : Int32)).toInt64.toUInt64 &&& Int64.toUInt64 63)).toInt64 &&& (6148914691236517205 : Int64))) &&& (3689348814741910323 : Int64)) + ((((v0 - (((v0).toUInt64 >>> (((1 : Int32)).toInt64.toUInt64 &&& Int64.toUInt64 63)).toInt64 &&& (6148914691236517205 : Int64)))).toUInt64 >>> (((2 : Int32)).toInt64.toUInt64 &&& Int64.toUInt64 63)).toInt64 &&& (3689348814741910323 : Int64)))).toUInt64 >>> (((4 : Int32)).toInt64.toUInt64 &&& Int64.toUInt64 63)).toInt64) &&& (1085102592571150095 : Int64))).toUInt64 >>> (((8 : Int32)).toInt64.toUInt64 &&& Int64.toUInt64 63)).toInt64) + ((((((((v0 - (((v0).toUInt64 >>> (((1 : Int32)).toInt64.toUInt64 &&& Int64.toUInt64 63)).toInt64 &&& (6148914691236517205 : Int64))) &&& (3689348814741910323 : Int64)) + ((((v0 - (((v0).toUInt64 >>> (((1 : Int32)).toInt64.toUInt64 &&& Int64.toUInt64 63)).toInt64 &&& (6148914691236517205 : Int64)))).toUInt64 >>> (((2 : Int32)).toInt64.toUInt64 &&& Int64.toUInt64 63)).toInt64 &&& (3689348814741910323 : Int64))) + (((((v0 - (((v0).toUInt64 >>> (((1 : Int32)).toInt64.toUInt64 &&& Int64.toUInt64 63)).toInt64 &&& (6148914691236517205 : Int64))) &&& (3689348814741910323 : Int64)) + ((((v0 - (((v0).toUInt64 >>> (((1 : Int32)).toInt64.toUInt64 &&& Int64.toUInt64 63)).toInt64 &&& (6148914691236517205 : Int64)))).toUInt64 >>> (((2 : Int32)).toInt64.toUInt64 &&& Int64.toUInt64 63)).toInt64 &&& (3689348814741910323 : Int64)))).toUInt64 >>> (((4 : Int32)).toInt64.toUInt64 &&& Int64.toUInt64 63)).toInt64) &&& (1085102592571150095 : Int64)) + (((((((v0 - (((v0).toUInt64 >>> (((1 : Int32)).toInt64.toUInt64 &&& Int64.toUInt64 63)).toInt64 &&& (6148914691236517205 : Int64))) &&& (3689348814741910323 : Int64)) + ((((v0 - (((v0).toUInt64 >>> (((1 : Int32)).toInt64.toUInt64 &&& Int64.toUInt64 63)).toInt64 &&& (6148914691236517205 : Int64)))).toUInt64 >>> (((2 : Int32)).toInt64.toUInt64 &&& Int64.toUInt64 63)).toInt64 &&& (3689348814741910323 : Int64))) + (((((v0 - (((v0).toUInt64 >>> (((1 : Int32)).toInt64.toUInt64 &&& Int64.toUInt64 63)).toInt64 &&& (6148914691236517205 : Int64))) &&& (3689348814741910323 : Int64)) + ((((v0 - (((v0).toUInt64 >>> (((1 : Int32)).toInt64.toUInt64 &&& Int64.toUInt64 63)).toInt64 &&& (6148914691236517205 : Int64)))).toUInt64 >>> (((2 : Int32)).toInt64.toUInt64 &&& Int64.toUInt64 63)).toInt64 &&& (3689348814741910323 : Int64)))).toUInt64 >>> (((4 : Int32)).toInt64.toUInt64 &&& Int64.toUInt64 63)).toInt64) &&& (1085102592571150095 : Int64))).toUInt64 >>> (((8 : Int32)).toInt64.toUInt64 &&& Int64.toUInt64 63)).toInt64)).toUInt64 >>> (((16 : Int32)).toInt64.toUInt64 &&& Int64.toUInt64 63)).toInt64)).toUInt64 >>> (((32 : Int32)).toInt64.toUInt64 &&& Int64.toUInt64 63)).toInt64)).toInt32) &&& (127 : Int32))]) (pc' := 60) rfl ?_
  exact Wx.ireturn ok kJ13_bitCount_95d88 48 rfl hres h (by decide)
set_option maxRecDepth 100000 in
set_option maxHeartbeats 4000000 in
theorem aJ7_fill_53178_h5 {X : gX} (ok : gOk X cJ7_fill_53178 RJ7 4 none rmJ7_fill_53178) {res : gW} (hres : gRs X none res) {F : Nat} (r : (Option Nat) → Int32 → Int32 → Int32 → gW → Option (gW)) (hr : ∀ (v0 : Option Nat) (v1 : Int32) (v2 : Int32) (v3 : Int32) (w : gW), r v0 v1 v2 v3 w = some res → Wx X w 0 0 5 [(0, .inr (.inr v0)), (1, .inl v1), (2, .inl v2), (3, .inl v3)] []) : ∀ (v0 : Option Nat) (v1 : Int32) (v2 : Int32) (v3 : Int32) (w : gW), mJ7_fill_53178_h5 F r v0 v1 v2 v3 w = some res → Wx X w 0 0 5 [(0, .inr (.inr v0)), (1, .inl v1), (2, .inl v2), (3, .inl v3)] [] := by
  intro v0 v1 v2 v3 w h
  unfold mJ7_fill_53178_h5 at h
  refine Wx.run ok kJ7_fill_53178 5 2 (lv' := [(0, .inr (.inr v0)), (1, .inl v1), (2, .inl v2), (3, .inl v3)]) (st' := [.inl v3, .inl v2]) (pc' := 7) rfl ?_
  refine Wx.icmp_ge ok kJ7_fill_53178 7 (tgt := 20) rfl (by decide) h (fun hc7 h => ?_) (fun hc7 h => ?_)
  · exact Wx.vreturn ok kJ7_fill_53178 14 rfl hres h (by decide)
  · refine Wx.run ok kJ7_fill_53178 8 3 (lv' := [(0, .inr (.inr v0)), (1, .inl v1), (2, .inl v2), (3, .inl v3)]) (st' := [.inl v1, .inl v2, .inr (.inr v0)]) (pc' := 13) rfl ?_
    refine Wx.iast ok kJ7_fill_53178 11 rfl h (fun w13 h => ?_)
    refine Wx.run ok kJ7_fill_53178 12 1 (lv' := [(2, .inl (v2 + (1 : Int32))), (0, .inr (.inr v0)), (1, .inl v1), (3, .inl v3)]) (st' := []) (pc' := 17) rfl ?_
    refine Wx.jump ok kJ7_fill_53178 13 (tgt := 5) rfl (by decide) ?_
    refine Wx.sub [1, 2, 0, 3] rfl ?_
    exact hr _ _ _ _ _ h
set_option maxRecDepth 100000 in
set_option maxHeartbeats 4000000 in
theorem aJ7_fill_53178_l5 {X : gX} (ok : gOk X cJ7_fill_53178 RJ7 4 none rmJ7_fill_53178) {res : gW} (hres : gRs X none res) {F : Nat} : ∀ (n : Nat) (v0 : Option Nat) (v1 : Int32) (v2 : Int32) (v3 : Int32) (w : gW), mJ7_fill_53178_l5 F n v0 v1 v2 v3 w = some res → Wx X w 0 0 5 [(0, .inr (.inr v0)), (1, .inl v1), (2, .inl v2), (3, .inl v3)] [] := by
  intro n
  induction n with
  | zero => intro v0 v1 v2 v3 w h; cases (show (none : Option (gW)) = some res from h)
  | succ n ih =>
    intro v0 v1 v2 v3 w h
    exact aJ7_fill_53178_h5 ok hres (F := F) (mJ7_fill_53178_l5 F n) ih v0 v1 v2 v3 w h
set_option maxRecDepth 100000 in
set_option maxHeartbeats 4000000 in
theorem aJ7_fill_53178 (l : Launch) (G : gG) {F : Nat} {v0 : Option Nat} {v1 : Int32} {w : gW} {res : gW} (h : mJ7_fill_53178 F v0 v1 w = some res) : gM l yJ7_fill_53178 cJ7_fill_53178 4 none rmJ7_fill_53178 G w (gTs [.inr (.inr v0), .inl v1]) none res := by
  refine gM_of (y := yJ7_fill_53178) (by decide +kernel) (Nat.le_of_ble_eq_true rfl) ?_
  intro X ok hl hG hres hnm
  subst hl; subst hG
  unfold mJ7_fill_53178 at h
  show Wx X w 0 0 0 [(0, .inr (.inr v0)), (1, .inl v1)] []
  refine Wx.run ok kJ7_fill_53178 0 3 (lv' := [(2, .inl (0 : Int32)), (0, .inr (.inr v0)), (1, .inl v1)]) (st' := [.inr (.inr v0)]) (pc' := 3) rfl ?_
  refine Wx.alen ok kJ7_fill_53178 3 rfl h (fun t3 h => ?_)
  refine Wx.run ok kJ7_fill_53178 4 1 (lv' := [(3, .inl t3), (2, .inl (0 : Int32)), (0, .inr (.inr v0)), (1, .inl v1)]) (st' := []) (pc' := 5) rfl ?_
  refine Wx.sub [2, 3, 1, 0] rfl ?_
  refine aJ7_fill_53178_l5 ok hres (F := F) F _ _ _ _ _ h
set_option maxRecDepth 100000 in
set_option maxHeartbeats 4000000 in
theorem aJ9_floorMod_7cf53 (l : Launch) (G : gG) {F : Nat} {v0 : Int32} {v1 : Int32} {w : gW} {res : Int32 × gW} (h : mJ9_floorMod_7cf53 F v0 v1 w = some res) : gM l yJ9_floorMod_7cf53 cJ9_floorMod_7cf53 3 (some .int) rmJ9_floorMod_7cf53 G w (gTs [.inl v0, .inl v1]) (some (.int res.1)) res.2 := by
  refine gM_of (y := yJ9_floorMod_7cf53) (by decide +kernel) (Nat.le_of_ble_eq_true rfl) ?_
  intro X ok hl hG hres hnm
  subst hl; subst hG
  unfold mJ9_floorMod_7cf53 at h
  show Wx X w 0 0 0 [(0, .inl v0), (1, .inl v1)] []
  refine Wx.run ok kJ9_floorMod_7cf53 0 2 (lv' := [(0, .inl v0), (1, .inl v1)]) (st' := [.inl v1, .inl v0]) (pc' := 2) rfl ?_
  refine Wx.irem ok kJ9_floorMod_7cf53 2 rfl h (fun t2 h => ?_)
  refine Wx.run ok kJ9_floorMod_7cf53 3 4 (lv' := [(2, .inl t2), (0, .inl v0), (1, .inl v1)]) (st' := [.inl (v0 ^^^ v1)]) (pc' := 7) rfl ?_
  refine Wx.if_ge ok kJ9_floorMod_7cf53 7 (tgt := 18) rfl (by decide) h (fun hc7 h => ?_) (fun hc7 h => ?_)
  · refine Wx.run ok kJ9_floorMod_7cf53 14 1 (lv' := [(2, .inl t2), (0, .inl v0), (1, .inl v1)]) (st' := [.inl t2]) (pc' := 19) rfl ?_
    exact Wx.ireturn ok kJ9_floorMod_7cf53 15 rfl hres h (by decide)
  · refine Wx.run ok kJ9_floorMod_7cf53 8 1 (lv' := [(2, .inl t2), (0, .inl v0), (1, .inl v1)]) (st' := [.inl t2]) (pc' := 11) rfl ?_
    refine Wx.if_eq ok kJ9_floorMod_7cf53 9 (tgt := 18) rfl (by decide) h (fun hc11 h => ?_) (fun hc11 h => ?_)
    · refine Wx.run ok kJ9_floorMod_7cf53 14 1 (lv' := [(2, .inl t2), (0, .inl v0), (1, .inl v1)]) (st' := [.inl t2]) (pc' := 19) rfl ?_
      exact Wx.ireturn ok kJ9_floorMod_7cf53 15 rfl hres h (by decide)
    · refine Wx.run ok kJ9_floorMod_7cf53 10 3 (lv' := [(2, .inl t2), (0, .inl v0), (1, .inl v1)]) (st' := [.inl (t2 + v1)]) (pc' := 17) rfl ?_
      exact Wx.ireturn ok kJ9_floorMod_7cf53 13 rfl hres h (by decide)
set_option maxRecDepth 100000 in
set_option maxHeartbeats 4000000 in
theorem aJ9_max_7cf53 (l : Launch) (G : gG) {F : Nat} {v0 : Int32} {v1 : Int32} {w : gW} {res : Int32 × gW} (h : mJ9_max_7cf53 F v0 v1 w = some res) : gM l yJ9_max_7cf53 cJ9_max_7cf53 2 (some .int) rmJ9_max_7cf53 G w (gTs [.inl v0, .inl v1]) (some (.int res.1)) res.2 := by
  refine gM_of (y := yJ9_max_7cf53) (by decide +kernel) (Nat.le_of_ble_eq_true rfl) ?_
  intro X ok hl hG hres hnm
  subst hl; subst hG
  unfold mJ9_max_7cf53 at h
  show Wx X w 0 0 0 [(0, .inl v0), (1, .inl v1)] []
  refine Wx.run ok kJ9_max_7cf53 0 2 (lv' := [(0, .inl v0), (1, .inl v1)]) (st' := [.inl v1, .inl v0]) (pc' := 2) rfl ?_
  refine Wx.icmp_lt ok kJ9_max_7cf53 2 (tgt := 9) rfl (by decide) h (fun hc2 h => ?_) (fun hc2 h => ?_)
  · refine Wx.run ok kJ9_max_7cf53 5 1 (lv' := [(0, .inl v0), (1, .inl v1)]) (st' := [.inl v1]) (pc' := 10) rfl ?_
    exact Wx.ireturn ok kJ9_max_7cf53 6 rfl hres h (by decide)
  · refine Wx.run ok kJ9_max_7cf53 3 1 (lv' := [(0, .inl v0), (1, .inl v1)]) (st' := [.inl v0]) (pc' := 6) rfl ?_
    refine Wx.jump ok kJ9_max_7cf53 4 (tgt := 10) rfl (by decide) ?_
    exact Wx.ireturn ok kJ9_max_7cf53 6 rfl hres h (by decide)
set_option maxRecDepth 100000 in
set_option maxHeartbeats 4000000 in
theorem aJ9_min_7cf53 (l : Launch) (G : gG) {F : Nat} {v0 : Int32} {v1 : Int32} {w : gW} {res : Int32 × gW} (h : mJ9_min_7cf53 F v0 v1 w = some res) : gM l yJ9_min_7cf53 cJ9_min_7cf53 2 (some .int) rmJ9_min_7cf53 G w (gTs [.inl v0, .inl v1]) (some (.int res.1)) res.2 := by
  refine gM_of (y := yJ9_min_7cf53) (by decide +kernel) (Nat.le_of_ble_eq_true rfl) ?_
  intro X ok hl hG hres hnm
  subst hl; subst hG
  unfold mJ9_min_7cf53 at h
  show Wx X w 0 0 0 [(0, .inl v0), (1, .inl v1)] []
  refine Wx.run ok kJ9_min_7cf53 0 2 (lv' := [(0, .inl v0), (1, .inl v1)]) (st' := [.inl v1, .inl v0]) (pc' := 2) rfl ?_
  refine Wx.icmp_gt ok kJ9_min_7cf53 2 (tgt := 9) rfl (by decide) h (fun hc2 h => ?_) (fun hc2 h => ?_)
  · refine Wx.run ok kJ9_min_7cf53 5 1 (lv' := [(0, .inl v0), (1, .inl v1)]) (st' := [.inl v1]) (pc' := 10) rfl ?_
    exact Wx.ireturn ok kJ9_min_7cf53 6 rfl hres h (by decide)
  · refine Wx.run ok kJ9_min_7cf53 3 1 (lv' := [(0, .inl v0), (1, .inl v1)]) (st' := [.inl v0]) (pc' := 6) rfl ?_
    refine Wx.jump ok kJ9_min_7cf53 4 (tgt := 10) rfl (by decide) ?_
    exact Wx.ireturn ok kJ9_min_7cf53 6 rfl hres h (by decide)
set_option maxRecDepth 100000 in
set_option maxHeartbeats 4000000 in
theorem aX0_entry (l : Launch) (G : gG) {F : Nat} {v0 : Nat} {v1 : Int32} {v2 : Int32} {v3 : Int32} {w : gW} {res : Int32 × gW} (h : mX0_entry F v0 v1 v2 v3 w = some res) : gM l yX0_entry cX0_entry 4 (some .int) rmX0_entry G w (gTs [.inr (.inr (some v0)), .inl v1, .inl v2, .inl v3]) (some (.int res.1)) res.2 := by
  refine gM_of (y := yX0_entry) (by decide +kernel) (Nat.le_of_ble_eq_true rfl) ?_
  intro X ok hl hG hres hnm
  subst hl; subst hG
  unfold mX0_entry at h
  show Wx X w 0 0 0 [(0, .inr (.inr (some v0))), (1, .inl v1), (2, .inl v2), (3, .inl v3)] []
  refine Wx.run ok kX0_entry 0 1 (lv' := [(0, .inr (.inr (some v0))), (1, .inl v1), (2, .inl v2), (3, .inl v3)]) (st' := [.inr (.inr (some v0))]) (pc' := 1) rfl ?_
  refine Wx.getR ok kX0_entry 1 rfl lk_RX0_9_0 h (fun t1 h => ?_)
  refine Wx.run ok kX0_entry 2 9 (lv' := [(0, .inr (.inr (some v0))), (1, .inl v1), (2, .inl v2), (3, .inl v3)]) (st' := [.inl ((((v1 * (2 : Int32)) + v2) * (2 : Int32)) + v3), .inr (.inr t1)]) (pc' := 13) rfl ?_
  refine Wx.iald ok kX0_entry 11 rfl h (fun t13 h => ?_)
  exact Wx.ireturn ok kX0_entry 12 rfl hres h (by decide)
set_option maxRecDepth 100000 in
set_option maxHeartbeats 4000000 in
theorem aX0_isNumber_b16 {X : gX} (ok : gOk X cX0_isNumber RX0 2 (some .boolean) rmX0_isNumber) {res : Int32 × gW} (hres : gRs X (some (.int res.1)) res.2) {F : Nat} : ∀  (w : gW), mX0_isNumber_b16 F w = some res → Wx X w 0 0 16 [] [] := by
  intro w h
  unfold mX0_isNumber_b16 at h
  refine Wx.run ok kX0_isNumber 8 1 (lv' := []) (st' := [.inl (0 : Int32)]) (pc' := 17) rfl ?_
  exact Wx.zreturn ok kX0_isNumber 9 rfl gNz0 hres h (by decide)
set_option maxRecDepth 100000 in
set_option maxHeartbeats 4000000 in
theorem aX0_isNumber (l : Launch) (G : gG) {F : Nat} {v0 : Nat} {v1 : Int32} {w : gW} {res : Int32 × gW} (h : mX0_isNumber F v0 v1 w = some res) : gM l yX0_isNumber cX0_isNumber 2 (some .boolean) rmX0_isNumber G w (gTs [.inr (.inr (some v0)), .inl v1]) (some (.int res.1)) res.2 := by
  refine gM_of (y := yX0_isNumber) (by decide +kernel) (Nat.le_of_ble_eq_true rfl) ?_
  intro X ok hl hG hres hnm
  subst hl; subst hG
  unfold mX0_isNumber at h
  show Wx X w 0 0 0 [(0, .inr (.inr (some v0))), (1, .inl v1)] []
  refine Wx.run ok kX0_isNumber 0 1 (lv' := [(0, .inr (.inr (some v0))), (1, .inl v1)]) (st' := [.inl v1]) (pc' := 1) rfl ?_
  refine Wx.if_lt ok kX0_isNumber 1 (tgt := 16) rfl (by decide) h (fun hc1 h => ?_) (fun hc1 h => ?_)
  · refine Wx.sub [] rfl ?_
    exact aX0_isNumber_b16 ok hres (F := F)  _ h
  · refine Wx.run ok kX0_isNumber 2 2 (lv' := [(0, .inr (.inr (some v0))), (1, .inl v1)]) (st' := [.inr (.inr (some v0)), .inl v1]) (pc' := 6) rfl ?_
    refine Wx.getI ok kX0_isNumber 4 rfl lk_RX0_26_0 h (fun t6 h => ?_)
    refine Wx.icmp_ge ok kX0_isNumber 5 (tgt := 16) rfl (by decide) h (fun hc9 h => ?_) (fun hc9 h => ?_)
    · refine Wx.sub [] rfl ?_
      exact aX0_isNumber_b16 ok hres (F := F)  _ h
    · refine Wx.run ok kX0_isNumber 6 1 (lv' := [(0, .inr (.inr (some v0))), (1, .inl v1)]) (st' := [.inl (1 : Int32)]) (pc' := 13) rfl ?_
      refine Wx.jump ok kX0_isNumber 7 (tgt := 17) rfl (by decide) ?_
      exact Wx.zreturn ok kX0_isNumber 9 rfl gNz1 hres h (by decide)
set_option maxRecDepth 100000 in
set_option maxHeartbeats 4000000 in
theorem aX0_place (l : Launch) (G : gG) {F : Nat} {v0 : Nat} {v1 : Int32} {v2 : Int32} {v3 : Int32} {w : gW} {res : Int32 × gW} (h : mX0_place F v0 v1 v2 v3 w = some res) : gM l yX0_place cX0_place 4 (some .int) rmX0_place G w (gTs [.inr (.inr (some v0)), .inl v1, .inl v2, .inl v3]) (some (.int res.1)) res.2 := by
  refine gM_of (y := yX0_place) (by decide +kernel) (Nat.le_of_ble_eq_true rfl) ?_
  intro X ok hl hG hres hnm
  subst hl; subst hG
  unfold mX0_place at h
  show Wx X w 0 0 0 [(0, .inr (.inr (some v0))), (1, .inl v1), (2, .inl v2), (3, .inl v3)] []
  refine Wx.run ok kX0_place 0 4 (lv' := [(0, .inr (.inr (some v0))), (1, .inl v1), (2, .inl v2), (3, .inl v3)]) (st' := [.inr (.inr (some v0)), .inl (v1 - (1 : Int32))]) (pc' := 4) rfl ?_
  refine Wx.getR ok kX0_place 4 rfl lk_RX0_22_0 h (fun t4 h => ?_)
  refine Wx.getI ok kX0_place 5 rfl lk_RX0_40_0 h (fun t7 h => ?_)
  refine Wx.run ok kX0_place 6 8 (lv' := [(0, .inr (.inr (some v0))), (1, .inl v1), (2, .inl v2), (3, .inl v3)]) (st' := [.inr (.inr (some v0)), .inl ((((v1 - (1 : Int32)) * (t7 - (1 : Int32))) + v2) - (1 : Int32))]) (pc' := 18) rfl ?_
  refine Wx.getI ok kX0_place 14 rfl lk_RX0_30_0 h (fun t18 h => ?_)
  refine Wx.run ok kX0_place 15 3 (lv' := [(0, .inr (.inr (some v0))), (1, .inl v1), (2, .inl v2), (3, .inl v3)]) (st' := [.inl ((((((v1 - (1 : Int32)) * (t7 - (1 : Int32))) + v2) - (1 : Int32)) * t18) + v3)]) (pc' := 24) rfl ?_
  exact Wx.ireturn ok kX0_place 18 rfl hres h (by decide)
set_option maxRecDepth 100000 in
set_option maxHeartbeats 4000000 in
theorem aX0_places (l : Launch) (G : gG) {F : Nat} {v0 : Nat} {w : gW} {res : Int32 × gW} (h : mX0_places F v0 w = some res) : gM l yX0_places cX0_places 1 (some .int) rmX0_places G w (gTs [.inr (.inr (some v0))]) (some (.int res.1)) res.2 := by
  refine gM_of (y := yX0_places) (by decide +kernel) (Nat.le_of_ble_eq_true rfl) ?_
  intro X ok hl hG hres hnm
  subst hl; subst hG
  unfold mX0_places at h
  show Wx X w 0 0 0 [(0, .inr (.inr (some v0)))] []
  refine Wx.run ok kX0_places 0 1 (lv' := [(0, .inr (.inr (some v0)))]) (st' := [.inr (.inr (some v0))]) (pc' := 1) rfl ?_
  refine Wx.getR ok kX0_places 1 rfl lk_RX0_22_0 h (fun t1 h => ?_)
  refine Wx.getI ok kX0_places 2 rfl lk_RX0_40_0 h (fun t4 h => ?_)
  refine Wx.run ok kX0_places 3 3 (lv' := [(0, .inr (.inr (some v0)))]) (st' := [.inr (.inr (some v0)), .inl (t4 - (1 : Int32))]) (pc' := 10) rfl ?_
  refine Wx.getR ok kX0_places 6 rfl lk_RX0_22_0 h (fun t10 h => ?_)
  refine Wx.getI ok kX0_places 7 rfl lk_RX0_40_0 h (fun t13 h => ?_)
  refine Wx.run ok kX0_places 8 4 (lv' := [(0, .inr (.inr (some v0)))]) (st' := [.inr (.inr (some v0)), .inl ((t4 - (1 : Int32)) * (t13 - (1 : Int32)))]) (pc' := 20) rfl ?_
  refine Wx.getI ok kX0_places 12 rfl lk_RX0_30_0 h (fun t20 h => ?_)
  refine Wx.run ok kX0_places 13 1 (lv' := [(0, .inr (.inr (some v0)))]) (st' := [.inl (((t4 - (1 : Int32)) * (t13 - (1 : Int32))) * t20)]) (pc' := 24) rfl ?_
  exact Wx.ireturn ok kX0_places 14 rfl hres h (by decide)
set_option maxRecDepth 100000 in
set_option maxHeartbeats 4000000 in
theorem aX0_put (l : Launch) (G : gG) {F : Nat} {v0 : Nat} {v1 : Int32} {v2 : Int32} {v3 : Int32} {v4 : Int32} {v5 : Int32} {w : gW} {res : gW} (h : mX0_put F v0 v1 v2 v3 v4 v5 w = some res) : gM l yX0_put cX0_put 7 none rmX0_put G w (gTs [.inr (.inr (some v0)), .inl v1, .inl v2, .inl v3, .inl v4, .inl v5]) none res := by
  refine gM_of (y := yX0_put) (by decide +kernel) (Nat.le_of_ble_eq_true rfl) ?_
  intro X ok hl hG hres hnm
  subst hl; subst hG
  unfold mX0_put at h
  show Wx X w 0 0 0 [(0, .inr (.inr (some v0))), (1, .inl v1), (2, .inl v2), (3, .inl v3), (4, .inl v4), (5, .inl v5)] []
  refine Wx.run ok kX0_put 0 7 (lv' := [(6, .inl ((v1 * (2 : Int32)) * (2 : Int32))), (0, .inr (.inr (some v0))), (1, .inl v1), (2, .inl v2), (3, .inl v3), (4, .inl v4), (5, .inl v5)]) (st' := [.inr (.inr (some v0))]) (pc' := 8) rfl ?_
  refine Wx.getR ok kX0_put 7 rfl lk_RX0_9_0 h (fun t8 h => ?_)
  refine Wx.run ok kX0_put 8 2 (lv' := [(6, .inl ((v1 * (2 : Int32)) * (2 : Int32))), (0, .inr (.inr (some v0))), (1, .inl v1), (2, .inl v2), (3, .inl v3), (4, .inl v4), (5, .inl v5)]) (st' := [.inl v2, .inl ((v1 * (2 : Int32)) * (2 : Int32)), .inr (.inr t8)]) (pc' := 14) rfl ?_
  refine Wx.iast ok kX0_put 10 rfl h (fun w14 h => ?_)
  refine Wx.run ok kX0_put 11 1 (lv' := [(6, .inl ((v1 * (2 : Int32)) * (2 : Int32))), (0, .inr (.inr (some v0))), (1, .inl v1), (2, .inl v2), (3, .inl v3), (4, .inl v4), (5, .inl v5)]) (st' := [.inr (.inr (some v0))]) (pc' := 16) rfl ?_
  refine Wx.getR ok kX0_put 12 rfl lk_RX0_9_0 h (fun t16 h => ?_)
  refine Wx.run ok kX0_put 13 4 (lv' := [(6, .inl ((v1 * (2 : Int32)) * (2 : Int32))), (0, .inr (.inr (some v0))), (1, .inl v1), (2, .inl v2), (3, .inl v3), (4, .inl v4), (5, .inl v5)]) (st' := [.inl v3, .inl (((v1 * (2 : Int32)) * (2 : Int32)) + (1 : Int32)), .inr (.inr t16)]) (pc' := 24) rfl ?_
  refine Wx.iast ok kX0_put 17 rfl h (fun w24 h => ?_)
  refine Wx.run ok kX0_put 18 1 (lv' := [(6, .inl ((v1 * (2 : Int32)) * (2 : Int32))), (0, .inr (.inr (some v0))), (1, .inl v1), (2, .inl v2), (3, .inl v3), (4, .inl v4), (5, .inl v5)]) (st' := [.inr (.inr (some v0))]) (pc' := 26) rfl ?_
  refine Wx.getR ok kX0_put 19 rfl lk_RX0_9_0 h (fun t26 h => ?_)
  refine Wx.run ok kX0_put 20 4 (lv' := [(6, .inl ((v1 * (2 : Int32)) * (2 : Int32))), (0, .inr (.inr (some v0))), (1, .inl v1), (2, .inl v2), (3, .inl v3), (4, .inl v4), (5, .inl v5)]) (st' := [.inl v4, .inl (((v1 * (2 : Int32)) * (2 : Int32)) + (2 : Int32)), .inr (.inr t26)]) (pc' := 35) rfl ?_
  refine Wx.iast ok kX0_put 24 rfl h (fun w35 h => ?_)
  refine Wx.run ok kX0_put 25 1 (lv' := [(6, .inl ((v1 * (2 : Int32)) * (2 : Int32))), (0, .inr (.inr (some v0))), (1, .inl v1), (2, .inl v2), (3, .inl v3), (4, .inl v4), (5, .inl v5)]) (st' := [.inr (.inr (some v0))]) (pc' := 37) rfl ?_
  refine Wx.getR ok kX0_put 26 rfl lk_RX0_9_0 h (fun t37 h => ?_)
  refine Wx.run ok kX0_put 27 4 (lv' := [(6, .inl ((v1 * (2 : Int32)) * (2 : Int32))), (0, .inr (.inr (some v0))), (1, .inl v1), (2, .inl v2), (3, .inl v3), (4, .inl v4), (5, .inl v5)]) (st' := [.inl v5, .inl (((v1 * (2 : Int32)) * (2 : Int32)) + (3 : Int32)), .inr (.inr t37)]) (pc' := 46) rfl ?_
  refine Wx.iast ok kX0_put 31 rfl h (fun w46 h => ?_)
  refine Wx.run ok kX0_put 32 2 (lv' := [(6, .inl ((v1 * (2 : Int32)) * (2 : Int32))), (0, .inr (.inr (some v0))), (1, .inl v1), (2, .inl v2), (3, .inl v3), (4, .inl v4), (5, .inl v5)]) (st' := [.inl (0 : Int32), .inr (.inr (some v0))]) (pc' := 49) rfl ?_
  refine Wx.put ok kX0_put 34 rfl lk_RX0_49_1 gFit_z0 h (fun w49 h => ?_)
  exact Wx.vreturn ok kX0_put 35 rfl hres h (by decide)
set_option maxRecDepth 100000 in
set_option maxHeartbeats 4000000 in
theorem aX1_firstNotZero_h2 {X : gX} (ok : gOk X cX1_firstNotZero RX1 3 (some .int) rmX1_firstNotZero) {res : Int32 × gW} (hres : gRs X (some (.int res.1)) res.2) {F : Nat} (r : Nat → (Option Nat) → Int32 → gW → Option (Int32 × gW)) (hr : ∀ (v0 : Nat) (v1 : Option Nat) (v2 : Int32) (w : gW), r v0 v1 v2 w = some res → Wx X w 0 0 2 [(0, .inr (.inr (some v0))), (1, .inr (.inr v1)), (2, .inl v2)] []) : ∀ (v0 : Nat) (v1 : Option Nat) (v2 : Int32) (w : gW), mX1_firstNotZero_h2 F r v0 v1 v2 w = some res → Wx X w 0 0 2 [(0, .inr (.inr (some v0))), (1, .inr (.inr v1)), (2, .inl v2)] [] := by
  intro v0 v1 v2 w h
  unfold mX1_firstNotZero_h2 at h
  refine Wx.run ok kX1_firstNotZero 2 2 (lv' := [(0, .inr (.inr (some v0))), (1, .inr (.inr v1)), (2, .inl v2)]) (st' := [.inr (.inr (some v0)), .inl v2]) (pc' := 4) rfl ?_
  refine Wx.getI ok kX1_firstNotZero 4 rfl lk_RX1_27_0 h (fun t4 h => ?_)
  refine Wx.icmp_ge ok kX1_firstNotZero 5 (tgt := 24) rfl (by decide) h (fun hc7 h => ?_) (fun hc7 h => ?_)
  · refine Wx.run ok kX1_firstNotZero 14 1 (lv' := [(0, .inr (.inr (some v0))), (1, .inr (.inr v1)), (2, .inl v2)]) (st' := [.inl (-1 : Int32)]) (pc' := 25) rfl ?_
    exact Wx.ireturn ok kX1_firstNotZero 15 rfl hres h (by decide)
  · refine Wx.run ok kX1_firstNotZero 6 2 (lv' := [(0, .inr (.inr (some v0))), (1, .inr (.inr v1)), (2, .inl v2)]) (st' := [.inl v2, .inr (.inr v1)]) (pc' := 12) rfl ?_
    refine Wx.iald ok kX1_firstNotZero 8 rfl h (fun t12 h => ?_)
    refine Wx.if_eq ok kX1_firstNotZero 9 (tgt := 18) rfl (by decide) h (fun hc13 h => ?_) (fun hc13 h => ?_)
    · refine Wx.run ok kX1_firstNotZero 12 1 (lv' := [(2, .inl (v2 + (1 : Int32))), (0, .inr (.inr (some v0))), (1, .inr (.inr v1))]) (st' := []) (pc' := 21) rfl ?_
      refine Wx.jump ok kX1_firstNotZero 13 (tgt := 2) rfl (by decide) ?_
      refine Wx.sub [1, 2, 0] rfl ?_
      exact hr _ _ _ _ h
    · refine Wx.run ok kX1_firstNotZero 10 1 (lv' := [(0, .inr (.inr (some v0))), (1, .inr (.inr v1)), (2, .inl v2)]) (st' := [.inl v2]) (pc' := 17) rfl ?_
      exact Wx.ireturn ok kX1_firstNotZero 11 rfl hres h (by decide)
set_option maxRecDepth 100000 in
set_option maxHeartbeats 4000000 in
theorem aX1_firstNotZero_l2 {X : gX} (ok : gOk X cX1_firstNotZero RX1 3 (some .int) rmX1_firstNotZero) {res : Int32 × gW} (hres : gRs X (some (.int res.1)) res.2) {F : Nat} : ∀ (n : Nat) (v0 : Nat) (v1 : Option Nat) (v2 : Int32) (w : gW), mX1_firstNotZero_l2 F n v0 v1 v2 w = some res → Wx X w 0 0 2 [(0, .inr (.inr (some v0))), (1, .inr (.inr v1)), (2, .inl v2)] [] := by
  intro n
  induction n with
  | zero => intro v0 v1 v2 w h; cases (show (none : Option (Int32 × gW)) = some res from h)
  | succ n ih =>
    intro v0 v1 v2 w h
    exact aX1_firstNotZero_h2 ok hres (F := F) (mX1_firstNotZero_l2 F n) ih v0 v1 v2 w h
set_option maxRecDepth 100000 in
set_option maxHeartbeats 4000000 in
theorem aX1_firstNotZero (l : Launch) (G : gG) {F : Nat} {v0 : Nat} {v1 : Option Nat} {w : gW} {res : Int32 × gW} (h : mX1_firstNotZero F v0 v1 w = some res) : gM l yX1_firstNotZero cX1_firstNotZero 3 (some .int) rmX1_firstNotZero G w (gTs [.inr (.inr (some v0)), .inr (.inr v1)]) (some (.int res.1)) res.2 := by
  refine gM_of (y := yX1_firstNotZero) (by decide +kernel) (Nat.le_of_ble_eq_true rfl) ?_
  intro X ok hl hG hres hnm
  subst hl; subst hG
  unfold mX1_firstNotZero at h
  show Wx X w 0 0 0 [(0, .inr (.inr (some v0))), (1, .inr (.inr v1))] []
  refine Wx.run ok kX1_firstNotZero 0 2 (lv' := [(2, .inl (0 : Int32)), (0, .inr (.inr (some v0))), (1, .inr (.inr v1))]) (st' := []) (pc' := 2) rfl ?_
  refine Wx.sub [1, 2, 0] rfl ?_
  refine aX1_firstNotZero_l2 ok hres (F := F) F _ _ _ _ h
set_option maxRecDepth 100000 in
set_option maxHeartbeats 4000000 in
theorem aX1_leadOf (l : Launch) (G : gG) {F : Nat} {v0 : Nat} {v1 : Int32} {w : gW} {res : Int32 × gW} (h : mX1_leadOf F v0 v1 w = some res) : gM l yX1_leadOf cX1_leadOf 2 (some .int) rmX1_leadOf G w (gTs [.inr (.inr (some v0)), .inl v1]) (some (.int res.1)) res.2 := by
  refine gM_of (y := yX1_leadOf) (by decide +kernel) (Nat.le_of_ble_eq_true rfl) ?_
  intro X ok hl hG hres hnm
  subst hl; subst hG
  unfold mX1_leadOf at h
  show Wx X w 0 0 0 [(0, .inr (.inr (some v0))), (1, .inl v1)] []
  refine Wx.run ok kX1_leadOf 0 1 (lv' := [(0, .inr (.inr (some v0))), (1, .inl v1)]) (st' := [.inr (.inr (some v0))]) (pc' := 1) rfl ?_
  refine Wx.getR ok kX1_leadOf 1 rfl lk_RX1_24_0 h (fun t1 h => ?_)
  refine Wx.run ok kX1_leadOf 2 1 (lv' := [(0, .inr (.inr (some v0))), (1, .inl v1)]) (st' := [.inl v1, .inr (.inr t1)]) (pc' := 5) rfl ?_
  refine Wx.iald ok kX1_leadOf 3 rfl h (fun t5 h => ?_)
  exact Wx.ireturn ok kX1_leadOf 4 rfl hres h (by decide)
set_option maxRecDepth 100000 in
set_option maxHeartbeats 4000000 in
theorem aX1_leadsAt (l : Launch) (G : gG) {F : Nat} {v0 : Nat} {v1 : Int32} {w : gW} {res : Int32 × gW} (h : mX1_leadsAt F v0 v1 w = some res) : gM l yX1_leadsAt cX1_leadsAt 2 (some .boolean) rmX1_leadsAt G w (gTs [.inr (.inr (some v0)), .inl v1]) (some (.int res.1)) res.2 := by
  refine gM_of (y := yX1_leadsAt) (by decide +kernel) (Nat.le_of_ble_eq_true rfl) ?_
  intro X ok hl hG hres hnm
  subst hl; subst hG
  unfold mX1_leadsAt at h
  show Wx X w 0 0 0 [(0, .inr (.inr (some v0))), (1, .inl v1)] []
  refine Wx.run ok kX1_leadsAt 0 1 (lv' := [(0, .inr (.inr (some v0))), (1, .inl v1)]) (st' := [.inr (.inr (some v0))]) (pc' := 1) rfl ?_
  refine Wx.getR ok kX1_leadsAt 1 rfl lk_RX1_9_0 h (fun t1 h => ?_)
  refine Wx.run ok kX1_leadsAt 2 1 (lv' := [(0, .inr (.inr (some v0))), (1, .inl v1)]) (st' := [.inl v1, .inr (.inr t1)]) (pc' := 5) rfl ?_
  refine Wx.iald ok kX1_leadsAt 3 rfl h (fun t5 h => ?_)
  refine Wx.if_lt ok kX1_leadsAt 4 (tgt := 13) rfl (by decide) h (fun hc6 h => ?_) (fun hc6 h => ?_)
  · refine Wx.run ok kX1_leadsAt 7 1 (lv' := [(0, .inr (.inr (some v0))), (1, .inl v1)]) (st' := [.inl (0 : Int32)]) (pc' := 14) rfl ?_
    exact Wx.zreturn ok kX1_leadsAt 8 rfl gNz0 hres h (by decide)
  · refine Wx.run ok kX1_leadsAt 5 1 (lv' := [(0, .inr (.inr (some v0))), (1, .inl v1)]) (st' := [.inl (1 : Int32)]) (pc' := 10) rfl ?_
    refine Wx.jump ok kX1_leadsAt 6 (tgt := 14) rfl (by decide) ?_
    exact Wx.zreturn ok kX1_leadsAt 8 rfl gNz1 hres h (by decide)
set_option maxRecDepth 100000 in
set_option maxHeartbeats 4000000 in
theorem aX1_number (l : Launch) (G : gG) {F : Nat} {v0 : Nat} {v1 : Int32} {v2 : Int32} {w : gW} {res : Int32 × gW} (h : mX1_number F v0 v1 v2 w = some res) : gM l yX1_number cX1_number 3 (some .int) rmX1_number G w (gTs [.inr (.inr (some v0)), .inl v1, .inl v2]) (some (.int res.1)) res.2 := by
  refine gM_of (y := yX1_number) (by decide +kernel) (Nat.le_of_ble_eq_true rfl) ?_
  intro X ok hl hG hres hnm
  subst hl; subst hG
  unfold mX1_number at h
  show Wx X w 0 0 0 [(0, .inr (.inr (some v0))), (1, .inl v1), (2, .inl v2)] []
  refine Wx.run ok kX1_number 0 1 (lv' := [(0, .inr (.inr (some v0))), (1, .inl v1), (2, .inl v2)]) (st' := [.inr (.inr (some v0))]) (pc' := 1) rfl ?_
  refine Wx.getR ok kX1_number 1 rfl lk_RX1_21_0 h (fun t1 h => ?_)
  refine Wx.run ok kX1_number 2 5 (lv' := [(0, .inr (.inr (some v0))), (1, .inl v1), (2, .inl v2)]) (st' := [.inl ((v1 * (98 : Int32)) + v2), .inr (.inr t1)]) (pc' := 10) rfl ?_
  refine Wx.iald ok kX1_number 7 rfl h (fun t10 h => ?_)
  exact Wx.ireturn ok kX1_number 8 rfl hres h (by decide)
set_option maxRecDepth 100000 in
set_option maxHeartbeats 4000000 in
theorem aX2_has_b16 {X : gX} (ok : gOk X cX2_has RX2 2 (some .boolean) rmX2_has) {res : Int32 × gW} (hres : gRs X (some (.int res.1)) res.2) {F : Nat} : ∀  (w : gW), mX2_has_b16 F w = some res → Wx X w 0 0 16 [] [] := by
  intro w h
  unfold mX2_has_b16 at h
  refine Wx.run ok kX2_has 8 1 (lv' := []) (st' := [.inl (0 : Int32)]) (pc' := 17) rfl ?_
  exact Wx.zreturn ok kX2_has 9 rfl gNz0 hres h (by decide)
set_option maxRecDepth 100000 in
set_option maxHeartbeats 4000000 in
theorem aX2_has (l : Launch) (G : gG) {F : Nat} {v0 : Nat} {v1 : Int32} {w : gW} {res : Int32 × gW} (h : mX2_has F v0 v1 w = some res) : gM l yX2_has cX2_has 2 (some .boolean) rmX2_has G w (gTs [.inr (.inr (some v0)), .inl v1]) (some (.int res.1)) res.2 := by
  refine gM_of (y := yX2_has) (by decide +kernel) (Nat.le_of_ble_eq_true rfl) ?_
  intro X ok hl hG hres hnm
  subst hl; subst hG
  unfold mX2_has at h
  show Wx X w 0 0 0 [(0, .inr (.inr (some v0))), (1, .inl v1)] []
  refine Wx.run ok kX2_has 0 1 (lv' := [(0, .inr (.inr (some v0))), (1, .inl v1)]) (st' := [.inl v1]) (pc' := 1) rfl ?_
  refine Wx.if_lt ok kX2_has 1 (tgt := 16) rfl (by decide) h (fun hc1 h => ?_) (fun hc1 h => ?_)
  · refine Wx.sub [] rfl ?_
    exact aX2_has_b16 ok hres (F := F)  _ h
  · refine Wx.run ok kX2_has 2 2 (lv' := [(0, .inr (.inr (some v0))), (1, .inl v1)]) (st' := [.inr (.inr (some v0)), .inl v1]) (pc' := 6) rfl ?_
    refine Wx.getI ok kX2_has 4 rfl lk_RX2_30_0 h (fun t6 h => ?_)
    refine Wx.icmp_ge ok kX2_has 5 (tgt := 16) rfl (by decide) h (fun hc9 h => ?_) (fun hc9 h => ?_)
    · refine Wx.sub [] rfl ?_
      exact aX2_has_b16 ok hres (F := F)  _ h
    · refine Wx.run ok kX2_has 6 1 (lv' := [(0, .inr (.inr (some v0))), (1, .inl v1)]) (st' := [.inl (1 : Int32)]) (pc' := 13) rfl ?_
      refine Wx.jump ok kX2_has 7 (tgt := 17) rfl (by decide) ?_
      exact Wx.zreturn ok kX2_has 9 rfl gNz1 hres h (by decide)
set_option maxRecDepth 100000 in
set_option maxHeartbeats 4000000 in
theorem aX2_init (l : Launch) (G : gG) {F : Nat} {v0 : Nat} {w : gW} {res : gW} (h : mX2_init F v0 w = some res) : gM l yX2_init cX2_init 1 none rmX2_init G w (gTs [.inr (.inr (some v0))]) none res := by
  refine gM_of (y := yX2_init) (by decide +kernel) (Nat.le_of_ble_eq_true rfl) ?_
  intro X ok hl hG hres hnm
  subst hl; subst hG
  unfold mX2_init at h
  show Wx X w 0 0 0 [(0, .inr (.inr (some v0)))] []
  refine Wx.run ok kX2_init 0 1 (lv' := [(0, .inr (.inr (some v0)))]) (st' := [.inr (.inr (some v0))]) (pc' := 1) rfl ?_
  refine Wx.objInit ok kX2_init 1 rfl ⟨gw_80, gw_18, gw_19⟩ ⟨Nat.le_of_ble_eq_true rfl, Nat.le_of_ble_eq_true rfl⟩ ?_
  refine Wx.run ok kX2_init 2 2 (lv' := [(0, .inr (.inr (some v0)))]) (st' := [.inl (2304 : Int32), .inr (.inr (some v0))]) (pc' := 8) rfl ?_
  refine Wx.newI ok kX2_init 4 rfl gw_45 h (by decide) (by decide) (fun w8 h => ?_)
  refine Wx.putF ok kX2_init 5 rfl lk_RX2_9_2 hnm (gFit_a _ _) h (fun w10 h => ?_)
  refine Wx.run ok kX2_init 6 2 (lv' := [(0, .inr (.inr (some v0)))]) (st' := [.inl (48 : Int32), .inr (.inr (some v0))]) (pc' := 16) rfl ?_
  refine Wx.newI ok kX2_init 8 rfl gw_45 h (by decide) (by decide) (fun w16 h => ?_)
  refine Wx.putF ok kX2_init 9 rfl lk_RX2_15_2 hnm (gFit_a _ _) h (fun w18 h => ?_)
  refine Wx.run ok kX2_init 10 2 (lv' := [(0, .inr (.inr (some v0)))]) (st' := [.inl (48 : Int32), .inr (.inr (some v0))]) (pc' := 24) rfl ?_
  refine Wx.newI ok kX2_init 12 rfl gw_45 h (by decide) (by decide) (fun w24 h => ?_)
  refine Wx.putF ok kX2_init 13 rfl lk_RX2_18_2 hnm (gFit_a _ _) h (fun w26 h => ?_)
  refine Wx.run ok kX2_init 14 2 (lv' := [(0, .inr (.inr (some v0)))]) (st' := [.inl (48 : Int32), .inr (.inr (some v0))]) (pc' := 32) rfl ?_
  refine Wx.newI ok kX2_init 16 rfl gw_45 h (by decide) (by decide) (fun w32 h => ?_)
  refine Wx.putF ok kX2_init 17 rfl lk_RX2_21_2 hnm (gFit_a _ _) h (fun w34 h => ?_)
  refine Wx.run ok kX2_init 18 2 (lv' := [(0, .inr (.inr (some v0)))]) (st' := [.inl (48 : Int32), .inr (.inr (some v0))]) (pc' := 40) rfl ?_
  refine Wx.newI ok kX2_init 20 rfl gw_45 h (by decide) (by decide) (fun w40 h => ?_)
  refine Wx.putF ok kX2_init 21 rfl lk_RX2_24_2 hnm (gFit_a _ _) h (fun w42 h => ?_)
  refine Wx.run ok kX2_init 22 2 (lv' := [(0, .inr (.inr (some v0)))]) (st' := [.inl (5 : Int32), .inr (.inr (some v0))]) (pc' := 47) rfl ?_
  refine Wx.newI ok kX2_init 24 rfl gw_45 h (by decide) (by decide) (fun w47 h => ?_)
  refine Wx.putF ok kX2_init 25 rfl lk_RX2_27_2 hnm (gFit_a _ _) h (fun w49 h => ?_)
  exact Wx.vreturn ok kX2_init 26 rfl hres h (by decide)
set_option maxRecDepth 100000 in
set_option maxHeartbeats 4000000 in
theorem aX2_mul (l : Launch) (G : gG) {F : Nat} {v0 : Nat} {v1 : Int32} {v2 : Int32} {w : gW} {res : Int32 × gW} (h : mX2_mul F v0 v1 v2 w = some res) : gM l yX2_mul cX2_mul 3 (some .int) rmX2_mul G w (gTs [.inr (.inr (some v0)), .inl v1, .inl v2]) (some (.int res.1)) res.2 := by
  refine gM_of (y := yX2_mul) (by decide +kernel) (Nat.le_of_ble_eq_true rfl) ?_
  intro X ok hl hG hres hnm
  subst hl; subst hG
  unfold mX2_mul at h
  show Wx X w 0 0 0 [(0, .inr (.inr (some v0))), (1, .inl v1), (2, .inl v2)] []
  refine Wx.run ok kX2_mul 0 1 (lv' := [(0, .inr (.inr (some v0))), (1, .inl v1), (2, .inl v2)]) (st' := [.inr (.inr (some v0))]) (pc' := 1) rfl ?_
  refine Wx.getR ok kX2_mul 1 rfl lk_RX2_9_0 h (fun t1 h => ?_)
  refine Wx.run ok kX2_mul 2 5 (lv' := [(0, .inr (.inr (some v0))), (1, .inl v1), (2, .inl v2)]) (st' := [.inl ((v1 * (48 : Int32)) + v2), .inr (.inr t1)]) (pc' := 10) rfl ?_
  refine Wx.iald ok kX2_mul 7 rfl h (fun t10 h => ?_)
  exact Wx.ireturn ok kX2_mul 8 rfl hres h (by decide)
set_option maxRecDepth 100000 in
set_option maxHeartbeats 4000000 in
theorem aX2_set (l : Launch) (G : gG) {F : Nat} {v0 : Nat} {v1 : Int32} {v2 : Int32} {v3 : Int32} {w : gW} {res : gW} (h : mX2_set F v0 v1 v2 v3 w = some res) : gM l yX2_set cX2_set 4 none rmX2_set G w (gTs [.inr (.inr (some v0)), .inl v1, .inl v2, .inl v3]) none res := by
  refine gM_of (y := yX2_set) (by decide +kernel) (Nat.le_of_ble_eq_true rfl) ?_
  intro X ok hl hG hres hnm
  subst hl; subst hG
  unfold mX2_set at h
  show Wx X w 0 0 0 [(0, .inr (.inr (some v0))), (1, .inl v1), (2, .inl v2), (3, .inl v3)] []
  refine Wx.run ok kX2_set 0 1 (lv' := [(0, .inr (.inr (some v0))), (1, .inl v1), (2, .inl v2), (3, .inl v3)]) (st' := [.inr (.inr (some v0))]) (pc' := 1) rfl ?_
  refine Wx.getR ok kX2_set 1 rfl lk_RX2_9_0 h (fun t1 h => ?_)
  refine Wx.run ok kX2_set 2 6 (lv' := [(0, .inr (.inr (some v0))), (1, .inl v1), (2, .inl v2), (3, .inl v3)]) (st' := [.inl v3, .inl ((v1 * (48 : Int32)) + v2), .inr (.inr t1)]) (pc' := 11) rfl ?_
  refine Wx.iast ok kX2_set 8 rfl h (fun w11 h => ?_)
  exact Wx.vreturn ok kX2_set 9 rfl hres h (by decide)
set_option maxRecDepth 100000 in
set_option maxHeartbeats 4000000 in
theorem aX3_init (l : Launch) (G : gG) {F : Nat} {v0 : Nat} {w : gW} {res : gW} (h : mX3_init F v0 w = some res) : gM l yX3_init cX3_init 1 none rmX3_init G w (gTs [.inr (.inr (some v0))]) none res := by
  refine gM_of (y := yX3_init) (by decide +kernel) (Nat.le_of_ble_eq_true rfl) ?_
  intro X ok hl hG hres hnm
  subst hl; subst hG
  unfold mX3_init at h
  show Wx X w 0 0 0 [(0, .inr (.inr (some v0)))] []
  refine Wx.run ok kX3_init 0 1 (lv' := [(0, .inr (.inr (some v0)))]) (st' := [.inr (.inr (some v0))]) (pc' := 1) rfl ?_
  refine Wx.objInit ok kX3_init 1 rfl ⟨gw_318, gw_18, gw_19⟩ ⟨Nat.le_of_ble_eq_true rfl, Nat.le_of_ble_eq_true rfl⟩ ?_
  refine Wx.run ok kX3_init 2 2 (lv' := [(0, .inr (.inr (some v0)))]) (st' := [.inl (48 : Int32), .inr (.inr (some v0))]) (pc' := 7) rfl ?_
  refine Wx.newI ok kX3_init 4 rfl gw_45 h (by decide) (by decide) (fun w7 h => ?_)
  refine Wx.putF ok kX3_init 5 rfl lk_RX3_9_2 hnm (gFit_a _ _) h (fun w9 h => ?_)
  refine Wx.run ok kX3_init 6 2 (lv' := [(0, .inr (.inr (some v0)))]) (st' := [.inl (48 : Int32), .inr (.inr (some v0))]) (pc' := 15) rfl ?_
  refine Wx.newI ok kX3_init 8 rfl gw_45 h (by decide) (by decide) (fun w15 h => ?_)
  refine Wx.putF ok kX3_init 9 rfl lk_RX3_15_2 hnm (gFit_a _ _) h (fun w17 h => ?_)
  refine Wx.run ok kX3_init 10 2 (lv' := [(0, .inr (.inr (some v0)))]) (st' := [.inl (48 : Int32), .inr (.inr (some v0))]) (pc' := 23) rfl ?_
  refine Wx.newI ok kX3_init 12 rfl gw_45 h (by decide) (by decide) (fun w23 h => ?_)
  refine Wx.putF ok kX3_init 13 rfl lk_RX3_18_2 hnm (gFit_a _ _) h (fun w25 h => ?_)
  refine Wx.run ok kX3_init 14 2 (lv' := [(0, .inr (.inr (some v0)))]) (st' := [.inl (48 : Int32), .inr (.inr (some v0))]) (pc' := 31) rfl ?_
  refine Wx.newI ok kX3_init 16 rfl gw_45 h (by decide) (by decide) (fun w31 h => ?_)
  refine Wx.putF ok kX3_init 17 rfl lk_RX3_21_2 hnm (gFit_a _ _) h (fun w33 h => ?_)
  refine Wx.run ok kX3_init 18 2 (lv' := [(0, .inr (.inr (some v0)))]) (st' := [.inl (48 : Int32), .inr (.inr (some v0))]) (pc' := 39) rfl ?_
  refine Wx.newI ok kX3_init 20 rfl gw_45 h (by decide) (by decide) (fun w39 h => ?_)
  refine Wx.putF ok kX3_init 21 rfl lk_RX3_24_2 hnm (gFit_a _ _) h (fun w41 h => ?_)
  refine Wx.run ok kX3_init 22 2 (lv' := [(0, .inr (.inr (some v0)))]) (st' := [.inl (5 : Int32), .inr (.inr (some v0))]) (pc' := 46) rfl ?_
  refine Wx.newI ok kX3_init 24 rfl gw_45 h (by decide) (by decide) (fun w46 h => ?_)
  refine Wx.putF ok kX3_init 25 rfl lk_RX3_27_2 hnm (gFit_a _ _) h (fun w48 h => ?_)
  refine Wx.run ok kX3_init 26 2 (lv' := [(0, .inr (.inr (some v0)))]) (st' := [.inl (49 : Int32), .inr (.inr (some v0))]) (pc' := 54) rfl ?_
  refine Wx.newI ok kX3_init 28 rfl gw_45 h (by decide) (by decide) (fun w54 h => ?_)
  refine Wx.putF ok kX3_init 29 rfl lk_RX3_30_2 hnm (gFit_a _ _) h (fun w56 h => ?_)
  exact Wx.vreturn ok kX3_init 30 rfl hres h (by decide)
set_option maxRecDepth 100000 in
set_option maxHeartbeats 4000000 in
theorem aX3_nextOfPeriod_h3 {X : gX} (ok : gOk X cX3_nextOfPeriod RX3 5 (some .int) rmX3_nextOfPeriod) {res : Int32 × gW} (hres : gRs X (some (.int res.1)) res.2) {F : Nat} (r : (Option Nat) → Int32 → Int32 → gW → Option (Int32 × gW)) (hr : ∀ (v1 : Option Nat) (v2 : Int32) (v4 : Int32) (w : gW), r v1 v2 v4 w = some res → Wx X w 0 0 3 [(1, .inr (.inr v1)), (2, .inl v2), (4, .inl v4)] []) : ∀ (v1 : Option Nat) (v2 : Int32) (v4 : Int32) (w : gW), mX3_nextOfPeriod_h3 F r v1 v2 v4 w = some res → Wx X w 0 0 3 [(1, .inr (.inr v1)), (2, .inl v2), (4, .inl v4)] [] := by
  intro v1 v2 v4 w h
  unfold mX3_nextOfPeriod_h3 at h
  refine Wx.run ok kX3_nextOfPeriod 2 2 (lv' := [(1, .inr (.inr v1)), (2, .inl v2), (4, .inl v4)]) (st' := [.inr (.inr v1), .inl v4]) (pc' := 6) rfl ?_
  refine Wx.getI ok kX3_nextOfPeriod 4 rfl lk_RX3_33_0 h (fun t6 h => ?_)
  refine Wx.icmp_ge ok kX3_nextOfPeriod 5 (tgt := 32) rfl (by decide) h (fun hc9 h => ?_) (fun hc9 h => ?_)
  · refine Wx.run ok kX3_nextOfPeriod 16 1 (lv' := [(1, .inr (.inr v1)), (2, .inl v2), (4, .inl v4)]) (st' := [.inl (-1 : Int32)]) (pc' := 33) rfl ?_
    exact Wx.ireturn ok kX3_nextOfPeriod 17 rfl hres h (by decide)
  · refine Wx.run ok kX3_nextOfPeriod 6 1 (lv' := [(1, .inr (.inr v1)), (2, .inl v2), (4, .inl v4)]) (st' := [.inr (.inr v1)]) (pc' := 13) rfl ?_
    refine Wx.getR ok kX3_nextOfPeriod 7 rfl lk_RX3_54_0 h (fun t13 h => ?_)
    refine Wx.run ok kX3_nextOfPeriod 8 1 (lv' := [(1, .inr (.inr v1)), (2, .inl v2), (4, .inl v4)]) (st' := [.inl v4, .inr (.inr t13)]) (pc' := 18) rfl ?_
    refine Wx.iald ok kX3_nextOfPeriod 9 rfl h (fun t18 h => ?_)
    refine Wx.run ok kX3_nextOfPeriod 10 1 (lv' := [(1, .inr (.inr v1)), (2, .inl v2), (4, .inl v4)]) (st' := [.inl v2, .inl t18]) (pc' := 20) rfl ?_
    refine Wx.icmp_ne ok kX3_nextOfPeriod 11 (tgt := 26) rfl (by decide) h (fun hc20 h => ?_) (fun hc20 h => ?_)
    · refine Wx.run ok kX3_nextOfPeriod 12 1 (lv' := [(1, .inr (.inr v1)), (2, .inl v2), (4, .inl v4)]) (st' := [.inl v4]) (pc' := 25) rfl ?_
      exact Wx.ireturn ok kX3_nextOfPeriod 13 rfl hres h (by decide)
    · refine Wx.run ok kX3_nextOfPeriod 14 1 (lv' := [(4, .inl (v4 + (1 : Int32))), (1, .inr (.inr v1)), (2, .inl v2)]) (st' := []) (pc' := 29) rfl ?_
      refine Wx.jump ok kX3_nextOfPeriod 15 (tgt := 3) rfl (by decide) ?_
      refine Wx.sub [1, 2, 0] rfl ?_
      exact hr _ _ _ _ h
set_option maxRecDepth 100000 in
set_option maxHeartbeats 4000000 in
theorem aX3_nextOfPeriod_l3 {X : gX} (ok : gOk X cX3_nextOfPeriod RX3 5 (some .int) rmX3_nextOfPeriod) {res : Int32 × gW} (hres : gRs X (some (.int res.1)) res.2) {F : Nat} : ∀ (n : Nat) (v1 : Option Nat) (v2 : Int32) (v4 : Int32) (w : gW), mX3_nextOfPeriod_l3 F n v1 v2 v4 w = some res → Wx X w 0 0 3 [(1, .inr (.inr v1)), (2, .inl v2), (4, .inl v4)] [] := by
  intro n
  induction n with
  | zero => intro v1 v2 v4 w h; cases (show (none : Option (Int32 × gW)) = some res from h)
  | succ n ih =>
    intro v1 v2 v4 w h
    exact aX3_nextOfPeriod_h3 ok hres (F := F) (mX3_nextOfPeriod_l3 F n) ih v1 v2 v4 w h
set_option maxRecDepth 100000 in
set_option maxHeartbeats 4000000 in
theorem aX3_nextOfPeriod (l : Launch) (G : gG) {F : Nat} {v0 : Nat} {v1 : Option Nat} {v2 : Int32} {v3 : Int32} {w : gW} {res : Int32 × gW} (h : mX3_nextOfPeriod F v0 v1 v2 v3 w = some res) : gM l yX3_nextOfPeriod cX3_nextOfPeriod 5 (some .int) rmX3_nextOfPeriod G w (gTs [.inr (.inr (some v0)), .inr (.inr v1), .inl v2, .inl v3]) (some (.int res.1)) res.2 := by
  refine gM_of (y := yX3_nextOfPeriod) (by decide +kernel) (Nat.le_of_ble_eq_true rfl) ?_
  intro X ok hl hG hres hnm
  subst hl; subst hG
  unfold mX3_nextOfPeriod at h
  show Wx X w 0 0 0 [(0, .inr (.inr (some v0))), (1, .inr (.inr v1)), (2, .inl v2), (3, .inl v3)] []
  refine Wx.run ok kX3_nextOfPeriod 0 2 (lv' := [(4, .inl v3), (0, .inr (.inr (some v0))), (1, .inr (.inr v1)), (2, .inl v2), (3, .inl v3)]) (st' := []) (pc' := 3) rfl ?_
  refine Wx.sub [2, 3, 0] rfl ?_
  refine aX3_nextOfPeriod_l3 ok hres (F := F) F _ _ _ _ h
set_option maxRecDepth 100000 in
set_option maxHeartbeats 4000000 in
theorem aX4_faultOfReading (l : Launch) (G : gG) {F : Nat} {v0 : Nat} {v1 : Int32} {v2 : Int32} {w : gW} {res : Int32 × gW} (h : mX4_faultOfReading F v0 v1 v2 w = some res) : gM l yX4_faultOfReading cX4_faultOfReading 3 (some .int) rmX4_faultOfReading G w (gTs [.inr (.inr (some v0)), .inl v1, .inl v2]) (some (.int res.1)) res.2 := by
  refine gM_of (y := yX4_faultOfReading) (by decide +kernel) (Nat.le_of_ble_eq_true rfl) ?_
  intro X ok hl hG hres hnm
  subst hl; subst hG
  unfold mX4_faultOfReading at h
  show Wx X w 0 0 0 [(0, .inr (.inr (some v0))), (1, .inl v1), (2, .inl v2)] []
  refine Wx.run ok kX4_faultOfReading 0 1 (lv' := [(0, .inr (.inr (some v0))), (1, .inl v1), (2, .inl v2)]) (st' := [.inr (.inr (some v0))]) (pc' := 1) rfl ?_
  refine Wx.getI ok kX4_faultOfReading 1 rfl lk_RX4_15_0 h (fun t1 h => ?_)
  refine Wx.run ok kX4_faultOfReading 2 1 (lv' := [(0, .inr (.inr (some v0))), (1, .inl v1), (2, .inl v2)]) (st' := [.inl (-1 : Int32), .inl t1]) (pc' := 5) rfl ?_
  refine Wx.icmp_ne ok kX4_faultOfReading 3 (tgt := 10) rfl (by decide) h (fun hc5 h => ?_) (fun hc5 h => ?_)
  · refine Wx.run ok kX4_faultOfReading 4 1 (lv' := [(0, .inr (.inr (some v0))), (1, .inl v1), (2, .inl v2)]) (st' := [.inl (1 : Int32)]) (pc' := 9) rfl ?_
    exact Wx.ireturn ok kX4_faultOfReading 5 rfl hres h (by decide)
  · refine Wx.run ok kX4_faultOfReading 6 1 (lv' := [(0, .inr (.inr (some v0))), (1, .inl v1), (2, .inl v2)]) (st' := [.inr (.inr (some v0))]) (pc' := 11) rfl ?_
    refine Wx.getI ok kX4_faultOfReading 7 rfl lk_RX4_15_0 h (fun t11 h => ?_)
    refine Wx.run ok kX4_faultOfReading 8 1 (lv' := [(0, .inr (.inr (some v0))), (1, .inl v1), (2, .inl v2)]) (st' := [.inl v1, .inl t11]) (pc' := 15) rfl ?_
    refine Wx.icmp_eq ok kX4_faultOfReading 9 (tgt := 20) rfl (by decide) h (fun hc15 h => ?_) (fun hc15 h => ?_)
    · refine Wx.run ok kX4_faultOfReading 12 1 (lv' := [(0, .inr (.inr (some v0))), (1, .inl v1), (2, .inl v2)]) (st' := [.inr (.inr (some v0))]) (pc' := 21) rfl ?_
      refine Wx.getI ok kX4_faultOfReading 13 rfl lk_RX4_19_0 h (fun t21 h => ?_)
      refine Wx.run ok kX4_faultOfReading 14 1 (lv' := [(0, .inr (.inr (some v0))), (1, .inl v1), (2, .inl v2)]) (st' := [.inl v2, .inl t21]) (pc' := 25) rfl ?_
      refine Wx.icmp_ge ok kX4_faultOfReading 15 (tgt := 32) rfl (by decide) h (fun hc25 h => ?_) (fun hc25 h => ?_)
      · refine Wx.run ok kX4_faultOfReading 18 1 (lv' := [(0, .inr (.inr (some v0))), (1, .inl v1), (2, .inl v2)]) (st' := [.inl (0 : Int32)]) (pc' := 33) rfl ?_
        exact Wx.ireturn ok kX4_faultOfReading 19 rfl hres h (by decide)
      · refine Wx.run ok kX4_faultOfReading 16 1 (lv' := [(0, .inr (.inr (some v0))), (1, .inl v1), (2, .inl v2)]) (st' := [.inl (2 : Int32)]) (pc' := 29) rfl ?_
        refine Wx.jump ok kX4_faultOfReading 17 (tgt := 33) rfl (by decide) ?_
        exact Wx.ireturn ok kX4_faultOfReading 19 rfl hres h (by decide)
    · refine Wx.run ok kX4_faultOfReading 10 1 (lv' := [(0, .inr (.inr (some v0))), (1, .inl v1), (2, .inl v2)]) (st' := [.inl (3 : Int32)]) (pc' := 19) rfl ?_
      exact Wx.ireturn ok kX4_faultOfReading 11 rfl hres h (by decide)
set_option maxRecDepth 100000 in
set_option maxHeartbeats 4000000 in
theorem aX4_init (l : Launch) (G : gG) {F : Nat} {v0 : Nat} {w : gW} {res : gW} (h : mX4_init F v0 w = some res) : gM l yX4_init cX4_init 1 none rmX4_init G w (gTs [.inr (.inr (some v0))]) none res := by
  refine gM_of (y := yX4_init) (by decide +kernel) (Nat.le_of_ble_eq_true rfl) ?_
  intro X ok hl hG hres hnm
  subst hl; subst hG
  unfold mX4_init at h
  show Wx X w 0 0 0 [(0, .inr (.inr (some v0)))] []
  refine Wx.run ok kX4_init 0 1 (lv' := [(0, .inr (.inr (some v0)))]) (st' := [.inr (.inr (some v0))]) (pc' := 1) rfl ?_
  refine Wx.objInit ok kX4_init 1 rfl ⟨gw_30, gw_18, gw_19⟩ ⟨Nat.le_of_ble_eq_true rfl, Nat.le_of_ble_eq_true rfl⟩ ?_
  refine Wx.run ok kX4_init 2 2 (lv' := [(0, .inr (.inr (some v0)))]) (st' := [.inl (144 : Int32), .inr (.inr (some v0))]) (pc' := 8) rfl ?_
  refine Wx.newI ok kX4_init 4 rfl gw_45 h (by decide) (by decide) (fun w8 h => ?_)
  refine Wx.putF ok kX4_init 5 rfl lk_RX4_9_2 hnm (gFit_a _ _) h (fun w10 h => ?_)
  refine Wx.run ok kX4_init 6 2 (lv' := [(0, .inr (.inr (some v0)))]) (st' := [.inl (-1 : Int32), .inr (.inr (some v0))]) (pc' := 15) rfl ?_
  refine Wx.put ok kX4_init 8 rfl lk_RX4_15_1 (gFit_i _) h (fun w15 h => ?_)
  exact Wx.vreturn ok kX4_init 9 rfl hres h (by decide)
set_option maxRecDepth 100000 in
set_option maxHeartbeats 4000000 in
theorem aX4_put_b18 {X : gX} (ok : gOk X cX4_put RX4 3 none rmX4_put) {res : gW} (hres : gRs X none res) {F : Nat} : ∀ (s0 : Option Nat) (s1 : Int32) (s2 : Int32) (w : gW), mX4_put_b18 F s0 s1 s2 w = some res → Wx X w 0 0 18 [] [.inl s2, .inl s1, .inr (.inr s0)] := by
  intro s0 s1 s2 w h
  unfold mX4_put_b18 at h
  refine Wx.iast ok kX4_put 10 rfl h (fun w18 h => ?_)
  exact Wx.vreturn ok kX4_put 11 rfl hres h (by decide)
set_option maxRecDepth 100000 in
set_option maxHeartbeats 4000000 in
theorem aX4_put (l : Launch) (G : gG) {F : Nat} {v0 : Nat} {v1 : Int32} {v2 : Int32} {w : gW} {res : gW} (h : mX4_put F v0 v1 v2 w = some res) : gM l yX4_put cX4_put 3 none rmX4_put G w (gTs [.inr (.inr (some v0)), .inl v1, .inl v2]) none res := by
  refine gM_of (y := yX4_put) (by decide +kernel) (Nat.le_of_ble_eq_true rfl) ?_
  intro X ok hl hG hres hnm
  subst hl; subst hG
  unfold mX4_put at h
  show Wx X w 0 0 0 [(0, .inr (.inr (some v0))), (1, .inl v1), (2, .inl v2)] []
  refine Wx.run ok kX4_put 0 1 (lv' := [(0, .inr (.inr (some v0))), (1, .inl v1), (2, .inl v2)]) (st' := [.inr (.inr (some v0))]) (pc' := 1) rfl ?_
  refine Wx.getR ok kX4_put 1 rfl lk_RX4_9_0 h (fun t1 h => ?_)
  refine Wx.run ok kX4_put 2 2 (lv' := [(0, .inr (.inr (some v0))), (1, .inl v1), (2, .inl v2)]) (st' := [.inr (.inr (some v0)), .inl v1, .inr (.inr t1)]) (pc' := 6) rfl ?_
  refine Wx.getI ok kX4_put 4 rfl lk_RX4_15_0 h (fun t6 h => ?_)
  refine Wx.if_ne ok kX4_put 5 (tgt := 17) rfl (by decide) h (fun hc9 h => ?_) (fun hc9 h => ?_)
  · refine Wx.run ok kX4_put 6 2 (lv' := [(0, .inr (.inr (some v0))), (1, .inl v1), (2, .inl v2)]) (st' := [.inl ((v2).toInt8.toInt32), .inl v1, .inr (.inr t1)]) (pc' := 14) rfl ?_
    refine Wx.jump ok kX4_put 8 (tgt := 18) rfl (by decide) ?_
    refine Wx.sub [] rfl ?_
    exact aX4_put_b18 ok hres (F := F) _ _ _ _ h
  · refine Wx.run ok kX4_put 9 1 (lv' := [(0, .inr (.inr (some v0))), (1, .inl v1), (2, .inl v2)]) (st' := [.inl v2, .inl v1, .inr (.inr t1)]) (pc' := 18) rfl ?_
    refine Wx.sub [] rfl ?_
    exact aX4_put_b18 ok hres (F := F) _ _ _ _ h
set_option maxRecDepth 100000 in
set_option maxHeartbeats 4000000 in
theorem aX5_dimensionOf (l : Launch) (G : gG) {F : Nat} {v0 : Nat} {v1 : Int32} {w : gW} {res : Int32 × gW} (h : mX5_dimensionOf F v0 v1 w = some res) : gM l yX5_dimensionOf cX5_dimensionOf 2 (some .int) rmX5_dimensionOf G w (gTs [.inr (.inr (some v0)), .inl v1]) (some (.int res.1)) res.2 := by
  refine gM_of (y := yX5_dimensionOf) (by decide +kernel) (Nat.le_of_ble_eq_true rfl) ?_
  intro X ok hl hG hres hnm
  subst hl; subst hG
  unfold mX5_dimensionOf at h
  show Wx X w 0 0 0 [(0, .inr (.inr (some v0))), (1, .inl v1)] []
  refine Wx.run ok kX5_dimensionOf 0 1 (lv' := [(0, .inr (.inr (some v0))), (1, .inl v1)]) (st' := [.inl v1]) (pc' := 1) rfl ?_
  refine gIte h (fun hx h => ?_) (fun hx0 h => ?_)
  · refine Wx.swIn ok kX5_dimensionOf 1 rfl (tgt := 40) (by rw [hx]; decide) (by rw [hx]; decide) (by rw [hx]; rfl) (by decide) ?_
    refine Wx.run ok kX5_dimensionOf 2 1 (lv' := [(0, .inr (.inr (some v0))), (1, .inl v1)]) (st' := [.inr (.inr (some v0))]) (pc' := 41) rfl ?_
    refine Wx.getI ok kX5_dimensionOf 3 rfl lk_RX5_27_0 h (fun t41 h => ?_)
    exact Wx.ireturn ok kX5_dimensionOf 4 rfl hres h (by decide)
  refine gIte h (fun hx h => ?_) (fun hx1 h => ?_)
  · refine Wx.swIn ok kX5_dimensionOf 1 rfl (tgt := 45) (by rw [hx]; decide) (by rw [hx]; decide) (by rw [hx]; rfl) (by decide) ?_
    refine Wx.run ok kX5_dimensionOf 5 1 (lv' := [(0, .inr (.inr (some v0))), (1, .inl v1)]) (st' := [.inr (.inr (some v0))]) (pc' := 46) rfl ?_
    refine Wx.getI ok kX5_dimensionOf 6 rfl lk_RX5_31_0 h (fun t46 h => ?_)
    refine Wx.run ok kX5_dimensionOf 7 1 (lv' := [(0, .inr (.inr (some v0))), (1, .inl v1)]) (st' := [.inr (.inr (some v0)), .inl t46]) (pc' := 50) rfl ?_
    refine Wx.getR ok kX5_dimensionOf 8 rfl lk_RX5_20_0 h (fun t50 h => ?_)
    refine Wx.getI ok kX5_dimensionOf 9 rfl lk_RX5_34_0 h (fun t53 h => ?_)
    refine Wx.run ok kX5_dimensionOf 10 1 (lv' := [(0, .inr (.inr (some v0))), (1, .inl v1)]) (st' := [.inl (t46 - t53)]) (pc' := 57) rfl ?_
    exact Wx.ireturn ok kX5_dimensionOf 11 rfl hres h (by decide)
  refine gIte h (fun hx h => ?_) (fun hx2 h => ?_)
  · refine Wx.swIn ok kX5_dimensionOf 1 rfl (tgt := 58) (by rw [hx]; decide) (by rw [hx]; decide) (by rw [hx]; rfl) (by decide) ?_
    refine Wx.run ok kX5_dimensionOf 12 1 (lv' := [(0, .inr (.inr (some v0))), (1, .inl v1)]) (st' := [.inr (.inr (some v0))]) (pc' := 59) rfl ?_
    refine Wx.getI ok kX5_dimensionOf 13 rfl lk_RX5_37_0 h (fun t59 h => ?_)
    exact Wx.ireturn ok kX5_dimensionOf 14 rfl hres h (by decide)
  refine gIte h (fun hx h => ?_) (fun hx3 h => ?_)
  · refine Wx.swIn ok kX5_dimensionOf 1 rfl (tgt := 63) (by rw [hx]; decide) (by rw [hx]; decide) (by rw [hx]; rfl) (by decide) ?_
    refine Wx.run ok kX5_dimensionOf 15 1 (lv' := [(0, .inr (.inr (some v0))), (1, .inl v1)]) (st' := [.inr (.inr (some v0))]) (pc' := 64) rfl ?_
    refine Wx.getR ok kX5_dimensionOf 16 rfl lk_RX5_20_0 h (fun t64 h => ?_)
    refine Wx.getI ok kX5_dimensionOf 17 rfl lk_RX5_34_0 h (fun t67 h => ?_)
    refine Wx.run ok kX5_dimensionOf 18 1 (lv' := [(0, .inr (.inr (some v0))), (1, .inl v1)]) (st' := [.inr (.inr (some v0)), .inl t67]) (pc' := 71) rfl ?_
    refine Wx.getR ok kX5_dimensionOf 19 rfl lk_RX5_24_0 h (fun t71 h => ?_)
    refine Wx.getI ok kX5_dimensionOf 20 rfl lk_RX5_34_0 h (fun t74 h => ?_)
    refine Wx.run ok kX5_dimensionOf 21 1 (lv' := [(0, .inr (.inr (some v0))), (1, .inl v1)]) (st' := [.inl (t67 + t74)]) (pc' := 78) rfl ?_
    exact Wx.ireturn ok kX5_dimensionOf 22 rfl hres h (by decide)
  refine gIte h (fun hx h => ?_) (fun hx4 h => ?_)
  · refine Wx.swIn ok kX5_dimensionOf 1 rfl (tgt := 79) (by rw [hx]; decide) (by rw [hx]; decide) (by rw [hx]; rfl) (by decide) ?_
    refine Wx.run ok kX5_dimensionOf 23 1 (lv' := [(0, .inr (.inr (some v0))), (1, .inl v1)]) (st' := [.inr (.inr (some v0))]) (pc' := 80) rfl ?_
    refine Wx.getR ok kX5_dimensionOf 24 rfl lk_RX5_20_0 h (fun t80 h => ?_)
    refine Wx.getI ok kX5_dimensionOf 25 rfl lk_RX5_34_0 h (fun t83 h => ?_)
    exact Wx.ireturn ok kX5_dimensionOf 26 rfl hres h (by decide)
  refine gIte h (fun hx h => ?_) (fun hx5 h => ?_)
  · refine Wx.swIn ok kX5_dimensionOf 1 rfl (tgt := 87) (by rw [hx]; decide) (by rw [hx]; decide) (by rw [hx]; rfl) (by decide) ?_
    refine Wx.run ok kX5_dimensionOf 27 1 (lv' := [(0, .inr (.inr (some v0))), (1, .inl v1)]) (st' := [.inr (.inr (some v0))]) (pc' := 88) rfl ?_
    refine Wx.getR ok kX5_dimensionOf 28 rfl lk_RX5_24_0 h (fun t88 h => ?_)
    refine Wx.getI ok kX5_dimensionOf 29 rfl lk_RX5_34_0 h (fun t91 h => ?_)
    exact Wx.ireturn ok kX5_dimensionOf 30 rfl hres h (by decide)
  refine Wx.swOut ok kX5_dimensionOf 1 rfl (tgt := 95) (gSw v1 0 5 (by decide) (by decide) (fun j hj => match j, hj with
    | 0, _ => hx0
    | 1, _ => hx1
    | 2, _ => hx2
    | 3, _ => hx3
    | 4, _ => hx4
    | 5, _ => hx5
    | j + 6, hj => absurd hj (by omega))) (by decide) ?_
  refine Wx.run ok kX5_dimensionOf 31 1 (lv' := [(0, .inr (.inr (some v0))), (1, .inl v1)]) (st' := [.inr (.inr (some v0))]) (pc' := 96) rfl ?_
  refine Wx.getI ok kX5_dimensionOf 32 rfl lk_RX5_31_0 h (fun t96 h => ?_)
  refine Wx.run ok kX5_dimensionOf 33 1 (lv' := [(0, .inr (.inr (some v0))), (1, .inl v1)]) (st' := [.inr (.inr (some v0)), .inl t96]) (pc' := 100) rfl ?_
  refine Wx.getR ok kX5_dimensionOf 34 rfl lk_RX5_20_0 h (fun t100 h => ?_)
  refine Wx.getI ok kX5_dimensionOf 35 rfl lk_RX5_34_0 h (fun t103 h => ?_)
  refine Wx.run ok kX5_dimensionOf 36 2 (lv' := [(0, .inr (.inr (some v0))), (1, .inl v1)]) (st' := [.inr (.inr (some v0)), .inl (t96 - t103)]) (pc' := 108) rfl ?_
  refine Wx.getI ok kX5_dimensionOf 38 rfl lk_RX5_37_0 h (fun t108 h => ?_)
  refine Wx.run ok kX5_dimensionOf 39 1 (lv' := [(0, .inr (.inr (some v0))), (1, .inl v1)]) (st' := [.inl ((t96 - t103) - t108)]) (pc' := 112) rfl ?_
  exact Wx.ireturn ok kX5_dimensionOf 40 rfl hres h (by decide)
set_option maxRecDepth 100000 in
set_option maxHeartbeats 4000000 in
theorem aX6_actionAt_b21 {X : gX} (ok : gOk X cX6_actionAt RX6 2 (some (.object "GroupTowers$Action")) rmX6_actionAt) {res : Option Nat × gW} (hres : gRs X (some (va_rf res.1)) res.2) {F : Nat} : ∀  (w : gW), mX6_actionAt_b21 F w = some res → Wx X w 0 0 21 [] [] := by
  intro w h
  unfold mX6_actionAt_b21 at h
  refine Wx.run ok kX6_actionAt 11 1 (lv' := []) (st' := [.inr (.inr none)]) (pc' := 22) rfl ?_
  exact Wx.areturn ok kX6_actionAt 12 rfl hres h (by decide)
set_option maxRecDepth 100000 in
set_option maxHeartbeats 4000000 in
theorem aX6_actionAt (l : Launch) (G : gG) {F : Nat} {v0 : Nat} {v1 : Int32} {w : gW} {res : Option Nat × gW} (h : mX6_actionAt F v0 v1 w = some res) : gM l yX6_actionAt cX6_actionAt 2 (some (.object "GroupTowers$Action")) rmX6_actionAt G w (gTs [.inr (.inr (some v0)), .inl v1]) (some (va_rf res.1)) res.2 := by
  refine gM_of (y := yX6_actionAt) (by decide +kernel) (Nat.le_of_ble_eq_true rfl) ?_
  intro X ok hl hG hres hnm
  subst hl; subst hG
  unfold mX6_actionAt at h
  show Wx X w 0 0 0 [(0, .inr (.inr (some v0))), (1, .inl v1)] []
  refine Wx.run ok kX6_actionAt 0 1 (lv' := [(0, .inr (.inr (some v0))), (1, .inl v1)]) (st' := [.inl v1]) (pc' := 1) rfl ?_
  refine Wx.if_lt ok kX6_actionAt 1 (tgt := 21) rfl (by decide) h (fun hc1 h => ?_) (fun hc1 h => ?_)
  · refine Wx.sub [] rfl ?_
    exact aX6_actionAt_b21 ok hres (F := F)  _ h
  · refine Wx.run ok kX6_actionAt 2 2 (lv' := [(0, .inr (.inr (some v0))), (1, .inl v1)]) (st' := [.inr (.inr (some v0)), .inl v1]) (pc' := 6) rfl ?_
    refine Wx.getI ok kX6_actionAt 4 rfl lk_RX6_90_0 h (fun t6 h => ?_)
    refine Wx.icmp_ge ok kX6_actionAt 5 (tgt := 21) rfl (by decide) h (fun hc9 h => ?_) (fun hc9 h => ?_)
    · refine Wx.sub [] rfl ?_
      exact aX6_actionAt_b21 ok hres (F := F)  _ h
    · refine Wx.run ok kX6_actionAt 6 1 (lv' := [(0, .inr (.inr (some v0))), (1, .inl v1)]) (st' := [.inr (.inr (some v0))]) (pc' := 13) rfl ?_
      refine Wx.getR ok kX6_actionAt 7 rfl lk_RX6_17_0 h (fun t13 h => ?_)
      refine Wx.run ok kX6_actionAt 8 1 (lv' := [(0, .inr (.inr (some v0))), (1, .inl v1)]) (st' := [.inl v1, .inr (.inr t13)]) (pc' := 17) rfl ?_
      refine Wx.aald ok kX6_actionAt 9 rfl (ci := 0) (by decide) h (fun t17 h => ?_)
      refine Wx.jump ok kX6_actionAt 10 (tgt := 22) rfl (by decide) ?_
      exact Wx.areturn ok kX6_actionAt 12 rfl hres h (by decide)
set_option maxRecDepth 100000 in
set_option maxHeartbeats 4000000 in
theorem aX6_count (l : Launch) (G : gG) {F : Nat} {v0 : Nat} {v1 : Int32} {w : gW} {res : Int32 × gW} (h : mX6_count F v0 v1 w = some res) : gM l yX6_count cX6_count 2 (some .int) rmX6_count G w (gTs [.inr (.inr (some v0)), .inl v1]) (some (.int res.1)) res.2 := by
  refine gM_of (y := yX6_count) (by decide +kernel) (Nat.le_of_ble_eq_true rfl) ?_
  intro X ok hl hG hres hnm
  subst hl; subst hG
  unfold mX6_count at h
  show Wx X w 0 0 0 [(0, .inr (.inr (some v0))), (1, .inl v1)] []
  refine Wx.run ok kX6_count 0 1 (lv' := [(0, .inr (.inr (some v0))), (1, .inl v1)]) (st' := [.inl v1]) (pc' := 1) rfl ?_
  refine gIte h (fun hx h => ?_) (fun hx0 h => ?_)
  · refine Wx.swIn ok kX6_count 1 rfl (tgt := 28) (by rw [hx]; decide) (by rw [hx]; decide) (by rw [hx]; rfl) (by decide) ?_
    refine Wx.run ok kX6_count 2 1 (lv' := [(0, .inr (.inr (some v0))), (1, .inl v1)]) (st' := [.inr (.inr (some v0))]) (pc' := 29) rfl ?_
    refine Wx.getI ok kX6_count 3 rfl lk_RX6_87_0 h (fun t29 h => ?_)
    exact Wx.ireturn ok kX6_count 4 rfl hres h (by decide)
  refine gIte h (fun hx h => ?_) (fun hx1 h => ?_)
  · refine Wx.swIn ok kX6_count 1 rfl (tgt := 33) (by rw [hx]; decide) (by rw [hx]; decide) (by rw [hx]; rfl) (by decide) ?_
    refine Wx.run ok kX6_count 5 1 (lv' := [(0, .inr (.inr (some v0))), (1, .inl v1)]) (st' := [.inr (.inr (some v0))]) (pc' := 34) rfl ?_
    refine Wx.getI ok kX6_count 6 rfl lk_RX6_90_0 h (fun t34 h => ?_)
    exact Wx.ireturn ok kX6_count 7 rfl hres h (by decide)
  refine gIte h (fun hx h => ?_) (fun hx2 h => ?_)
  · refine Wx.swIn ok kX6_count 1 rfl (tgt := 38) (by rw [hx]; decide) (by rw [hx]; decide) (by rw [hx]; rfl) (by decide) ?_
    refine Wx.run ok kX6_count 8 1 (lv' := [(0, .inr (.inr (some v0))), (1, .inl v1)]) (st' := [.inr (.inr (some v0))]) (pc' := 39) rfl ?_
    refine Wx.getR ok kX6_count 9 rfl lk_RX6_23_0 h (fun t39 h => ?_)
    refine Wx.run ok kX6_count 10 1 (lv' := [(0, .inr (.inr (some v0))), (1, .inl v1)]) (st' := [.inl (0 : Int32), .inr (.inr t39)]) (pc' := 43) rfl ?_
    refine Wx.aald ok kX6_count 11 rfl (ci := 4) (by decide) h (fun t43 h => ?_)
    refine Wx.getI ok kX6_count 12 rfl lk_RX6_70_0 h (fun t44 h => ?_)
    refine Wx.run ok kX6_count 13 1 (lv' := [(0, .inr (.inr (some v0))), (1, .inl v1)]) (st' := [.inl (-1 : Int32), .inl t44]) (pc' := 48) rfl ?_
    refine Wx.icmp_ne ok kX6_count 14 (tgt := 56) rfl (by decide) h (fun hc48 h => ?_) (fun hc48 h => ?_)
    · refine Wx.run ok kX6_count 15 1 (lv' := [(0, .inr (.inr (some v0))), (1, .inl v1)]) (st' := [.inl (-4 : Int32)]) (pc' := 53) rfl ?_
      refine Wx.jump ok kX6_count 16 (tgt := 65) rfl (by decide) ?_
      exact Wx.ireturn ok kX6_count 22 rfl hres h (by decide)
    · refine Wx.run ok kX6_count 17 1 (lv' := [(0, .inr (.inr (some v0))), (1, .inl v1)]) (st' := [.inr (.inr (some v0))]) (pc' := 57) rfl ?_
      refine Wx.getR ok kX6_count 18 rfl lk_RX6_23_0 h (fun t57 h => ?_)
      refine Wx.run ok kX6_count 19 1 (lv' := [(0, .inr (.inr (some v0))), (1, .inl v1)]) (st' := [.inl (0 : Int32), .inr (.inr t57)]) (pc' := 61) rfl ?_
      refine Wx.aald ok kX6_count 20 rfl (ci := 4) (by decide) h (fun t61 h => ?_)
      refine Wx.getI ok kX6_count 21 rfl lk_RX6_73_0 h (fun t62 h => ?_)
      exact Wx.ireturn ok kX6_count 22 rfl hres h (by decide)
  refine Wx.swOut ok kX6_count 1 rfl (tgt := 66) (gSw v1 0 2 (by decide) (by decide) (fun j hj => match j, hj with
    | 0, _ => hx0
    | 1, _ => hx1
    | 2, _ => hx2
    | j + 3, hj => absurd hj (by omega))) (by decide) ?_
  refine Wx.run ok kX6_count 23 1 (lv' := [(0, .inr (.inr (some v0))), (1, .inl v1)]) (st' := [.inl (-1 : Int32)]) (pc' := 67) rfl ?_
  exact Wx.ireturn ok kX6_count 24 rfl hres h (by decide)
set_option maxRecDepth 100000 in
set_option maxHeartbeats 4000000 in
theorem aX6_drop_h24 {X : gX} (ok : gOk X cX6_drop RX6 3 (some .int) rmX6_drop) {res : Int32 × gW} (hres : gRs X (some (.int res.1)) res.2) {F : Nat} (r : Nat → (Option Nat) → Int32 → gW → Option (Int32 × gW)) (k54 : Nat → gW → Option (Int32 × gW)) (hr : ∀ (v0 : Nat) (v1 : Option Nat) (v2 : Int32) (w : gW), r v0 v1 v2 w = some res → Wx X w 0 0 24 [(0, .inr (.inr (some v0))), (1, .inr (.inr v1)), (2, .inl v2)] []) (hk54 : ∀ (v0 : Nat) (w : gW), k54 v0 w = some res → Wx X w 0 0 54 [(0, .inr (.inr (some v0)))] []) : ∀ (v0 : Nat) (v1 : Option Nat) (v2 : Int32) (w : gW), mX6_drop_h24 F r k54 v0 v1 v2 w = some res → Wx X w 0 0 24 [(0, .inr (.inr (some v0))), (1, .inr (.inr v1)), (2, .inl v2)] [] := by
  intro v0 v1 v2 w h
  unfold mX6_drop_h24 at h
  refine Wx.run ok kX6_drop 15 2 (lv' := [(0, .inr (.inr (some v0))), (1, .inr (.inr v1)), (2, .inl v2)]) (st' := [.inr (.inr (some v0)), .inl v2]) (pc' := 26) rfl ?_
  refine Wx.getI ok kX6_drop 17 rfl lk_RX6_90_0 h (fun t26 h => ?_)
  refine Wx.icmp_ge ok kX6_drop 18 (tgt := 54) rfl (by decide) h (fun hc29 h => ?_) (fun hc29 h => ?_)
  · refine Wx.sub [0] rfl ?_
    exact hk54 _ _ h
  · refine Wx.run ok kX6_drop 19 1 (lv' := [(0, .inr (.inr (some v0))), (1, .inr (.inr v1)), (2, .inl v2)]) (st' := [.inr (.inr (some v0))]) (pc' := 33) rfl ?_
    refine Wx.getR ok kX6_drop 20 rfl lk_RX6_17_0 h (fun t33 h => ?_)
    refine Wx.run ok kX6_drop 21 1 (lv' := [(0, .inr (.inr (some v0))), (1, .inr (.inr v1)), (2, .inl v2)]) (st' := [.inl v2, .inr (.inr t33)]) (pc' := 37) rfl ?_
    refine Wx.aald ok kX6_drop 22 rfl (ci := 0) (by decide) h (fun t37 h => ?_)
    refine Wx.getR ok kX6_drop 23 rfl lk_RX6_93_0 h (fun t38 h => ?_)
    refine Wx.run ok kX6_drop 24 1 (lv' := [(0, .inr (.inr (some v0))), (1, .inr (.inr v1)), (2, .inl v2)]) (st' := [.inr (.inr v1), .inr (.inr t38)]) (pc' := 42) rfl ?_
    refine Wx.acmp_ne ok kX6_drop 25 (tgt := 48) rfl (by decide) h (fun hc42 h => ?_) (fun hc42 h => ?_)
    · refine Wx.run ok kX6_drop 26 1 (lv' := [(0, .inr (.inr (some v0))), (1, .inr (.inr v1)), (2, .inl v2)]) (st' := [.inl (-2 : Int32)]) (pc' := 47) rfl ?_
      exact Wx.ireturn ok kX6_drop 27 rfl hres h (by decide)
    · refine Wx.run ok kX6_drop 28 1 (lv' := [(2, .inl (v2 + (1 : Int32))), (0, .inr (.inr (some v0))), (1, .inr (.inr v1))]) (st' := []) (pc' := 51) rfl ?_
      refine Wx.jump ok kX6_drop 29 (tgt := 24) rfl (by decide) ?_
      refine Wx.sub [1, 2, 0] rfl ?_
      exact hr _ _ _ _ h
set_option maxRecDepth 100000 in
set_option maxHeartbeats 4000000 in
theorem aX6_drop_l24 {X : gX} (ok : gOk X cX6_drop RX6 3 (some .int) rmX6_drop) {res : Int32 × gW} (hres : gRs X (some (.int res.1)) res.2) {F : Nat} (k54 : Nat → gW → Option (Int32 × gW)) (hk54 : ∀ (v0 : Nat) (w : gW), k54 v0 w = some res → Wx X w 0 0 54 [(0, .inr (.inr (some v0)))] []) : ∀ (n : Nat) (v0 : Nat) (v1 : Option Nat) (v2 : Int32) (w : gW), mX6_drop_l24 F k54 n v0 v1 v2 w = some res → Wx X w 0 0 24 [(0, .inr (.inr (some v0))), (1, .inr (.inr v1)), (2, .inl v2)] [] := by
  intro n
  induction n with
  | zero => intro v0 v1 v2 w h; cases (show (none : Option (Int32 × gW)) = some res from h)
  | succ n ih =>
    intro v0 v1 v2 w h
    exact aX6_drop_h24 ok hres (F := F) (mX6_drop_l24 F k54 n) k54 ih hk54 v0 v1 v2 w h
set_option maxRecDepth 100000 in
set_option maxHeartbeats 4000000 in
theorem aX6_drop (l : Launch) (G : gG) {F : Nat} {v0 : Nat} {w : gW} {res : Int32 × gW} (h : mX6_drop F v0 w = some res) : gM l yX6_drop cX6_drop 3 (some .int) rmX6_drop G w (gTs [.inr (.inr (some v0))]) (some (.int res.1)) res.2 := by
  refine gM_of (y := yX6_drop) (by decide +kernel) (Nat.le_of_ble_eq_true rfl) ?_
  intro X ok hl hG hres hnm
  subst hl; subst hG
  unfold mX6_drop at h
  show Wx X w 0 0 0 [(0, .inr (.inr (some v0)))] []
  refine Wx.run ok kX6_drop 0 1 (lv' := [(0, .inr (.inr (some v0)))]) (st' := [.inr (.inr (some v0))]) (pc' := 1) rfl ?_
  refine Wx.getI ok kX6_drop 1 rfl lk_RX6_87_0 h (fun t1 h => ?_)
  refine Wx.if_ne ok kX6_drop 2 (tgt := 10) rfl (by decide) h (fun hc4 h => ?_) (fun hc4 h => ?_)
  · refine Wx.run ok kX6_drop 3 1 (lv' := [(0, .inr (.inr (some v0)))]) (st' := [.inl (-4 : Int32)]) (pc' := 9) rfl ?_
    exact Wx.ireturn ok kX6_drop 4 rfl hres h (by decide)
  · refine Wx.run ok kX6_drop 5 1 (lv' := [(0, .inr (.inr (some v0)))]) (st' := [.inr (.inr (some v0))]) (pc' := 11) rfl ?_
    refine Wx.getR ok kX6_drop 6 rfl lk_RX6_11_0 h (fun t11 h => ?_)
    refine Wx.run ok kX6_drop 7 1 (lv' := [(0, .inr (.inr (some v0)))]) (st' := [.inr (.inr (some v0)), .inr (.inr t11)]) (pc' := 15) rfl ?_
    refine Wx.getI ok kX6_drop 8 rfl lk_RX6_87_0 h (fun t15 h => ?_)
    refine Wx.run ok kX6_drop 9 2 (lv' := [(0, .inr (.inr (some v0)))]) (st' := [.inl (t15 - (1 : Int32)), .inr (.inr t11)]) (pc' := 20) rfl ?_
    refine Wx.aald ok kX6_drop 11 rfl (ci := 2) (by decide) h (fun t20 h => ?_)
    refine Wx.run ok kX6_drop 12 3 (lv' := [(2, .inl (0 : Int32)), (1, .inr (.inr t20)), (0, .inr (.inr (some v0)))]) (st' := []) (pc' := 24) rfl ?_
    refine Wx.sub [2, 1, 0] rfl ?_
    refine aX6_drop_l24 ok hres (F := F) _ ?_ F _ _ _ _ h
    · intro v0 w h
      refine Wx.run ok kX6_drop 30 2 (lv' := [(0, .inr (.inr (some v0)))]) (st' := [.inr (.inr (some v0)), .inr (.inr (some v0))]) (pc' := 56) rfl ?_
      refine Wx.getI ok kX6_drop 32 rfl lk_RX6_87_0 h (fun t56 h => ?_)
      refine Wx.run ok kX6_drop 33 2 (lv' := [(0, .inr (.inr (some v0)))]) (st' := [.inl (t56 - (1 : Int32)), .inr (.inr (some v0))]) (pc' := 61) rfl ?_
      refine Wx.put ok kX6_drop 35 rfl lk_RX6_87_1 (gFit_i _) h (fun w61 h => ?_)
      refine Wx.run ok kX6_drop 36 1 (lv' := [(0, .inr (.inr (some v0)))]) (st' := [.inr (.inr (some v0))]) (pc' := 65) rfl ?_
      refine Wx.getI ok kX6_drop 37 rfl lk_RX6_87_0 h (fun t65 h => ?_)
      exact Wx.ireturn ok kX6_drop 38 rfl hres h (by decide)
set_option maxRecDepth 100000 in
set_option maxHeartbeats 4000000 in
theorem aX6_groupAt_b21 {X : gX} (ok : gOk X cX6_groupAt RX6 2 (some (.object "GroupTowers$Group")) rmX6_groupAt) {res : Option Nat × gW} (hres : gRs X (some (va_rf res.1)) res.2) {F : Nat} : ∀  (w : gW), mX6_groupAt_b21 F w = some res → Wx X w 0 0 21 [] [] := by
  intro w h
  unfold mX6_groupAt_b21 at h
  refine Wx.run ok kX6_groupAt 11 1 (lv' := []) (st' := [.inr (.inr none)]) (pc' := 22) rfl ?_
  exact Wx.areturn ok kX6_groupAt 12 rfl hres h (by decide)
set_option maxRecDepth 100000 in
set_option maxHeartbeats 4000000 in
theorem aX6_groupAt (l : Launch) (G : gG) {F : Nat} {v0 : Nat} {v1 : Int32} {w : gW} {res : Option Nat × gW} (h : mX6_groupAt F v0 v1 w = some res) : gM l yX6_groupAt cX6_groupAt 2 (some (.object "GroupTowers$Group")) rmX6_groupAt G w (gTs [.inr (.inr (some v0)), .inl v1]) (some (va_rf res.1)) res.2 := by
  refine gM_of (y := yX6_groupAt) (by decide +kernel) (Nat.le_of_ble_eq_true rfl) ?_
  intro X ok hl hG hres hnm
  subst hl; subst hG
  unfold mX6_groupAt at h
  show Wx X w 0 0 0 [(0, .inr (.inr (some v0))), (1, .inl v1)] []
  refine Wx.run ok kX6_groupAt 0 1 (lv' := [(0, .inr (.inr (some v0))), (1, .inl v1)]) (st' := [.inl v1]) (pc' := 1) rfl ?_
  refine Wx.if_lt ok kX6_groupAt 1 (tgt := 21) rfl (by decide) h (fun hc1 h => ?_) (fun hc1 h => ?_)
  · refine Wx.sub [] rfl ?_
    exact aX6_groupAt_b21 ok hres (F := F)  _ h
  · refine Wx.run ok kX6_groupAt 2 2 (lv' := [(0, .inr (.inr (some v0))), (1, .inl v1)]) (st' := [.inr (.inr (some v0)), .inl v1]) (pc' := 6) rfl ?_
    refine Wx.getI ok kX6_groupAt 4 rfl lk_RX6_87_0 h (fun t6 h => ?_)
    refine Wx.icmp_ge ok kX6_groupAt 5 (tgt := 21) rfl (by decide) h (fun hc9 h => ?_) (fun hc9 h => ?_)
    · refine Wx.sub [] rfl ?_
      exact aX6_groupAt_b21 ok hres (F := F)  _ h
    · refine Wx.run ok kX6_groupAt 6 1 (lv' := [(0, .inr (.inr (some v0))), (1, .inl v1)]) (st' := [.inr (.inr (some v0))]) (pc' := 13) rfl ?_
      refine Wx.getR ok kX6_groupAt 7 rfl lk_RX6_11_0 h (fun t13 h => ?_)
      refine Wx.run ok kX6_groupAt 8 1 (lv' := [(0, .inr (.inr (some v0))), (1, .inl v1)]) (st' := [.inl v1, .inr (.inr t13)]) (pc' := 17) rfl ?_
      refine Wx.aald ok kX6_groupAt 9 rfl (ci := 2) (by decide) h (fun t17 h => ?_)
      refine Wx.jump ok kX6_groupAt 10 (tgt := 22) rfl (by decide) ?_
      exact Wx.areturn ok kX6_groupAt 12 rfl hres h (by decide)
set_option maxRecDepth 100000 in
set_option maxHeartbeats 4000000 in
theorem aX6_isLane_b9 {X : gX} (ok : gOk X cX6_isLane RX6 1 (some .boolean) rmX6_isLane) {res : Int32 × gW} (hres : gRs X (some (.int res.1)) res.2) {F : Nat} : ∀  (w : gW), mX6_isLane_b9 F w = some res → Wx X w 0 0 9 [] [] := by
  intro w h
  unfold mX6_isLane_b9 at h
  refine Wx.run ok kX6_isLane 5 1 (lv' := []) (st' := [.inl (1 : Int32)]) (pc' := 10) rfl ?_
  refine Wx.jump ok kX6_isLane 6 (tgt := 14) rfl (by decide) ?_
  exact Wx.zreturn ok kX6_isLane 8 rfl gNz1 hres h (by decide)
set_option maxRecDepth 100000 in
set_option maxHeartbeats 4000000 in
theorem aX6_isLane (l : Launch) (G : gG) {F : Nat} {v0 : Int32} {w : gW} {res : Int32 × gW} (h : mX6_isLane F v0 w = some res) : gM l yX6_isLane cX6_isLane 1 (some .boolean) rmX6_isLane G w (gTs [.inl v0]) (some (.int res.1)) res.2 := by
  refine gM_of (y := yX6_isLane) (by decide +kernel) (Nat.le_of_ble_eq_true rfl) ?_
  intro X ok hl hG hres hnm
  subst hl; subst hG
  unfold mX6_isLane at h
  show Wx X w 0 0 0 [(0, .inl v0)] []
  refine Wx.run ok kX6_isLane 0 1 (lv' := [(0, .inl v0)]) (st' := [.inl v0]) (pc' := 1) rfl ?_
  refine Wx.if_eq ok kX6_isLane 1 (tgt := 9) rfl (by decide) h (fun hc1 h => ?_) (fun hc1 h => ?_)
  · refine Wx.sub [] rfl ?_
    exact aX6_isLane_b9 ok hres (F := F)  _ h
  · refine Wx.run ok kX6_isLane 2 2 (lv' := [(0, .inl v0)]) (st' := [.inl (1 : Int32), .inl v0]) (pc' := 6) rfl ?_
    refine Wx.icmp_ne ok kX6_isLane 4 (tgt := 13) rfl (by decide) h (fun hc6 h => ?_) (fun hc6 h => ?_)
    · refine Wx.sub [] rfl ?_
      exact aX6_isLane_b9 ok hres (F := F)  _ h
    · refine Wx.run ok kX6_isLane 7 1 (lv' := [(0, .inl v0)]) (st' := [.inl (0 : Int32)]) (pc' := 14) rfl ?_
      exact Wx.zreturn ok kX6_isLane 8 rfl gNz0 hres h (by decide)
set_option maxRecDepth 100000 in
set_option maxHeartbeats 4000000 in
theorem aX6_leave (l : Launch) (G : gG) {F : Nat} {v0 : Nat} {w : gW} {res : Int32 × gW} (h : mX6_leave F v0 w = some res) : gM l yX6_leave cX6_leave 1 (some .int) rmX6_leave G w (gTs [.inr (.inr (some v0))]) (some (.int res.1)) res.2 := by
  refine gM_of (y := yX6_leave) (by decide +kernel) (Nat.le_of_ble_eq_true rfl) ?_
  intro X ok hl hG hres hnm
  subst hl; subst hG
  unfold mX6_leave at h
  show Wx X w 0 0 0 [(0, .inr (.inr (some v0)))] []
  refine Wx.run ok kX6_leave 0 1 (lv' := [(0, .inr (.inr (some v0)))]) (st' := [.inr (.inr (some v0))]) (pc' := 1) rfl ?_
  refine Wx.getI ok kX6_leave 1 rfl lk_RX6_90_0 h (fun t1 h => ?_)
  refine Wx.if_ne ok kX6_leave 2 (tgt := 10) rfl (by decide) h (fun hc4 h => ?_) (fun hc4 h => ?_)
  · refine Wx.run ok kX6_leave 3 1 (lv' := [(0, .inr (.inr (some v0)))]) (st' := [.inl (-4 : Int32)]) (pc' := 9) rfl ?_
    exact Wx.ireturn ok kX6_leave 4 rfl hres h (by decide)
  · refine Wx.run ok kX6_leave 5 2 (lv' := [(0, .inr (.inr (some v0)))]) (st' := [.inr (.inr (some v0)), .inr (.inr (some v0))]) (pc' := 12) rfl ?_
    refine Wx.getI ok kX6_leave 7 rfl lk_RX6_90_0 h (fun t12 h => ?_)
    refine Wx.run ok kX6_leave 8 2 (lv' := [(0, .inr (.inr (some v0)))]) (st' := [.inl (t12 - (1 : Int32)), .inr (.inr (some v0))]) (pc' := 17) rfl ?_
    refine Wx.put ok kX6_leave 10 rfl lk_RX6_90_1 (gFit_i _) h (fun w17 h => ?_)
    refine Wx.run ok kX6_leave 11 1 (lv' := [(0, .inr (.inr (some v0)))]) (st' := [.inr (.inr (some v0))]) (pc' := 21) rfl ?_
    refine Wx.getI ok kX6_leave 12 rfl lk_RX6_90_0 h (fun t21 h => ?_)
    exact Wx.ireturn ok kX6_leave 13 rfl hres h (by decide)
set_option maxRecDepth 100000 in
set_option maxHeartbeats 4000000 in
theorem aX6_power_h4 {X : gX} (ok : gOk X cX6_power RX6 4 (some .int) rmX6_power) {res : Int32 × gW} (hres : gRs X (some (.int res.1)) res.2) {F : Nat} (r : Int32 → Int32 → Int32 → Int32 → gW → Option (Int32 × gW)) (hr : ∀ (v0 : Int32) (v1 : Int32) (v2 : Int32) (v3 : Int32) (w : gW), r v0 v1 v2 v3 w = some res → Wx X w 0 0 4 [(0, .inl v0), (1, .inl v1), (2, .inl v2), (3, .inl v3)] []) : ∀ (v0 : Int32) (v1 : Int32) (v2 : Int32) (v3 : Int32) (w : gW), mX6_power_h4 F r v0 v1 v2 v3 w = some res → Wx X w 0 0 4 [(0, .inl v0), (1, .inl v1), (2, .inl v2), (3, .inl v3)] [] := by
  intro v0 v1 v2 v3 w h
  unfold mX6_power_h4 at h
  refine Wx.run ok kX6_power 4 2 (lv' := [(0, .inl v0), (1, .inl v1), (2, .inl v2), (3, .inl v3)]) (st' := [.inl v1, .inl v3]) (pc' := 6) rfl ?_
  refine Wx.icmp_ge ok kX6_power 6 (tgt := 19) rfl (by decide) h (fun hc6 h => ?_) (fun hc6 h => ?_)
  · refine Wx.run ok kX6_power 13 1 (lv' := [(0, .inl v0), (1, .inl v1), (2, .inl v2), (3, .inl v3)]) (st' := [.inl v2]) (pc' := 20) rfl ?_
    exact Wx.ireturn ok kX6_power 14 rfl hres h (by decide)
  · refine Wx.run ok kX6_power 7 5 (lv' := [(3, .inl (v3 + (1 : Int32))), (2, .inl (v2 * v0)), (0, .inl v0), (1, .inl v1)]) (st' := []) (pc' := 16) rfl ?_
    refine Wx.jump ok kX6_power 12 (tgt := 4) rfl (by decide) ?_
    refine Wx.sub [2, 3, 1, 0] rfl ?_
    exact hr _ _ _ _ _ h
set_option maxRecDepth 100000 in
set_option maxHeartbeats 4000000 in
theorem aX6_power_l4 {X : gX} (ok : gOk X cX6_power RX6 4 (some .int) rmX6_power) {res : Int32 × gW} (hres : gRs X (some (.int res.1)) res.2) {F : Nat} : ∀ (n : Nat) (v0 : Int32) (v1 : Int32) (v2 : Int32) (v3 : Int32) (w : gW), mX6_power_l4 F n v0 v1 v2 v3 w = some res → Wx X w 0 0 4 [(0, .inl v0), (1, .inl v1), (2, .inl v2), (3, .inl v3)] [] := by
  intro n
  induction n with
  | zero => intro v0 v1 v2 v3 w h; cases (show (none : Option (Int32 × gW)) = some res from h)
  | succ n ih =>
    intro v0 v1 v2 v3 w h
    exact aX6_power_h4 ok hres (F := F) (mX6_power_l4 F n) ih v0 v1 v2 v3 w h
set_option maxRecDepth 100000 in
set_option maxHeartbeats 4000000 in
theorem aX6_power (l : Launch) (G : gG) {F : Nat} {v0 : Int32} {v1 : Int32} {w : gW} {res : Int32 × gW} (h : mX6_power F v0 v1 w = some res) : gM l yX6_power cX6_power 4 (some .int) rmX6_power G w (gTs [.inl v0, .inl v1]) (some (.int res.1)) res.2 := by
  refine gM_of (y := yX6_power) (by decide +kernel) (Nat.le_of_ble_eq_true rfl) ?_
  intro X ok hl hG hres hnm
  subst hl; subst hG
  unfold mX6_power at h
  show Wx X w 0 0 0 [(0, .inl v0), (1, .inl v1)] []
  refine Wx.run ok kX6_power 0 4 (lv' := [(3, .inl (0 : Int32)), (2, .inl (1 : Int32)), (0, .inl v0), (1, .inl v1)]) (st' := []) (pc' := 4) rfl ?_
  refine Wx.sub [2, 3, 1, 0] rfl ?_
  refine aX6_power_l4 ok hres (F := F) F _ _ _ _ _ h
set_option maxRecDepth 100000 in
set_option maxHeartbeats 4000000 in
theorem aX6_quotient (l : Launch) (G : gG) {F : Nat} {v0 : Int32} {v1 : Int32} {w : gW} {res : Int32 × gW} (h : mX6_quotient F v0 v1 w = some res) : gM l yX6_quotient cX6_quotient 2 (some .int) rmX6_quotient G w (gTs [.inl v0, .inl v1]) (some (.int res.1)) res.2 := by
  refine gM_of (y := yX6_quotient) (by decide +kernel) (Nat.le_of_ble_eq_true rfl) ?_
  intro X ok hl hG hres hnm
  subst hl; subst hG
  unfold mX6_quotient at h
  show Wx X w 0 0 0 [(0, .inl v0), (1, .inl v1)] []
  refine Wx.run ok kX6_quotient 0 1 (lv' := [(0, .inl v0), (1, .inl v1)]) (st' := [.inl v1]) (pc' := 1) rfl ?_
  refine Wx.if_le ok kX6_quotient 1 (tgt := 10) rfl (by decide) h (fun hc1 h => ?_) (fun hc1 h => ?_)
  · refine Wx.run ok kX6_quotient 6 1 (lv' := [(0, .inl v0), (1, .inl v1)]) (st' := [.inl (0 : Int32)]) (pc' := 11) rfl ?_
    exact Wx.ireturn ok kX6_quotient 7 rfl hres h (by decide)
  · refine Wx.run ok kX6_quotient 2 2 (lv' := [(0, .inl v0), (1, .inl v1)]) (st' := [.inl v1, .inl v0]) (pc' := 6) rfl ?_
    refine Wx.idiv ok kX6_quotient 4 rfl h (fun t6 h => ?_)
    refine Wx.jump ok kX6_quotient 5 (tgt := 11) rfl (by decide) ?_
    exact Wx.ireturn ok kX6_quotient 7 rfl hres h (by decide)
set_option maxRecDepth 100000 in
set_option maxHeartbeats 4000000 in
theorem aX6_refusalOf (l : Launch) (G : gG) {F : Nat} {v0 : Option Nat} {v1 : Int32} {w : gW} {res : Int32 × gW} (h : mX6_refusalOf F v0 v1 w = some res) : gM l yX6_refusalOf cX6_refusalOf 2 (some .int) rmX6_refusalOf G w (gTs [.inr (.inr v0), .inl v1]) (some (.int res.1)) res.2 := by
  refine gM_of (y := yX6_refusalOf) (by decide +kernel) (Nat.le_of_ble_eq_true rfl) ?_
  intro X ok hl hG hres hnm
  subst hl; subst hG
  unfold mX6_refusalOf at h
  show Wx X w 0 0 0 [(0, .inr (.inr v0)), (1, .inl v1)] []
  refine Wx.run ok kX6_refusalOf 0 1 (lv' := [(0, .inr (.inr v0)), (1, .inl v1)]) (st' := [.inl v1]) (pc' := 1) rfl ?_
  refine Wx.if_ge ok kX6_refusalOf 1 (tgt := 6) rfl (by decide) h (fun hc1 h => ?_) (fun hc1 h => ?_)
  · refine Wx.run ok kX6_refusalOf 4 1 (lv' := [(0, .inr (.inr v0)), (1, .inl v1)]) (st' := [.inr (.inr v0)]) (pc' := 7) rfl ?_
    refine Wx.getI ok kX6_refusalOf 5 rfl lk_RX6_172_0 h (fun t7 h => ?_)
    refine Wx.if_ne ok kX6_refusalOf 6 (tgt := 16) rfl (by decide) h (fun hc10 h => ?_) (fun hc10 h => ?_)
    · refine Wx.run ok kX6_refusalOf 7 1 (lv' := [(0, .inr (.inr v0)), (1, .inl v1)]) (st' := [.inl (-2 : Int32)]) (pc' := 15) rfl ?_
      exact Wx.ireturn ok kX6_refusalOf 8 rfl hres h (by decide)
    · refine Wx.run ok kX6_refusalOf 9 2 (lv' := [(0, .inr (.inr v0)), (1, .inl v1)]) (st' := [.inr (.inr v0), .inl v1]) (pc' := 18) rfl ?_
      refine Wx.getR ok kX6_refusalOf 11 rfl lk_RX6_176_0 h (fun t18 h => ?_)
      refine Wx.getI ok kX6_refusalOf 12 rfl lk_RX6_245_0 h (fun t21 h => ?_)
      refine Wx.icmp_ge ok kX6_refusalOf 13 (tgt := 31) rfl (by decide) h (fun hc24 h => ?_) (fun hc24 h => ?_)
      · refine Wx.run ok kX6_refusalOf 16 1 (lv' := [(0, .inr (.inr v0)), (1, .inl v1)]) (st' := [.inl (-1 : Int32)]) (pc' := 32) rfl ?_
        exact Wx.ireturn ok kX6_refusalOf 17 rfl hres h (by decide)
      · refine Wx.run ok kX6_refusalOf 14 1 (lv' := [(0, .inr (.inr v0)), (1, .inl v1)]) (st' := [.inl (0 : Int32)]) (pc' := 28) rfl ?_
        refine Wx.jump ok kX6_refusalOf 15 (tgt := 32) rfl (by decide) ?_
        exact Wx.ireturn ok kX6_refusalOf 17 rfl hres h (by decide)
  · refine Wx.run ok kX6_refusalOf 2 1 (lv' := [(0, .inr (.inr v0)), (1, .inl v1)]) (st' := [.inl (-1 : Int32)]) (pc' := 5) rfl ?_
    exact Wx.ireturn ok kX6_refusalOf 3 rfl hres h (by decide)
set_option maxRecDepth 100000 in
set_option maxHeartbeats 4000000 in
theorem aX6_sheetAt_b18 {X : gX} (ok : gOk X cX6_sheetAt RX6 2 (some (.object "GroupTowers$Sheet")) rmX6_sheetAt) {res : Option Nat × gW} (hres : gRs X (some (va_rf res.1)) res.2) {F : Nat} : ∀  (w : gW), mX6_sheetAt_b18 F w = some res → Wx X w 0 0 18 [] [] := by
  intro w h
  unfold mX6_sheetAt_b18 at h
  refine Wx.run ok kX6_sheetAt 10 1 (lv' := []) (st' := [.inr (.inr none)]) (pc' := 19) rfl ?_
  exact Wx.areturn ok kX6_sheetAt 11 rfl hres h (by decide)
set_option maxRecDepth 100000 in
set_option maxHeartbeats 4000000 in
theorem aX6_sheetAt (l : Launch) (G : gG) {F : Nat} {v0 : Nat} {v1 : Int32} {w : gW} {res : Option Nat × gW} (h : mX6_sheetAt F v0 v1 w = some res) : gM l yX6_sheetAt cX6_sheetAt 2 (some (.object "GroupTowers$Sheet")) rmX6_sheetAt G w (gTs [.inr (.inr (some v0)), .inl v1]) (some (va_rf res.1)) res.2 := by
  refine gM_of (y := yX6_sheetAt) (by decide +kernel) (Nat.le_of_ble_eq_true rfl) ?_
  intro X ok hl hG hres hnm
  subst hl; subst hG
  unfold mX6_sheetAt at h
  show Wx X w 0 0 0 [(0, .inr (.inr (some v0))), (1, .inl v1)] []
  refine Wx.run ok kX6_sheetAt 0 1 (lv' := [(0, .inr (.inr (some v0))), (1, .inl v1)]) (st' := [.inl v1]) (pc' := 1) rfl ?_
  refine Wx.if_lt ok kX6_sheetAt 1 (tgt := 18) rfl (by decide) h (fun hc1 h => ?_) (fun hc1 h => ?_)
  · refine Wx.sub [] rfl ?_
    exact aX6_sheetAt_b18 ok hres (F := F)  _ h
  · refine Wx.run ok kX6_sheetAt 2 2 (lv' := [(0, .inr (.inr (some v0))), (1, .inl v1)]) (st' := [.inl (4 : Int32), .inl v1]) (pc' := 6) rfl ?_
    refine Wx.icmp_ge ok kX6_sheetAt 4 (tgt := 18) rfl (by decide) h (fun hc6 h => ?_) (fun hc6 h => ?_)
    · refine Wx.sub [] rfl ?_
      exact aX6_sheetAt_b18 ok hres (F := F)  _ h
    · refine Wx.run ok kX6_sheetAt 5 1 (lv' := [(0, .inr (.inr (some v0))), (1, .inl v1)]) (st' := [.inr (.inr (some v0))]) (pc' := 10) rfl ?_
      refine Wx.getR ok kX6_sheetAt 6 rfl lk_RX6_23_0 h (fun t10 h => ?_)
      refine Wx.run ok kX6_sheetAt 7 1 (lv' := [(0, .inr (.inr (some v0))), (1, .inl v1)]) (st' := [.inl v1, .inr (.inr t10)]) (pc' := 14) rfl ?_
      refine Wx.aald ok kX6_sheetAt 8 rfl (ci := 4) (by decide) h (fun t14 h => ?_)
      refine Wx.jump ok kX6_sheetAt 9 (tgt := 19) rfl (by decide) ?_
      exact Wx.areturn ok kX6_sheetAt 11 rfl hres h (by decide)
set_option maxRecDepth 100000 in
set_option maxHeartbeats 4000000 in
theorem aX7_addTo (l : Launch) (G : gG) {F : Nat} {v0 : Nat} {v1 : Int32} {v2 : Int32} {w : gW} {res : gW} (h : mX7_addTo F v0 v1 v2 w = some res) : gM l yX7_addTo cX7_addTo 3 none rmX7_addTo G w (gTs [.inr (.inr (some v0)), .inl v1, .inl v2]) none res := by
  refine gM_of (y := yX7_addTo) (by decide +kernel) (Nat.le_of_ble_eq_true rfl) ?_
  intro X ok hl hG hres hnm
  subst hl; subst hG
  unfold mX7_addTo at h
  show Wx X w 0 0 0 [(0, .inr (.inr (some v0))), (1, .inl v1), (2, .inl v2)] []
  refine Wx.run ok kX7_addTo 0 1 (lv' := [(0, .inr (.inr (some v0))), (1, .inl v1), (2, .inl v2)]) (st' := [.inr (.inr (some v0))]) (pc' := 1) rfl ?_
  refine Wx.getR ok kX7_addTo 1 rfl lk_RX7_67_0 h (fun t1 h => ?_)
  refine Wx.run ok kX7_addTo 2 2 (lv' := [(0, .inr (.inr (some v0))), (1, .inl v1), (2, .inl v2)]) (st' := [.inr (.inr (some v0)), .inl v1, .inr (.inr t1)]) (pc' := 6) rfl ?_
  refine Wx.getR ok kX7_addTo 4 rfl lk_RX7_67_0 h (fun t6 h => ?_)
  refine Wx.run ok kX7_addTo 5 1 (lv' := [(0, .inr (.inr (some v0))), (1, .inl v1), (2, .inl v2)]) (st' := [.inl v1, .inr (.inr t6), .inl v1, .inr (.inr t1)]) (pc' := 10) rfl ?_
  refine Wx.iald ok kX7_addTo 6 rfl h (fun t10 h => ?_)
  refine Wx.run ok kX7_addTo 7 3 (lv' := [(0, .inr (.inr (some v0))), (1, .inl v1), (2, .inl v2)]) (st' := [.inr (.inr (some v0)), .inl (t10 + v2), .inl v1, .inr (.inr t1)]) (pc' := 14) rfl ?_
  refine Wx.getI ok kX7_addTo 10 rfl lk_RX7_196_0 h (fun t14 h => ?_)
  refine Wx.irem ok kX7_addTo 11 rfl h (fun t17 h => ?_)
  refine Wx.run ok kX7_addTo 12 1 (lv' := [(0, .inr (.inr (some v0))), (1, .inl v1), (2, .inl v2)]) (st' := [.inr (.inr (some v0)), .inl t17, .inl v1, .inr (.inr t1)]) (pc' := 19) rfl ?_
  refine Wx.getI ok kX7_addTo 13 rfl lk_RX7_196_0 h (fun t19 h => ?_)
  refine Wx.run ok kX7_addTo 14 2 (lv' := [(0, .inr (.inr (some v0))), (1, .inl v1), (2, .inl v2)]) (st' := [.inr (.inr (some v0)), .inl (t17 + t19), .inl v1, .inr (.inr t1)]) (pc' := 24) rfl ?_
  refine Wx.getI ok kX7_addTo 16 rfl lk_RX7_196_0 h (fun t24 h => ?_)
  refine Wx.irem ok kX7_addTo 17 rfl h (fun t27 h => ?_)
  refine Wx.iast ok kX7_addTo 18 rfl h (fun w28 h => ?_)
  exact Wx.vreturn ok kX7_addTo 19 rfl hres h (by decide)
set_option maxRecDepth 100000 in
set_option maxHeartbeats 4000000 in
theorem aX7_added (l : Launch) (G : gG) {F : Nat} {v0 : Nat} {v1 : Int32} {w : gW} {res : Int32 × gW} (h : mX7_added F v0 v1 w = some res) : gM l yX7_added cX7_added 2 (some .int) rmX7_added G w (gTs [.inr (.inr (some v0)), .inl v1]) (some (.int res.1)) res.2 := by
  refine gM_of (y := yX7_added) (by decide +kernel) (Nat.le_of_ble_eq_true rfl) ?_
  intro X ok hl hG hres hnm
  subst hl; subst hG
  unfold mX7_added at h
  show Wx X w 0 0 0 [(0, .inr (.inr (some v0))), (1, .inl v1)] []
  refine Wx.run ok kX7_added 0 1 (lv' := [(0, .inr (.inr (some v0))), (1, .inl v1)]) (st' := [.inr (.inr (some v0))]) (pc' := 1) rfl ?_
  refine Wx.getR ok kX7_added 1 rfl lk_RX7_7_0 h (fun t1 h => ?_)
  refine Wx.run ok kX7_added 2 1 (lv' := [(0, .inr (.inr (some v0))), (1, .inl v1)]) (st' := [.inr (.inr (some v0)), .inr (.inr t1)]) (pc' := 5) rfl ?_
  refine Wx.getI ok kX7_added 3 rfl lk_RX7_95_0 h (fun t5 h => ?_)
  refine Wx.run ok kX7_added 4 1 (lv' := [(0, .inr (.inr (some v0))), (1, .inl v1)]) (st' := [.inl v1, .inl t5, .inr (.inr t1)]) (pc' := 9) rfl ?_
  refine Wx.iast ok kX7_added 5 rfl h (fun w9 h => ?_)
  refine Wx.run ok kX7_added 6 1 (lv' := [(0, .inr (.inr (some v0))), (1, .inl v1)]) (st' := [.inr (.inr (some v0))]) (pc' := 11) rfl ?_
  refine Wx.getR ok kX7_added 7 rfl lk_RX7_17_0 h (fun t11 h => ?_)
  refine Wx.run ok kX7_added 8 1 (lv' := [(0, .inr (.inr (some v0))), (1, .inl v1)]) (st' := [.inr (.inr (some v0)), .inr (.inr t11)]) (pc' := 15) rfl ?_
  refine Wx.getI ok kX7_added 9 rfl lk_RX7_95_0 h (fun t15 h => ?_)
  refine Wx.run ok kX7_added 10 1 (lv' := [(0, .inr (.inr (some v0))), (1, .inl v1)]) (st' := [.inl (-4 : Int32), .inl t15, .inr (.inr t11)]) (pc' := 20) rfl ?_
  refine Wx.iast ok kX7_added 11 rfl h (fun w20 h => ?_)
  refine Wx.run ok kX7_added 12 2 (lv' := [(0, .inr (.inr (some v0))), (1, .inl v1)]) (st' := [.inr (.inr (some v0)), .inr (.inr (some v0))]) (pc' := 23) rfl ?_
  refine Wx.getI ok kX7_added 14 rfl lk_RX7_95_0 h (fun t23 h => ?_)
  refine Wx.run ok kX7_added 15 2 (lv' := [(0, .inr (.inr (some v0))), (1, .inl v1)]) (st' := [.inl (t23 + (1 : Int32)), .inr (.inr (some v0))]) (pc' := 28) rfl ?_
  refine Wx.put ok kX7_added 17 rfl lk_RX7_95_1 (gFit_i _) h (fun w28 h => ?_)
  refine Wx.run ok kX7_added 18 1 (lv' := [(0, .inr (.inr (some v0))), (1, .inl v1)]) (st' := [.inr (.inr (some v0))]) (pc' := 32) rfl ?_
  refine Wx.getI ok kX7_added 19 rfl lk_RX7_95_0 h (fun t32 h => ?_)
  refine Wx.run ok kX7_added 20 2 (lv' := [(0, .inr (.inr (some v0))), (1, .inl v1)]) (st' := [.inl (t32 - (1 : Int32))]) (pc' := 37) rfl ?_
  exact Wx.ireturn ok kX7_added 22 rfl hres h (by decide)
set_option maxRecDepth 100000 in
set_option maxHeartbeats 4000000 in
theorem aX7_clearLine_h2 {X : gX} (ok : gOk X cX7_clearLine RX7 2 none rmX7_clearLine) {res : gW} (hres : gRs X none res) {F : Nat} (r : Nat → Int32 → gW → Option (gW)) (hr : ∀ (v0 : Nat) (v1 : Int32) (w : gW), r v0 v1 w = some res → Wx X w 0 0 2 [(0, .inr (.inr (some v0))), (1, .inl v1)] []) : ∀ (v0 : Nat) (v1 : Int32) (w : gW), mX7_clearLine_h2 F r v0 v1 w = some res → Wx X w 0 0 2 [(0, .inr (.inr (some v0))), (1, .inl v1)] [] := by
  intro v0 v1 w h
  unfold mX7_clearLine_h2 at h
  refine Wx.run ok kX7_clearLine 2 2 (lv' := [(0, .inr (.inr (some v0))), (1, .inl v1)]) (st' := [.inl (98 : Int32), .inl v1]) (pc' := 5) rfl ?_
  refine Wx.icmp_ge ok kX7_clearLine 4 (tgt := 21) rfl (by decide) h (fun hc5 h => ?_) (fun hc5 h => ?_)
  · exact Wx.vreturn ok kX7_clearLine 12 rfl hres h (by decide)
  · refine Wx.run ok kX7_clearLine 5 1 (lv' := [(0, .inr (.inr (some v0))), (1, .inl v1)]) (st' := [.inr (.inr (some v0))]) (pc' := 9) rfl ?_
    refine Wx.getR ok kX7_clearLine 6 rfl lk_RX7_67_0 h (fun t9 h => ?_)
    refine Wx.run ok kX7_clearLine 7 2 (lv' := [(0, .inr (.inr (some v0))), (1, .inl v1)]) (st' := [.inl (0 : Int32), .inl v1, .inr (.inr t9)]) (pc' := 14) rfl ?_
    refine Wx.iast ok kX7_clearLine 9 rfl h (fun w14 h => ?_)
    refine Wx.run ok kX7_clearLine 10 1 (lv' := [(1, .inl (v1 + (1 : Int32))), (0, .inr (.inr (some v0)))]) (st' := []) (pc' := 18) rfl ?_
    refine Wx.jump ok kX7_clearLine 11 (tgt := 2) rfl (by decide) ?_
    refine Wx.sub [1, 0] rfl ?_
    exact hr _ _ _ h
set_option maxRecDepth 100000 in
set_option maxHeartbeats 4000000 in
theorem aX7_clearLine_l2 {X : gX} (ok : gOk X cX7_clearLine RX7 2 none rmX7_clearLine) {res : gW} (hres : gRs X none res) {F : Nat} : ∀ (n : Nat) (v0 : Nat) (v1 : Int32) (w : gW), mX7_clearLine_l2 F n v0 v1 w = some res → Wx X w 0 0 2 [(0, .inr (.inr (some v0))), (1, .inl v1)] [] := by
  intro n
  induction n with
  | zero => intro v0 v1 w h; cases (show (none : Option (gW)) = some res from h)
  | succ n ih =>
    intro v0 v1 w h
    exact aX7_clearLine_h2 ok hres (F := F) (mX7_clearLine_l2 F n) ih v0 v1 w h
set_option maxRecDepth 100000 in
set_option maxHeartbeats 4000000 in
theorem aX7_clearLine (l : Launch) (G : gG) {F : Nat} {v0 : Nat} {w : gW} {res : gW} (h : mX7_clearLine F v0 w = some res) : gM l yX7_clearLine cX7_clearLine 2 none rmX7_clearLine G w (gTs [.inr (.inr (some v0))]) none res := by
  refine gM_of (y := yX7_clearLine) (by decide +kernel) (Nat.le_of_ble_eq_true rfl) ?_
  intro X ok hl hG hres hnm
  subst hl; subst hG
  unfold mX7_clearLine at h
  show Wx X w 0 0 0 [(0, .inr (.inr (some v0)))] []
  refine Wx.run ok kX7_clearLine 0 2 (lv' := [(1, .inl (0 : Int32)), (0, .inr (.inr (some v0)))]) (st' := []) (pc' := 2) rfl ?_
  refine Wx.sub [1, 0] rfl ?_
  refine aX7_clearLine_l2 ok hres (F := F) F _ _ _ h
set_option maxRecDepth 100000 in
set_option maxHeartbeats 4000000 in
theorem aX7_count (l : Launch) (G : gG) {F : Nat} {v0 : Nat} {v1 : Int32} {w : gW} {res : Int32 × gW} (h : mX7_count F v0 v1 w = some res) : gM l yX7_count cX7_count 2 (some .int) rmX7_count G w (gTs [.inr (.inr (some v0)), .inl v1]) (some (.int res.1)) res.2 := by
  refine gM_of (y := yX7_count) (by decide +kernel) (Nat.le_of_ble_eq_true rfl) ?_
  intro X ok hl hG hres hnm
  subst hl; subst hG
  unfold mX7_count at h
  show Wx X w 0 0 0 [(0, .inr (.inr (some v0))), (1, .inl v1)] []
  refine Wx.run ok kX7_count 0 1 (lv' := [(0, .inr (.inr (some v0))), (1, .inl v1)]) (st' := [.inl v1]) (pc' := 1) rfl ?_
  refine Wx.if_ne ok kX7_count 1 (tgt := 11) rfl (by decide) h (fun hc1 h => ?_) (fun hc1 h => ?_)
  · refine Wx.run ok kX7_count 2 1 (lv' := [(0, .inr (.inr (some v0))), (1, .inl v1)]) (st' := [.inr (.inr (some v0))]) (pc' := 5) rfl ?_
    refine Wx.getI ok kX7_count 3 rfl lk_RX7_95_0 h (fun t5 h => ?_)
    refine Wx.jump ok kX7_count 4 (tgt := 54) rfl (by decide) ?_
    exact Wx.ireturn ok kX7_count 28 rfl hres h (by decide)
  · refine Wx.run ok kX7_count 5 2 (lv' := [(0, .inr (.inr (some v0))), (1, .inl v1)]) (st' := [.inl (1 : Int32), .inl v1]) (pc' := 13) rfl ?_
    refine Wx.icmp_ne ok kX7_count 7 (tgt := 23) rfl (by decide) h (fun hc13 h => ?_) (fun hc13 h => ?_)
    · refine Wx.run ok kX7_count 8 1 (lv' := [(0, .inr (.inr (some v0))), (1, .inl v1)]) (st' := [.inr (.inr (some v0))]) (pc' := 17) rfl ?_
      refine Wx.getI ok kX7_count 9 rfl lk_RX7_129_0 h (fun t17 h => ?_)
      refine Wx.jump ok kX7_count 10 (tgt := 54) rfl (by decide) ?_
      exact Wx.ireturn ok kX7_count 28 rfl hres h (by decide)
    · refine Wx.run ok kX7_count 11 2 (lv' := [(0, .inr (.inr (some v0))), (1, .inl v1)]) (st' := [.inl (2 : Int32), .inl v1]) (pc' := 25) rfl ?_
      refine Wx.icmp_ne ok kX7_count 13 (tgt := 53) rfl (by decide) h (fun hc25 h => ?_) (fun hc25 h => ?_)
      · refine Wx.run ok kX7_count 14 1 (lv' := [(0, .inr (.inr (some v0))), (1, .inl v1)]) (st' := [.inr (.inr (some v0))]) (pc' := 29) rfl ?_
        refine Wx.getR ok kX7_count 15 rfl lk_RX7_20_0 h (fun t29 h => ?_)
        refine Wx.run ok kX7_count 16 1 (lv' := [(0, .inr (.inr (some v0))), (1, .inl v1)]) (st' := [.inl (0 : Int32), .inr (.inr t29)]) (pc' := 33) rfl ?_
        refine Wx.iald ok kX7_count 17 rfl h (fun t33 h => ?_)
        refine Wx.run ok kX7_count 18 1 (lv' := [(0, .inr (.inr (some v0))), (1, .inl v1)]) (st' := [.inl (-4 : Int32), .inl t33]) (pc' := 36) rfl ?_
        refine Wx.icmp_ne ok kX7_count 19 (tgt := 44) rfl (by decide) h (fun hc36 h => ?_) (fun hc36 h => ?_)
        · refine Wx.run ok kX7_count 20 1 (lv' := [(0, .inr (.inr (some v0))), (1, .inl v1)]) (st' := [.inl (-4 : Int32)]) (pc' := 41) rfl ?_
          refine Wx.jump ok kX7_count 21 (tgt := 54) rfl (by decide) ?_
          exact Wx.ireturn ok kX7_count 28 rfl hres h (by decide)
        · refine Wx.run ok kX7_count 22 1 (lv' := [(0, .inr (.inr (some v0))), (1, .inl v1)]) (st' := [.inr (.inr (some v0))]) (pc' := 45) rfl ?_
          refine Wx.getR ok kX7_count 23 rfl lk_RX7_23_0 h (fun t45 h => ?_)
          refine Wx.run ok kX7_count 24 1 (lv' := [(0, .inr (.inr (some v0))), (1, .inl v1)]) (st' := [.inl (0 : Int32), .inr (.inr t45)]) (pc' := 49) rfl ?_
          refine Wx.iald ok kX7_count 25 rfl h (fun t49 h => ?_)
          refine Wx.jump ok kX7_count 26 (tgt := 54) rfl (by decide) ?_
          exact Wx.ireturn ok kX7_count 28 rfl hres h (by decide)
      · refine Wx.run ok kX7_count 27 1 (lv' := [(0, .inr (.inr (some v0))), (1, .inl v1)]) (st' := [.inl (-1 : Int32)]) (pc' := 54) rfl ?_
        exact Wx.ireturn ok kX7_count 28 rfl hres h (by decide)
set_option maxRecDepth 100000 in
set_option maxHeartbeats 4000000 in
theorem aX7_drop_h12 {X : gX} (ok : gOk X cX7_drop RX7 2 (some .int) rmX7_drop) {res : Int32 × gW} (hres : gRs X (some (.int res.1)) res.2) {F : Nat} (r : Nat → Int32 → gW → Option (Int32 × gW)) (k44 : Nat → gW → Option (Int32 × gW)) (hr : ∀ (v0 : Nat) (v1 : Int32) (w : gW), r v0 v1 w = some res → Wx X w 0 0 12 [(0, .inr (.inr (some v0))), (1, .inl v1)] []) (hk44 : ∀ (v0 : Nat) (w : gW), k44 v0 w = some res → Wx X w 0 0 44 [(0, .inr (.inr (some v0)))] []) : ∀ (v0 : Nat) (v1 : Int32) (w : gW), mX7_drop_h12 F r k44 v0 v1 w = some res → Wx X w 0 0 12 [(0, .inr (.inr (some v0))), (1, .inl v1)] [] := by
  intro v0 v1 w h
  unfold mX7_drop_h12 at h
  refine Wx.run ok kX7_drop 7 2 (lv' := [(0, .inr (.inr (some v0))), (1, .inl v1)]) (st' := [.inr (.inr (some v0)), .inl v1]) (pc' := 14) rfl ?_
  refine Wx.getI ok kX7_drop 9 rfl lk_RX7_129_0 h (fun t14 h => ?_)
  refine Wx.icmp_ge ok kX7_drop 10 (tgt := 44) rfl (by decide) h (fun hc17 h => ?_) (fun hc17 h => ?_)
  · refine Wx.sub [0] rfl ?_
    exact hk44 _ _ h
  · refine Wx.run ok kX7_drop 11 1 (lv' := [(0, .inr (.inr (some v0))), (1, .inl v1)]) (st' := [.inr (.inr (some v0))]) (pc' := 21) rfl ?_
    refine Wx.getR ok kX7_drop 12 rfl lk_RX7_29_0 h (fun t21 h => ?_)
    refine Wx.run ok kX7_drop 13 1 (lv' := [(0, .inr (.inr (some v0))), (1, .inl v1)]) (st' := [.inl v1, .inr (.inr t21)]) (pc' := 25) rfl ?_
    refine Wx.iald ok kX7_drop 14 rfl h (fun t25 h => ?_)
    refine Wx.run ok kX7_drop 15 1 (lv' := [(0, .inr (.inr (some v0))), (1, .inl v1)]) (st' := [.inr (.inr (some v0)), .inl t25]) (pc' := 27) rfl ?_
    refine Wx.getI ok kX7_drop 16 rfl lk_RX7_95_0 h (fun t27 h => ?_)
    refine Wx.run ok kX7_drop 17 2 (lv' := [(0, .inr (.inr (some v0))), (1, .inl v1)]) (st' := [.inl (t27 - (1 : Int32)), .inl t25]) (pc' := 32) rfl ?_
    refine Wx.icmp_ne ok kX7_drop 19 (tgt := 38) rfl (by decide) h (fun hc32 h => ?_) (fun hc32 h => ?_)
    · refine Wx.run ok kX7_drop 20 1 (lv' := [(0, .inr (.inr (some v0))), (1, .inl v1)]) (st' := [.inl (-2 : Int32)]) (pc' := 37) rfl ?_
      exact Wx.ireturn ok kX7_drop 21 rfl hres h (by decide)
    · refine Wx.run ok kX7_drop 22 1 (lv' := [(1, .inl (v1 + (1 : Int32))), (0, .inr (.inr (some v0)))]) (st' := []) (pc' := 41) rfl ?_
      refine Wx.jump ok kX7_drop 23 (tgt := 12) rfl (by decide) ?_
      refine Wx.sub [1, 0] rfl ?_
      exact hr _ _ _ h
set_option maxRecDepth 100000 in
set_option maxHeartbeats 4000000 in
theorem aX7_drop_l12 {X : gX} (ok : gOk X cX7_drop RX7 2 (some .int) rmX7_drop) {res : Int32 × gW} (hres : gRs X (some (.int res.1)) res.2) {F : Nat} (k44 : Nat → gW → Option (Int32 × gW)) (hk44 : ∀ (v0 : Nat) (w : gW), k44 v0 w = some res → Wx X w 0 0 44 [(0, .inr (.inr (some v0)))] []) : ∀ (n : Nat) (v0 : Nat) (v1 : Int32) (w : gW), mX7_drop_l12 F k44 n v0 v1 w = some res → Wx X w 0 0 12 [(0, .inr (.inr (some v0))), (1, .inl v1)] [] := by
  intro n
  induction n with
  | zero => intro v0 v1 w h; cases (show (none : Option (Int32 × gW)) = some res from h)
  | succ n ih =>
    intro v0 v1 w h
    exact aX7_drop_h12 ok hres (F := F) (mX7_drop_l12 F k44 n) k44 ih hk44 v0 v1 w h
set_option maxRecDepth 100000 in
set_option maxHeartbeats 4000000 in
theorem aX7_drop (l : Launch) (G : gG) {F : Nat} {v0 : Nat} {w : gW} {res : Int32 × gW} (h : mX7_drop F v0 w = some res) : gM l yX7_drop cX7_drop 2 (some .int) rmX7_drop G w (gTs [.inr (.inr (some v0))]) (some (.int res.1)) res.2 := by
  refine gM_of (y := yX7_drop) (by decide +kernel) (Nat.le_of_ble_eq_true rfl) ?_
  intro X ok hl hG hres hnm
  subst hl; subst hG
  unfold mX7_drop at h
  show Wx X w 0 0 0 [(0, .inr (.inr (some v0)))] []
  refine Wx.run ok kX7_drop 0 1 (lv' := [(0, .inr (.inr (some v0)))]) (st' := [.inr (.inr (some v0))]) (pc' := 1) rfl ?_
  refine Wx.getI ok kX7_drop 1 rfl lk_RX7_95_0 h (fun t1 h => ?_)
  refine Wx.if_ne ok kX7_drop 2 (tgt := 10) rfl (by decide) h (fun hc4 h => ?_) (fun hc4 h => ?_)
  · refine Wx.run ok kX7_drop 3 1 (lv' := [(0, .inr (.inr (some v0)))]) (st' := [.inl (-4 : Int32)]) (pc' := 9) rfl ?_
    exact Wx.ireturn ok kX7_drop 4 rfl hres h (by decide)
  · refine Wx.run ok kX7_drop 5 2 (lv' := [(1, .inl (0 : Int32)), (0, .inr (.inr (some v0)))]) (st' := []) (pc' := 12) rfl ?_
    refine Wx.sub [1, 0] rfl ?_
    refine aX7_drop_l12 ok hres (F := F) _ ?_ F _ _ _ h
    · intro v0 w h
      refine Wx.run ok kX7_drop 24 2 (lv' := [(0, .inr (.inr (some v0)))]) (st' := [.inr (.inr (some v0)), .inr (.inr (some v0))]) (pc' := 46) rfl ?_
      refine Wx.getI ok kX7_drop 26 rfl lk_RX7_95_0 h (fun t46 h => ?_)
      refine Wx.run ok kX7_drop 27 2 (lv' := [(0, .inr (.inr (some v0)))]) (st' := [.inl (t46 - (1 : Int32)), .inr (.inr (some v0))]) (pc' := 51) rfl ?_
      refine Wx.put ok kX7_drop 29 rfl lk_RX7_95_1 (gFit_i _) h (fun w51 h => ?_)
      refine Wx.run ok kX7_drop 30 1 (lv' := [(0, .inr (.inr (some v0)))]) (st' := [.inr (.inr (some v0))]) (pc' := 55) rfl ?_
      refine Wx.getI ok kX7_drop 31 rfl lk_RX7_95_0 h (fun t55 h => ?_)
      exact Wx.ireturn ok kX7_drop 32 rfl hres h (by decide)
set_option maxRecDepth 100000 in
set_option maxHeartbeats 4000000 in
theorem aX7_faultOf (l : Launch) (G : gG) {F : Nat} {v0 : Nat} {v1 : Int32} {v2 : Int32} {v3 : Int32} {w : gW} {res : Int32 × gW} (h : mX7_faultOf F v0 v1 v2 v3 w = some res) : gM l yX7_faultOf cX7_faultOf 4 (some .int) rmX7_faultOf G w (gTs [.inr (.inr (some v0)), .inl v1, .inl v2, .inl v3]) (some (.int res.1)) res.2 := by
  refine gM_of (y := yX7_faultOf) (by decide +kernel) (Nat.le_of_ble_eq_true rfl) ?_
  intro X ok hl hG hres hnm
  subst hl; subst hG
  unfold mX7_faultOf at h
  show Wx X w 0 0 0 [(0, .inr (.inr (some v0))), (1, .inl v1), (2, .inl v2), (3, .inl v3)] []
  refine Wx.run ok kX7_faultOf 0 1 (lv' := [(0, .inr (.inr (some v0))), (1, .inl v1), (2, .inl v2), (3, .inl v3)]) (st' := [.inr (.inr (some v0))]) (pc' := 1) rfl ?_
  refine Wx.getR ok kX7_faultOf 1 rfl lk_RX7_20_0 h (fun t1 h => ?_)
  refine Wx.run ok kX7_faultOf 2 1 (lv' := [(0, .inr (.inr (some v0))), (1, .inl v1), (2, .inl v2), (3, .inl v3)]) (st' := [.inl v1, .inr (.inr t1)]) (pc' := 5) rfl ?_
  refine Wx.iald ok kX7_faultOf 3 rfl h (fun t5 h => ?_)
  refine Wx.run ok kX7_faultOf 4 1 (lv' := [(0, .inr (.inr (some v0))), (1, .inl v1), (2, .inl v2), (3, .inl v3)]) (st' := [.inl (-4 : Int32), .inl t5]) (pc' := 8) rfl ?_
  refine Wx.icmp_ne ok kX7_faultOf 5 (tgt := 16) rfl (by decide) h (fun hc8 h => ?_) (fun hc8 h => ?_)
  · refine Wx.run ok kX7_faultOf 6 1 (lv' := [(0, .inr (.inr (some v0))), (1, .inl v1), (2, .inl v2), (3, .inl v3)]) (st' := [.inl (-11 : Int32)]) (pc' := 13) rfl ?_
    refine Wx.jump ok kX7_faultOf 7 (tgt := 47) rfl (by decide) ?_
    exact Wx.ireturn ok kX7_faultOf 25 rfl hres h (by decide)
  · refine Wx.run ok kX7_faultOf 8 1 (lv' := [(0, .inr (.inr (some v0))), (1, .inl v1), (2, .inl v2), (3, .inl v3)]) (st' := [.inr (.inr (some v0))]) (pc' := 17) rfl ?_
    refine Wx.getR ok kX7_faultOf 9 rfl lk_RX7_20_0 h (fun t17 h => ?_)
    refine Wx.run ok kX7_faultOf 10 1 (lv' := [(0, .inr (.inr (some v0))), (1, .inl v1), (2, .inl v2), (3, .inl v3)]) (st' := [.inl v1, .inr (.inr t17)]) (pc' := 21) rfl ?_
    refine Wx.iald ok kX7_faultOf 11 rfl h (fun t21 h => ?_)
    refine Wx.run ok kX7_faultOf 12 1 (lv' := [(0, .inr (.inr (some v0))), (1, .inl v1), (2, .inl v2), (3, .inl v3)]) (st' := [.inl v2, .inl t21]) (pc' := 23) rfl ?_
    refine Wx.icmp_eq ok kX7_faultOf 13 (tgt := 31) rfl (by decide) h (fun hc23 h => ?_) (fun hc23 h => ?_)
    · refine Wx.run ok kX7_faultOf 16 1 (lv' := [(0, .inr (.inr (some v0))), (1, .inl v1), (2, .inl v2), (3, .inl v3)]) (st' := [.inr (.inr (some v0))]) (pc' := 32) rfl ?_
      refine Wx.getR ok kX7_faultOf 17 rfl lk_RX7_23_0 h (fun t32 h => ?_)
      refine Wx.run ok kX7_faultOf 18 1 (lv' := [(0, .inr (.inr (some v0))), (1, .inl v1), (2, .inl v2), (3, .inl v3)]) (st' := [.inl v1, .inr (.inr t32)]) (pc' := 36) rfl ?_
      refine Wx.iald ok kX7_faultOf 19 rfl h (fun t36 h => ?_)
      refine Wx.run ok kX7_faultOf 20 1 (lv' := [(0, .inr (.inr (some v0))), (1, .inl v1), (2, .inl v2), (3, .inl v3)]) (st' := [.inl v3, .inl t36]) (pc' := 38) rfl ?_
      refine Wx.icmp_ge ok kX7_faultOf 21 (tgt := 46) rfl (by decide) h (fun hc38 h => ?_) (fun hc38 h => ?_)
      · refine Wx.run ok kX7_faultOf 24 1 (lv' := [(0, .inr (.inr (some v0))), (1, .inl v1), (2, .inl v2), (3, .inl v3)]) (st' := [.inl (0 : Int32)]) (pc' := 47) rfl ?_
        exact Wx.ireturn ok kX7_faultOf 25 rfl hres h (by decide)
      · refine Wx.run ok kX7_faultOf 22 1 (lv' := [(0, .inr (.inr (some v0))), (1, .inl v1), (2, .inl v2), (3, .inl v3)]) (st' := [.inl (-12 : Int32)]) (pc' := 43) rfl ?_
        refine Wx.jump ok kX7_faultOf 23 (tgt := 47) rfl (by decide) ?_
        exact Wx.ireturn ok kX7_faultOf 25 rfl hres h (by decide)
    · refine Wx.run ok kX7_faultOf 14 1 (lv' := [(0, .inr (.inr (some v0))), (1, .inl v1), (2, .inl v2), (3, .inl v3)]) (st' := [.inl (-13 : Int32)]) (pc' := 28) rfl ?_
      refine Wx.jump ok kX7_faultOf 15 (tgt := 47) rfl (by decide) ?_
      exact Wx.ireturn ok kX7_faultOf 25 rfl hres h (by decide)
set_option maxRecDepth 100000 in
set_option maxHeartbeats 4000000 in
theorem aX7_in_b17 {X : gX} (ok : gOk X cX7_in RX7 6 (some .boolean) rmX7_in) {res : Int32 × gW} (hres : gRs X (some (.int res.1)) res.2) {F : Nat} : ∀  (w : gW), mX7_in_b17 F w = some res → Wx X w 0 0 17 [] [] := by
  intro w h
  unfold mX7_in_b17 at h
  refine Wx.run ok kX7_in 10 1 (lv' := []) (st' := [.inl (0 : Int32)]) (pc' := 18) rfl ?_
  exact Wx.zreturn ok kX7_in 11 rfl gNz0 hres h (by decide)
set_option maxRecDepth 100000 in
set_option maxHeartbeats 4000000 in
theorem aX7_in (l : Launch) (G : gG) {F : Nat} {v0 : Int64} {v2 : Int64} {v4 : Int64} {w : gW} {res : Int32 × gW} (h : mX7_in F v0 v2 v4 w = some res) : gM l yX7_in cX7_in 6 (some .boolean) rmX7_in G w (gTs [.inr (.inl v0), .inr (.inl v2), .inr (.inl v4)]) (some (.int res.1)) res.2 := by
  refine gM_of (y := yX7_in) (by decide +kernel) (Nat.le_of_ble_eq_true rfl) ?_
  intro X ok hl hG hres hnm
  subst hl; subst hG
  unfold mX7_in at h
  show Wx X w 0 0 0 [(0, .inr (.inl v0)), (2, .inr (.inl v2)), (4, .inr (.inl v4))] []
  refine Wx.run ok kX7_in 0 3 (lv' := [(0, .inr (.inl v0)), (2, .inr (.inl v2)), (4, .inr (.inl v4))]) (st' := [.inl (lg_cmp v0 v2)]) (pc' := 3) rfl ?_
  refine Wx.if_lt ok kX7_in 3 (tgt := 17) rfl (by decide) h (fun hc3 h => ?_) (fun hc3 h => ?_)
  · refine Wx.sub [] rfl ?_
    exact aX7_in_b17 ok hres (F := F)  _ h
  · refine Wx.run ok kX7_in 4 3 (lv' := [(0, .inr (.inl v0)), (2, .inr (.inl v2)), (4, .inr (.inl v4))]) (st' := [.inl (lg_cmp v0 v4)]) (pc' := 10) rfl ?_
    refine Wx.if_gt ok kX7_in 7 (tgt := 17) rfl (by decide) h (fun hc10 h => ?_) (fun hc10 h => ?_)
    · refine Wx.sub [] rfl ?_
      exact aX7_in_b17 ok hres (F := F)  _ h
    · refine Wx.run ok kX7_in 8 1 (lv' := [(0, .inr (.inl v0)), (2, .inr (.inl v2)), (4, .inr (.inl v4))]) (st' := [.inl (1 : Int32)]) (pc' := 14) rfl ?_
      refine Wx.jump ok kX7_in 9 (tgt := 18) rfl (by decide) ?_
      exact Wx.zreturn ok kX7_in 11 rfl gNz1 hres h (by decide)
set_option maxRecDepth 100000 in
set_option maxHeartbeats 4000000 in
theorem aX7_init (l : Launch) (G : gG) {F : Nat} {v0 : Nat} {w : gW} {res : gW} (h : mX7_init F v0 w = some res) : gM l yX7_init cX7_init 1 none rmX7_init G w (gTs [.inr (.inr (some v0))]) none res := by
  refine gM_of (y := yX7_init) (by decide +kernel) (Nat.le_of_ble_eq_true rfl) ?_
  intro X ok hl hG hres hnm
  subst hl; subst hG
  unfold mX7_init at h
  show Wx X w 0 0 0 [(0, .inr (.inr (some v0)))] []
  refine Wx.run ok kX7_init 0 1 (lv' := [(0, .inr (.inr (some v0)))]) (st' := [.inr (.inr (some v0))]) (pc' := 1) rfl ?_
  refine Wx.objInit ok kX7_init 1 rfl ⟨gw_694, gw_18, gw_19⟩ ⟨Nat.le_of_ble_eq_true rfl, Nat.le_of_ble_eq_true rfl⟩ ?_
  refine Wx.run ok kX7_init 2 2 (lv' := [(0, .inr (.inr (some v0)))]) (st' := [.inl (8 : Int32), .inr (.inr (some v0))]) (pc' := 7) rfl ?_
  refine Wx.newI ok kX7_init 4 rfl gw_45 h (by decide) (by decide) (fun w7 h => ?_)
  refine Wx.putF ok kX7_init 5 rfl lk_RX7_7_2 hnm (gFit_a _ _) h (fun w9 h => ?_)
  refine Wx.run ok kX7_init 6 1 (lv' := [(0, .inr (.inr (some v0)))]) (st' := [.inr (.inr (some v0))]) (pc' := 13) rfl ?_
  refine Wx.ldc ok kX7_init 7 rfl gw_695 ?_
  refine Wx.newI ok kX7_init 8 rfl gw_45 h (by decide) (by decide) (fun w15 h => ?_)
  refine Wx.putF ok kX7_init 9 rfl lk_RX7_14_2 hnm (gFit_a _ _) h (fun w17 h => ?_)
  refine Wx.run ok kX7_init 10 2 (lv' := [(0, .inr (.inr (some v0)))]) (st' := [.inl (8 : Int32), .inr (.inr (some v0))]) (pc' := 23) rfl ?_
  refine Wx.newI ok kX7_init 12 rfl gw_45 h (by decide) (by decide) (fun w23 h => ?_)
  refine Wx.putF ok kX7_init 13 rfl lk_RX7_17_2 hnm (gFit_a _ _) h (fun w25 h => ?_)
  refine Wx.run ok kX7_init 14 2 (lv' := [(0, .inr (.inr (some v0)))]) (st' := [.inl (4 : Int32), .inr (.inr (some v0))]) (pc' := 30) rfl ?_
  refine Wx.newI ok kX7_init 16 rfl gw_45 h (by decide) (by decide) (fun w30 h => ?_)
  refine Wx.run ok kX7_init 17 3 (lv' := [(0, .inr (.inr (some v0)))]) (st' := [.inl (-4 : Int32), .inl (0 : Int32), .inr (.inr (some w25.2)), .inr (.inr (some w25.2)), .inr (.inr (some v0))]) (pc' := 36) rfl ?_
  refine Wx.iast ok kX7_init 20 rfl h (fun w36 h => ?_)
  refine Wx.run ok kX7_init 21 3 (lv' := [(0, .inr (.inr (some v0)))]) (st' := [.inl (-4 : Int32), .inl (1 : Int32), .inr (.inr (some w25.2)), .inr (.inr (some w25.2)), .inr (.inr (some v0))]) (pc' := 41) rfl ?_
  refine Wx.iast ok kX7_init 24 rfl h (fun w41 h => ?_)
  refine Wx.run ok kX7_init 25 3 (lv' := [(0, .inr (.inr (some v0)))]) (st' := [.inl (-4 : Int32), .inl (2 : Int32), .inr (.inr (some w25.2)), .inr (.inr (some w25.2)), .inr (.inr (some v0))]) (pc' := 46) rfl ?_
  refine Wx.iast ok kX7_init 28 rfl h (fun w46 h => ?_)
  refine Wx.run ok kX7_init 29 3 (lv' := [(0, .inr (.inr (some v0)))]) (st' := [.inl (-4 : Int32), .inl (3 : Int32), .inr (.inr (some w25.2)), .inr (.inr (some w25.2)), .inr (.inr (some v0))]) (pc' := 51) rfl ?_
  refine Wx.iast ok kX7_init 32 rfl h (fun w51 h => ?_)
  refine Wx.putF ok kX7_init 33 rfl lk_RX7_20_2 hnm (gFit_a _ _) h (fun w52 h => ?_)
  refine Wx.run ok kX7_init 34 2 (lv' := [(0, .inr (.inr (some v0)))]) (st' := [.inl (4 : Int32), .inr (.inr (some v0))]) (pc' := 57) rfl ?_
  refine Wx.newI ok kX7_init 36 rfl gw_45 h (by decide) (by decide) (fun w57 h => ?_)
  refine Wx.putF ok kX7_init 37 rfl lk_RX7_23_2 hnm (gFit_a _ _) h (fun w59 h => ?_)
  refine Wx.run ok kX7_init 38 2 (lv' := [(0, .inr (.inr (some v0)))]) (st' := [.inl (576 : Int32), .inr (.inr (some v0))]) (pc' := 66) rfl ?_
  refine Wx.newI ok kX7_init 40 rfl gw_45 h (by decide) (by decide) (fun w66 h => ?_)
  refine Wx.putF ok kX7_init 41 rfl lk_RX7_26_2 hnm (gFit_a _ _) h (fun w68 h => ?_)
  refine Wx.run ok kX7_init 42 2 (lv' := [(0, .inr (.inr (some v0)))]) (st' := [.inl (6 : Int32), .inr (.inr (some v0))]) (pc' := 74) rfl ?_
  refine Wx.newI ok kX7_init 44 rfl gw_45 h (by decide) (by decide) (fun w74 h => ?_)
  refine Wx.putF ok kX7_init 45 rfl lk_RX7_29_2 hnm (gFit_a _ _) h (fun w76 h => ?_)
  refine Wx.run ok kX7_init 46 2 (lv' := [(0, .inr (.inr (some v0)))]) (st' := [.inl (6 : Int32), .inr (.inr (some v0))]) (pc' := 82) rfl ?_
  refine Wx.newI ok kX7_init 48 rfl gw_45 h (by decide) (by decide) (fun w82 h => ?_)
  refine Wx.putF ok kX7_init 49 rfl lk_RX7_32_2 hnm (gFit_a _ _) h (fun w84 h => ?_)
  refine Wx.run ok kX7_init 50 2 (lv' := [(0, .inr (.inr (some v0)))]) (st' := [.inl (6 : Int32), .inr (.inr (some v0))]) (pc' := 90) rfl ?_
  refine Wx.newI ok kX7_init 52 rfl gw_45 h (by decide) (by decide) (fun w90 h => ?_)
  refine Wx.putF ok kX7_init 53 rfl lk_RX7_35_2 hnm (gFit_a _ _) h (fun w92 h => ?_)
  refine Wx.run ok kX7_init 54 2 (lv' := [(0, .inr (.inr (some v0)))]) (st' := [.inl (192 : Int32), .inr (.inr (some v0))]) (pc' := 99) rfl ?_
  refine Wx.newI ok kX7_init 56 rfl gw_45 h (by decide) (by decide) (fun w99 h => ?_)
  refine Wx.putF ok kX7_init 57 rfl lk_RX7_38_2 hnm (gFit_a _ _) h (fun w101 h => ?_)
  refine Wx.run ok kX7_init 58 2 (lv' := [(0, .inr (.inr (some v0)))]) (st' := [.inl (80 : Int32), .inr (.inr (some v0))]) (pc' := 107) rfl ?_
  refine Wx.newI ok kX7_init 60 rfl gw_45 h (by decide) (by decide) (fun w107 h => ?_)
  refine Wx.putF ok kX7_init 61 rfl lk_RX7_41_2 hnm (gFit_a _ _) h (fun w109 h => ?_)
  refine Wx.run ok kX7_init 62 2 (lv' := [(0, .inr (.inr (some v0)))]) (st' := [.inl (72 : Int32), .inr (.inr (some v0))]) (pc' := 115) rfl ?_
  refine Wx.newI ok kX7_init 64 rfl gw_45 h (by decide) (by decide) (fun w115 h => ?_)
  refine Wx.putF ok kX7_init 65 rfl lk_RX7_44_2 hnm (gFit_a _ _) h (fun w117 h => ?_)
  refine Wx.run ok kX7_init 66 2 (lv' := [(0, .inr (.inr (some v0)))]) (st' := [.inl (6000 : Int32), .inr (.inr (some v0))]) (pc' := 124) rfl ?_
  refine Wx.newL ok kX7_init 68 rfl gw_818 h (by decide) (by decide) (fun w124 h => ?_)
  refine Wx.putF ok kX7_init 69 rfl lk_RX7_47_2 hnm (gFit_a _ _) h (fun w126 h => ?_)
  refine Wx.run ok kX7_init 70 2 (lv' := [(0, .inr (.inr (some v0)))]) (st' := [.inl (6000 : Int32), .inr (.inr (some v0))]) (pc' := 133) rfl ?_
  refine Wx.newL ok kX7_init 72 rfl gw_818 h (by decide) (by decide) (fun w133 h => ?_)
  refine Wx.putF ok kX7_init 73 rfl lk_RX7_51_2 hnm (gFit_a _ _) h (fun w135 h => ?_)
  refine Wx.run ok kX7_init 74 1 (lv' := [(0, .inr (.inr (some v0)))]) (st' := [.inr (.inr (some v0))]) (pc' := 139) rfl ?_
  refine Wx.ldc ok kX7_init 75 rfl gw_696 ?_
  refine Wx.newI ok kX7_init 76 rfl gw_45 h (by decide) (by decide) (fun w141 h => ?_)
  refine Wx.putF ok kX7_init 77 rfl lk_RX7_55_2 hnm (gFit_a _ _) h (fun w143 h => ?_)
  refine Wx.run ok kX7_init 78 2 (lv' := [(0, .inr (.inr (some v0)))]) (st' := [.inl (8 : Int32), .inr (.inr (some v0))]) (pc' := 149) rfl ?_
  refine Wx.newI ok kX7_init 80 rfl gw_45 h (by decide) (by decide) (fun w149 h => ?_)
  refine Wx.putF ok kX7_init 81 rfl lk_RX7_58_2 hnm (gFit_a _ _) h (fun w151 h => ?_)
  refine Wx.run ok kX7_init 82 2 (lv' := [(0, .inr (.inr (some v0)))]) (st' := [.inl (8 : Int32), .inr (.inr (some v0))]) (pc' := 157) rfl ?_
  refine Wx.newI ok kX7_init 84 rfl gw_45 h (by decide) (by decide) (fun w157 h => ?_)
  refine Wx.putF ok kX7_init 85 rfl lk_RX7_61_2 hnm (gFit_a _ _) h (fun w159 h => ?_)
  refine Wx.run ok kX7_init 86 2 (lv' := [(0, .inr (.inr (some v0)))]) (st' := [.inl (72 : Int32), .inr (.inr (some v0))]) (pc' := 165) rfl ?_
  refine Wx.newI ok kX7_init 88 rfl gw_45 h (by decide) (by decide) (fun w165 h => ?_)
  refine Wx.putF ok kX7_init 89 rfl lk_RX7_64_2 hnm (gFit_a _ _) h (fun w167 h => ?_)
  refine Wx.run ok kX7_init 90 2 (lv' := [(0, .inr (.inr (some v0)))]) (st' := [.inl (98 : Int32), .inr (.inr (some v0))]) (pc' := 173) rfl ?_
  refine Wx.newI ok kX7_init 92 rfl gw_45 h (by decide) (by decide) (fun w173 h => ?_)
  refine Wx.putF ok kX7_init 93 rfl lk_RX7_67_2 hnm (gFit_a _ _) h (fun w175 h => ?_)
  refine Wx.run ok kX7_init 94 2 (lv' := [(0, .inr (.inr (some v0)))]) (st' := [.inl (9604 : Int32), .inr (.inr (some v0))]) (pc' := 182) rfl ?_
  refine Wx.newI ok kX7_init 96 rfl gw_45 h (by decide) (by decide) (fun w182 h => ?_)
  refine Wx.putF ok kX7_init 97 rfl lk_RX7_70_2 hnm (gFit_a _ _) h (fun w184 h => ?_)
  refine Wx.run ok kX7_init 98 2 (lv' := [(0, .inr (.inr (some v0)))]) (st' := [.inl (98 : Int32), .inr (.inr (some v0))]) (pc' := 190) rfl ?_
  refine Wx.newI ok kX7_init 100 rfl gw_45 h (by decide) (by decide) (fun w190 h => ?_)
  refine Wx.putF ok kX7_init 101 rfl lk_RX7_73_2 hnm (gFit_a _ _) h (fun w192 h => ?_)
  refine Wx.run ok kX7_init 102 2 (lv' := [(0, .inr (.inr (some v0)))]) (st' := [.inl (-4 : Int32), .inr (.inr (some v0))]) (pc' := 198) rfl ?_
  refine Wx.put ok kX7_init 104 rfl lk_RX7_76_1 (gFit_i _) h (fun w198 h => ?_)
  refine Wx.run ok kX7_init 105 2 (lv' := [(0, .inr (.inr (some v0)))]) (st' := [.inl (5 : Int32), .inr (.inr (some v0))]) (pc' := 203) rfl ?_
  refine Wx.newI ok kX7_init 107 rfl gw_45 h (by decide) (by decide) (fun w203 h => ?_)
  refine Wx.putF ok kX7_init 108 rfl lk_RX7_80_2 hnm (gFit_a _ _) h (fun w205 h => ?_)
  refine Wx.run ok kX7_init 109 2 (lv' := [(0, .inr (.inr (some v0)))]) (st' := [.inl (1372 : Int32), .inr (.inr (some v0))]) (pc' := 212) rfl ?_
  refine Wx.newI ok kX7_init 111 rfl gw_45 h (by decide) (by decide) (fun w212 h => ?_)
  refine Wx.putF ok kX7_init 112 rfl lk_RX7_83_2 hnm (gFit_a _ _) h (fun w214 h => ?_)
  refine Wx.run ok kX7_init 113 2 (lv' := [(0, .inr (.inr (some v0)))]) (st' := [.inl (14 : Int32), .inr (.inr (some v0))]) (pc' := 220) rfl ?_
  refine Wx.newI ok kX7_init 115 rfl gw_45 h (by decide) (by decide) (fun w220 h => ?_)
  refine Wx.putF ok kX7_init 116 rfl lk_RX7_86_2 hnm (gFit_a _ _) h (fun w222 h => ?_)
  refine Wx.run ok kX7_init 117 2 (lv' := [(0, .inr (.inr (some v0)))]) (st' := [.inl (9604 : Int32), .inr (.inr (some v0))]) (pc' := 229) rfl ?_
  refine Wx.newI ok kX7_init 119 rfl gw_45 h (by decide) (by decide) (fun w229 h => ?_)
  refine Wx.putF ok kX7_init 120 rfl lk_RX7_89_2 hnm (gFit_a _ _) h (fun w231 h => ?_)
  refine Wx.run ok kX7_init 121 2 (lv' := [(0, .inr (.inr (some v0)))]) (st' := [.inl (9604 : Int32), .inr (.inr (some v0))]) (pc' := 238) rfl ?_
  refine Wx.newI ok kX7_init 123 rfl gw_45 h (by decide) (by decide) (fun w238 h => ?_)
  refine Wx.putF ok kX7_init 124 rfl lk_RX7_92_2 hnm (gFit_a _ _) h (fun w240 h => ?_)
  exact Wx.vreturn ok kX7_init 125 rfl hres h (by decide)
set_option maxRecDepth 100000 in
set_option maxHeartbeats 4000000 in
theorem aX7_isMade (l : Launch) (G : gG) {F : Nat} {v0 : Nat} {v1 : Int32} {w : gW} {res : Int32 × gW} (h : mX7_isMade F v0 v1 w = some res) : gM l yX7_isMade cX7_isMade 2 (some .boolean) rmX7_isMade G w (gTs [.inr (.inr (some v0)), .inl v1]) (some (.int res.1)) res.2 := by
  refine gM_of (y := yX7_isMade) (by decide +kernel) (Nat.le_of_ble_eq_true rfl) ?_
  intro X ok hl hG hres hnm
  subst hl; subst hG
  unfold mX7_isMade at h
  show Wx X w 0 0 0 [(0, .inr (.inr (some v0))), (1, .inl v1)] []
  refine Wx.run ok kX7_isMade 0 2 (lv' := [(0, .inr (.inr (some v0))), (1, .inl v1)]) (st' := [.inl (64 : Int32), .inl v1]) (pc' := 3) rfl ?_
  refine Wx.icmp_ge ok kX7_isMade 2 (tgt := 27) rfl (by decide) h (fun hc3 h => ?_) (fun hc3 h => ?_)
  · refine Wx.run ok kX7_isMade 16 1 (lv' := [(0, .inr (.inr (some v0))), (1, .inl v1)]) (st' := [.inr (.inr (some v0))]) (pc' := 28) rfl ?_
    refine Wx.getL ok kX7_isMade 17 rfl lk_RX7_153_0 h (fun t28 h => ?_)
    refine Wx.run ok kX7_isMade 18 8 (lv' := [(0, .inr (.inr (some v0))), (1, .inl v1)]) (st' := [.inl (lg_cmp ((t28 >>> (((v1 - (64 : Int32))).toInt64 &&& 63)) &&& (1 : Int64)) (1 : Int64))]) (pc' := 40) rfl ?_
    refine Wx.if_ne ok kX7_isMade 26 (tgt := 47) rfl (by decide) h (fun hc40 h => ?_) (fun hc40 h => ?_)
    · refine Wx.run ok kX7_isMade 27 1 (lv' := [(0, .inr (.inr (some v0))), (1, .inl v1)]) (st' := [.inl (1 : Int32)]) (pc' := 44) rfl ?_
      refine Wx.jump ok kX7_isMade 28 (tgt := 48) rfl (by decide) ?_
      exact Wx.zreturn ok kX7_isMade 30 rfl gNz1 hres h (by decide)
    · refine Wx.run ok kX7_isMade 29 1 (lv' := [(0, .inr (.inr (some v0))), (1, .inl v1)]) (st' := [.inl (0 : Int32)]) (pc' := 48) rfl ?_
      exact Wx.zreturn ok kX7_isMade 30 rfl gNz0 hres h (by decide)
  · refine Wx.run ok kX7_isMade 3 1 (lv' := [(0, .inr (.inr (some v0))), (1, .inl v1)]) (st' := [.inr (.inr (some v0))]) (pc' := 7) rfl ?_
    refine Wx.getL ok kX7_isMade 4 rfl lk_RX7_149_0 h (fun t7 h => ?_)
    refine Wx.run ok kX7_isMade 5 6 (lv' := [(0, .inr (.inr (some v0))), (1, .inl v1)]) (st' := [.inl (lg_cmp ((t7 >>> ((v1).toInt64 &&& 63)) &&& (1 : Int64)) (1 : Int64))]) (pc' := 16) rfl ?_
    refine Wx.if_ne ok kX7_isMade 11 (tgt := 23) rfl (by decide) h (fun hc16 h => ?_) (fun hc16 h => ?_)
    · refine Wx.run ok kX7_isMade 12 1 (lv' := [(0, .inr (.inr (some v0))), (1, .inl v1)]) (st' := [.inl (1 : Int32)]) (pc' := 20) rfl ?_
      refine Wx.jump ok kX7_isMade 13 (tgt := 48) rfl (by decide) ?_
      exact Wx.zreturn ok kX7_isMade 30 rfl gNz1 hres h (by decide)
    · refine Wx.run ok kX7_isMade 14 1 (lv' := [(0, .inr (.inr (some v0))), (1, .inl v1)]) (st' := [.inl (0 : Int32)]) (pc' := 24) rfl ?_
      refine Wx.jump ok kX7_isMade 15 (tgt := 48) rfl (by decide) ?_
      exact Wx.zreturn ok kX7_isMade 30 rfl gNz0 hres h (by decide)
set_option maxRecDepth 100000 in
set_option maxHeartbeats 4000000 in
theorem aX7_leave (l : Launch) (G : gG) {F : Nat} {v0 : Nat} {w : gW} {res : Int32 × gW} (h : mX7_leave F v0 w = some res) : gM l yX7_leave cX7_leave 1 (some .int) rmX7_leave G w (gTs [.inr (.inr (some v0))]) (some (.int res.1)) res.2 := by
  refine gM_of (y := yX7_leave) (by decide +kernel) (Nat.le_of_ble_eq_true rfl) ?_
  intro X ok hl hG hres hnm
  subst hl; subst hG
  unfold mX7_leave at h
  show Wx X w 0 0 0 [(0, .inr (.inr (some v0)))] []
  refine Wx.run ok kX7_leave 0 1 (lv' := [(0, .inr (.inr (some v0)))]) (st' := [.inr (.inr (some v0))]) (pc' := 1) rfl ?_
  refine Wx.getI ok kX7_leave 1 rfl lk_RX7_129_0 h (fun t1 h => ?_)
  refine Wx.if_ne ok kX7_leave 2 (tgt := 10) rfl (by decide) h (fun hc4 h => ?_) (fun hc4 h => ?_)
  · refine Wx.run ok kX7_leave 3 1 (lv' := [(0, .inr (.inr (some v0)))]) (st' := [.inl (-4 : Int32)]) (pc' := 9) rfl ?_
    exact Wx.ireturn ok kX7_leave 4 rfl hres h (by decide)
  · refine Wx.run ok kX7_leave 5 2 (lv' := [(0, .inr (.inr (some v0)))]) (st' := [.inr (.inr (some v0)), .inr (.inr (some v0))]) (pc' := 12) rfl ?_
    refine Wx.getI ok kX7_leave 7 rfl lk_RX7_129_0 h (fun t12 h => ?_)
    refine Wx.run ok kX7_leave 8 2 (lv' := [(0, .inr (.inr (some v0)))]) (st' := [.inl (t12 - (1 : Int32)), .inr (.inr (some v0))]) (pc' := 17) rfl ?_
    refine Wx.put ok kX7_leave 10 rfl lk_RX7_129_1 (gFit_i _) h (fun w17 h => ?_)
    refine Wx.run ok kX7_leave 11 2 (lv' := [(0, .inr (.inr (some v0)))]) (st' := [.inl (-4 : Int32), .inr (.inr (some v0))]) (pc' := 23) rfl ?_
    refine Wx.put ok kX7_leave 13 rfl lk_RX7_76_1 (gFit_i _) h (fun w23 h => ?_)
    refine Wx.run ok kX7_leave 14 1 (lv' := [(0, .inr (.inr (some v0)))]) (st' := [.inr (.inr (some v0))]) (pc' := 27) rfl ?_
    refine Wx.getI ok kX7_leave 15 rfl lk_RX7_129_0 h (fun t27 h => ?_)
    exact Wx.ireturn ok kX7_leave 16 rfl hres h (by decide)
set_option maxRecDepth 100000 in
set_option maxHeartbeats 4000000 in
theorem aX7_lessBound_h26 {X : gX} (ok : gOk X cX7_lessBound RX7 4 none rmX7_lessBound) {res : gW} (hres : gRs X none res) {F : Nat} (r : Nat → Int32 → Int32 → Int32 → gW → Option (gW)) (k80 : Nat → Int32 → gW → Option (gW)) (hr : ∀ (v0 : Nat) (v1 : Int32) (v2 : Int32) (v3 : Int32) (w : gW), r v0 v1 v2 v3 w = some res → Wx X w 0 0 26 [(0, .inr (.inr (some v0))), (1, .inl v1), (2, .inl v2), (3, .inl v3)] []) (hk80 : ∀ (v0 : Nat) (v1 : Int32) (w : gW), k80 v0 v1 w = some res → Wx X w 0 0 80 [(0, .inr (.inr (some v0))), (1, .inl v1)] []) : ∀ (v0 : Nat) (v1 : Int32) (v2 : Int32) (v3 : Int32) (w : gW), mX7_lessBound_h26 F r k80 v0 v1 v2 v3 w = some res → Wx X w 0 0 26 [(0, .inr (.inr (some v0))), (1, .inl v1), (2, .inl v2), (3, .inl v3)] [] := by
  intro v0 v1 v2 v3 w h
  unfold mX7_lessBound_h26 at h
  refine Wx.run ok kX7_lessBound 18 2 (lv' := [(0, .inr (.inr (some v0))), (1, .inl v1), (2, .inl v2), (3, .inl v3)]) (st' := [.inr (.inr (some v0)), .inl v3]) (pc' := 28) rfl ?_
  refine Wx.getI ok kX7_lessBound 20 rfl lk_RX7_202_0 h (fun t28 h => ?_)
  refine Wx.icmp_ge ok kX7_lessBound 21 (tgt := 80) rfl (by decide) h (fun hc31 h => ?_) (fun hc31 h => ?_)
  · refine Wx.sub [0, 1] rfl ?_
    exact hk80 _ _ _ h
  · refine Wx.run ok kX7_lessBound 22 1 (lv' := [(0, .inr (.inr (some v0))), (1, .inl v1), (2, .inl v2), (3, .inl v3)]) (st' := [.inl v2]) (pc' := 35) rfl ?_
    refine Wx.if_le ok kX7_lessBound 23 (tgt := 80) rfl (by decide) h (fun hc35 h => ?_) (fun hc35 h => ?_)
    · refine Wx.sub [0, 1] rfl ?_
      exact hk80 _ _ _ h
    · refine Wx.run ok kX7_lessBound 24 1 (lv' := [(0, .inr (.inr (some v0))), (1, .inl v1), (2, .inl v2), (3, .inl v3)]) (st' := [.inr (.inr (some v0))]) (pc' := 39) rfl ?_
      refine Wx.getR ok kX7_lessBound 25 rfl lk_RX7_67_0 h (fun t39 h => ?_)
      refine Wx.run ok kX7_lessBound 26 2 (lv' := [(0, .inr (.inr (some v0))), (1, .inl v1), (2, .inl v2), (3, .inl v3)]) (st' := [.inr (.inr (some v0)), .inl v3, .inr (.inr t39)]) (pc' := 44) rfl ?_
      refine Wx.getR ok kX7_lessBound 28 rfl lk_RX7_67_0 h (fun t44 h => ?_)
      refine Wx.run ok kX7_lessBound 29 1 (lv' := [(0, .inr (.inr (some v0))), (1, .inl v1), (2, .inl v2), (3, .inl v3)]) (st' := [.inl v3, .inr (.inr t44), .inl v3, .inr (.inr t39)]) (pc' := 48) rfl ?_
      refine Wx.iald ok kX7_lessBound 30 rfl h (fun t48 h => ?_)
      refine Wx.run ok kX7_lessBound 31 1 (lv' := [(0, .inr (.inr (some v0))), (1, .inl v1), (2, .inl v2), (3, .inl v3)]) (st' := [.inr (.inr (some v0)), .inl t48, .inl v3, .inr (.inr t39)]) (pc' := 50) rfl ?_
      refine Wx.getI ok kX7_lessBound 32 rfl lk_RX7_196_0 h (fun t50 h => ?_)
      refine Wx.run ok kX7_lessBound 33 3 (lv' := [(0, .inr (.inr (some v0))), (1, .inl v1), (2, .inl v2), (3, .inl v3)]) (st' := [.inr (.inr (some v0)), .inl (t50 - v2), .inl t48, .inl v3, .inr (.inr t39)]) (pc' := 56) rfl ?_
      refine Wx.getR ok kX7_lessBound 36 rfl lk_RX7_83_0 h (fun t56 h => ?_)
      refine Wx.run ok kX7_lessBound 37 5 (lv' := [(0, .inr (.inr (some v0))), (1, .inl v1), (2, .inl v2), (3, .inl v3)]) (st' := [.inl (((98 : Int32) * v1) + v3), .inr (.inr t56), .inl (t50 - v2), .inl t48, .inl v3, .inr (.inr t39)]) (pc' := 65) rfl ?_
      refine Wx.iald ok kX7_lessBound 42 rfl h (fun t65 h => ?_)
      refine Wx.run ok kX7_lessBound 43 3 (lv' := [(0, .inr (.inr (some v0))), (1, .inl v1), (2, .inl v2), (3, .inl v3)]) (st' := [.inr (.inr (some v0)), .inl (t48 + ((t50 - v2) * t65)), .inl v3, .inr (.inr t39)]) (pc' := 69) rfl ?_
      refine Wx.getI ok kX7_lessBound 46 rfl lk_RX7_196_0 h (fun t69 h => ?_)
      refine Wx.irem ok kX7_lessBound 47 rfl h (fun t72 h => ?_)
      refine Wx.iast ok kX7_lessBound 48 rfl h (fun w73 h => ?_)
      refine Wx.run ok kX7_lessBound 49 1 (lv' := [(3, .inl (v3 + (1 : Int32))), (0, .inr (.inr (some v0))), (1, .inl v1), (2, .inl v2)]) (st' := []) (pc' := 77) rfl ?_
      refine Wx.jump ok kX7_lessBound 50 (tgt := 26) rfl (by decide) ?_
      refine Wx.sub [1, 2, 3, 0] rfl ?_
      exact hr _ _ _ _ _ h
set_option maxRecDepth 100000 in
set_option maxHeartbeats 4000000 in
theorem aX7_lessBound_l26 {X : gX} (ok : gOk X cX7_lessBound RX7 4 none rmX7_lessBound) {res : gW} (hres : gRs X none res) {F : Nat} (k80 : Nat → Int32 → gW → Option (gW)) (hk80 : ∀ (v0 : Nat) (v1 : Int32) (w : gW), k80 v0 v1 w = some res → Wx X w 0 0 80 [(0, .inr (.inr (some v0))), (1, .inl v1)] []) : ∀ (n : Nat) (v0 : Nat) (v1 : Int32) (v2 : Int32) (v3 : Int32) (w : gW), mX7_lessBound_l26 F k80 n v0 v1 v2 v3 w = some res → Wx X w 0 0 26 [(0, .inr (.inr (some v0))), (1, .inl v1), (2, .inl v2), (3, .inl v3)] [] := by
  intro n
  induction n with
  | zero => intro v0 v1 v2 v3 w h; cases (show (none : Option (gW)) = some res from h)
  | succ n ih =>
    intro v0 v1 v2 v3 w h
    exact aX7_lessBound_h26 ok hres (F := F) (mX7_lessBound_l26 F k80 n) k80 ih hk80 v0 v1 v2 v3 w h
set_option maxRecDepth 100000 in
set_option maxHeartbeats 4000000 in
theorem aX7_lessBound_b80 {X : gX} (ok : gOk X cX7_lessBound RX7 4 none rmX7_lessBound) {res : gW} (hres : gRs X none res) {F : Nat} (r : Nat → Int32 → gW → Option (gW)) (hr : ∀ (v0 : Nat) (v1 : Int32) (w : gW), r v0 v1 w = some res → Wx X w 0 0 2 [(0, .inr (.inr (some v0))), (1, .inl v1)] []) : ∀ (v0 : Nat) (v1 : Int32) (w : gW), mX7_lessBound_b80 F r v0 v1 w = some res → Wx X w 0 0 80 [(0, .inr (.inr (some v0))), (1, .inl v1)] [] := by
  intro v0 v1 w h
  unfold mX7_lessBound_b80 at h
  refine Wx.run ok kX7_lessBound 51 1 (lv' := [(1, .inl (v1 + (1 : Int32))), (0, .inr (.inr (some v0)))]) (st' := []) (pc' := 83) rfl ?_
  refine Wx.jump ok kX7_lessBound 52 (tgt := 2) rfl (by decide) ?_
  refine Wx.sub [1, 0] rfl ?_
  exact hr _ _ _ h
set_option maxRecDepth 100000 in
set_option maxHeartbeats 4000000 in
theorem aX7_lessBound_h2 {X : gX} (ok : gOk X cX7_lessBound RX7 4 none rmX7_lessBound) {res : gW} (hres : gRs X none res) {F : Nat} (r : Nat → Int32 → gW → Option (gW)) (hr : ∀ (v0 : Nat) (v1 : Int32) (w : gW), r v0 v1 w = some res → Wx X w 0 0 2 [(0, .inr (.inr (some v0))), (1, .inl v1)] []) : ∀ (v0 : Nat) (v1 : Int32) (w : gW), mX7_lessBound_h2 F r v0 v1 w = some res → Wx X w 0 0 2 [(0, .inr (.inr (some v0))), (1, .inl v1)] [] := by
  intro v0 v1 w h
  unfold mX7_lessBound_h2 at h
  refine Wx.run ok kX7_lessBound 2 2 (lv' := [(0, .inr (.inr (some v0))), (1, .inl v1)]) (st' := [.inr (.inr (some v0)), .inl v1]) (pc' := 4) rfl ?_
  refine Wx.getR ok kX7_lessBound 4 rfl lk_RX7_80_0 h (fun t4 h => ?_)
  refine Wx.run ok kX7_lessBound 5 1 (lv' := [(0, .inr (.inr (some v0))), (1, .inl v1)]) (st' := [.inl (4 : Int32), .inr (.inr t4), .inl v1]) (pc' := 8) rfl ?_
  refine Wx.iald ok kX7_lessBound 6 rfl h (fun t8 h => ?_)
  refine Wx.icmp_ge ok kX7_lessBound 7 (tgt := 86) rfl (by decide) h (fun hc9 h => ?_) (fun hc9 h => ?_)
  · exact Wx.vreturn ok kX7_lessBound 53 rfl hres h (by decide)
  · refine Wx.run ok kX7_lessBound 8 1 (lv' := [(0, .inr (.inr (some v0))), (1, .inl v1)]) (st' := [.inr (.inr (some v0))]) (pc' := 13) rfl ?_
    refine Wx.getR ok kX7_lessBound 9 rfl lk_RX7_67_0 h (fun t13 h => ?_)
    refine Wx.run ok kX7_lessBound 10 1 (lv' := [(0, .inr (.inr (some v0))), (1, .inl v1)]) (st' := [.inr (.inr (some v0)), .inr (.inr t13)]) (pc' := 17) rfl ?_
    refine Wx.getR ok kX7_lessBound 11 rfl lk_RX7_86_0 h (fun t17 h => ?_)
    refine Wx.run ok kX7_lessBound 12 1 (lv' := [(0, .inr (.inr (some v0))), (1, .inl v1)]) (st' := [.inl v1, .inr (.inr t17), .inr (.inr t13)]) (pc' := 21) rfl ?_
    refine Wx.iald ok kX7_lessBound 13 rfl h (fun t21 h => ?_)
    refine Wx.iald ok kX7_lessBound 14 rfl h (fun t22 h => ?_)
    refine Wx.run ok kX7_lessBound 15 3 (lv' := [(3, .inl (0 : Int32)), (2, .inl t22), (0, .inr (.inr (some v0))), (1, .inl v1)]) (st' := []) (pc' := 26) rfl ?_
    refine Wx.sub [2, 3, 1, 0] rfl ?_
    refine aX7_lessBound_l26 ok hres (F := F) _ ?_ F _ _ _ _ _ h
    · intro v0 v1 w h
      exact aX7_lessBound_b80 ok hres (F := F) r hr _ _ _ h
set_option maxRecDepth 100000 in
set_option maxHeartbeats 4000000 in
theorem aX7_lessBound_l2 {X : gX} (ok : gOk X cX7_lessBound RX7 4 none rmX7_lessBound) {res : gW} (hres : gRs X none res) {F : Nat} : ∀ (n : Nat) (v0 : Nat) (v1 : Int32) (w : gW), mX7_lessBound_l2 F n v0 v1 w = some res → Wx X w 0 0 2 [(0, .inr (.inr (some v0))), (1, .inl v1)] [] := by
  intro n
  induction n with
  | zero => intro v0 v1 w h; cases (show (none : Option (gW)) = some res from h)
  | succ n ih =>
    intro v0 v1 w h
    exact aX7_lessBound_h2 ok hres (F := F) (mX7_lessBound_l2 F n) ih v0 v1 w h
set_option maxRecDepth 100000 in
set_option maxHeartbeats 4000000 in
theorem aX7_lessBound (l : Launch) (G : gG) {F : Nat} {v0 : Nat} {w : gW} {res : gW} (h : mX7_lessBound F v0 w = some res) : gM l yX7_lessBound cX7_lessBound 4 none rmX7_lessBound G w (gTs [.inr (.inr (some v0))]) none res := by
  refine gM_of (y := yX7_lessBound) (by decide +kernel) (Nat.le_of_ble_eq_true rfl) ?_
  intro X ok hl hG hres hnm
  subst hl; subst hG
  unfold mX7_lessBound at h
  show Wx X w 0 0 0 [(0, .inr (.inr (some v0)))] []
  refine Wx.run ok kX7_lessBound 0 2 (lv' := [(1, .inl (0 : Int32)), (0, .inr (.inr (some v0)))]) (st' := []) (pc' := 2) rfl ?_
  refine Wx.sub [1, 0] rfl ?_
  refine aX7_lessBound_l2 ok hres (F := F) F _ _ _ h
set_option maxRecDepth 100000 in
set_option maxHeartbeats 4000000 in
theorem aX7_matrix (l : Launch) (G : gG) {F : Nat} {v0 : Nat} {v1 : Int32} {v2 : Int32} {v3 : Int32} {v4 : Int32} {w : gW} {res : Int32 × gW} (h : mX7_matrix F v0 v1 v2 v3 v4 w = some res) : gM l yX7_matrix cX7_matrix 5 (some .int) rmX7_matrix G w (gTs [.inr (.inr (some v0)), .inl v1, .inl v2, .inl v3, .inl v4]) (some (.int res.1)) res.2 := by
  refine gM_of (y := yX7_matrix) (by decide +kernel) (Nat.le_of_ble_eq_true rfl) ?_
  intro X ok hl hG hres hnm
  subst hl; subst hG
  unfold mX7_matrix at h
  show Wx X w 0 0 0 [(0, .inr (.inr (some v0))), (1, .inl v1), (2, .inl v2), (3, .inl v3), (4, .inl v4)] []
  refine Wx.run ok kX7_matrix 0 1 (lv' := [(0, .inr (.inr (some v0))), (1, .inl v1), (2, .inl v2), (3, .inl v3), (4, .inl v4)]) (st' := [.inr (.inr (some v0))]) (pc' := 1) rfl ?_
  refine Wx.getR ok kX7_matrix 1 rfl lk_RX7_38_0 h (fun t1 h => ?_)
  refine Wx.run ok kX7_matrix 2 13 (lv' := [(0, .inr (.inr (some v0))), (1, .inl v1), (2, .inl v2), (3, .inl v3), (4, .inl v4)]) (st' := [.inl (((((32 : Int32) * v1) + ((4 : Int32) * v2)) + ((2 : Int32) * v3)) + v4), .inr (.inr t1)]) (pc' := 19) rfl ?_
  refine Wx.iald ok kX7_matrix 15 rfl h (fun t19 h => ?_)
  exact Wx.ireturn ok kX7_matrix 16 rfl hres h (by decide)
set_option maxRecDepth 100000 in
set_option maxHeartbeats 4000000 in
theorem aX7_placeOf (l : Launch) (G : gG) {F : Nat} {v0 : Nat} {v1 : Int32} {v2 : Int32} {v3 : Int32} {w : gW} {res : Int32 × gW} (h : mX7_placeOf F v0 v1 v2 v3 w = some res) : gM l yX7_placeOf cX7_placeOf 4 (some .int) rmX7_placeOf G w (gTs [.inr (.inr (some v0)), .inl v1, .inl v2, .inl v3]) (some (.int res.1)) res.2 := by
  refine gM_of (y := yX7_placeOf) (by decide +kernel) (Nat.le_of_ble_eq_true rfl) ?_
  intro X ok hl hG hres hnm
  subst hl; subst hG
  unfold mX7_placeOf at h
  show Wx X w 0 0 0 [(0, .inr (.inr (some v0))), (1, .inl v1), (2, .inl v2), (3, .inl v3)] []
  refine Wx.run ok kX7_placeOf 0 4 (lv' := [(0, .inr (.inr (some v0))), (1, .inl v1), (2, .inl v2), (3, .inl v3)]) (st' := [.inr (.inr (some v0)), .inl (v1 - (1 : Int32))]) (pc' := 4) rfl ?_
  refine Wx.getI ok kX7_placeOf 4 rfl lk_RX7_208_0 h (fun t4 h => ?_)
  refine Wx.run ok kX7_placeOf 5 4 (lv' := [(0, .inr (.inr (some v0))), (1, .inl v1), (2, .inl v2), (3, .inl v3)]) (st' := [.inr (.inr (some v0)), .inl ((v1 - (1 : Int32)) * (t4 - (1 : Int32)))]) (pc' := 11) rfl ?_
  refine Wx.getI ok kX7_placeOf 9 rfl lk_RX7_211_0 h (fun t11 h => ?_)
  refine Wx.run ok kX7_placeOf 10 5 (lv' := [(0, .inr (.inr (some v0))), (1, .inl v1), (2, .inl v2), (3, .inl v3)]) (st' := [.inr (.inr (some v0)), .inl (v2 - (1 : Int32)), .inl (((v1 - (1 : Int32)) * (t4 - (1 : Int32))) * t11)]) (pc' := 19) rfl ?_
  refine Wx.getI ok kX7_placeOf 15 rfl lk_RX7_211_0 h (fun t19 h => ?_)
  refine Wx.run ok kX7_placeOf 16 4 (lv' := [(0, .inr (.inr (some v0))), (1, .inl v1), (2, .inl v2), (3, .inl v3)]) (st' := [.inl (((((v1 - (1 : Int32)) * (t4 - (1 : Int32))) * t11) + ((v2 - (1 : Int32)) * t19)) + v3)]) (pc' := 26) rfl ?_
  exact Wx.ireturn ok kX7_placeOf 20 rfl hres h (by decide)
set_option maxRecDepth 100000 in
set_option maxHeartbeats 4000000 in
theorem aX7_power_h4 {X : gX} (ok : gOk X cX7_power RX7 4 (some .int) rmX7_power) {res : Int32 × gW} (hres : gRs X (some (.int res.1)) res.2) {F : Nat} (r : Int32 → Int32 → Int32 → Int32 → gW → Option (Int32 × gW)) (hr : ∀ (v0 : Int32) (v1 : Int32) (v2 : Int32) (v3 : Int32) (w : gW), r v0 v1 v2 v3 w = some res → Wx X w 0 0 4 [(0, .inl v0), (1, .inl v1), (2, .inl v2), (3, .inl v3)] []) : ∀ (v0 : Int32) (v1 : Int32) (v2 : Int32) (v3 : Int32) (w : gW), mX7_power_h4 F r v0 v1 v2 v3 w = some res → Wx X w 0 0 4 [(0, .inl v0), (1, .inl v1), (2, .inl v2), (3, .inl v3)] [] := by
  intro v0 v1 v2 v3 w h
  unfold mX7_power_h4 at h
  refine Wx.run ok kX7_power 4 2 (lv' := [(0, .inl v0), (1, .inl v1), (2, .inl v2), (3, .inl v3)]) (st' := [.inl v1, .inl v3]) (pc' := 6) rfl ?_
  refine Wx.icmp_ge ok kX7_power 6 (tgt := 19) rfl (by decide) h (fun hc6 h => ?_) (fun hc6 h => ?_)
  · refine Wx.run ok kX7_power 13 1 (lv' := [(0, .inl v0), (1, .inl v1), (2, .inl v2), (3, .inl v3)]) (st' := [.inl v2]) (pc' := 20) rfl ?_
    exact Wx.ireturn ok kX7_power 14 rfl hres h (by decide)
  · refine Wx.run ok kX7_power 7 5 (lv' := [(3, .inl (v3 + (1 : Int32))), (2, .inl (v2 * v0)), (0, .inl v0), (1, .inl v1)]) (st' := []) (pc' := 16) rfl ?_
    refine Wx.jump ok kX7_power 12 (tgt := 4) rfl (by decide) ?_
    refine Wx.sub [2, 3, 1, 0] rfl ?_
    exact hr _ _ _ _ _ h
set_option maxRecDepth 100000 in
set_option maxHeartbeats 4000000 in
theorem aX7_power_l4 {X : gX} (ok : gOk X cX7_power RX7 4 (some .int) rmX7_power) {res : Int32 × gW} (hres : gRs X (some (.int res.1)) res.2) {F : Nat} : ∀ (n : Nat) (v0 : Int32) (v1 : Int32) (v2 : Int32) (v3 : Int32) (w : gW), mX7_power_l4 F n v0 v1 v2 v3 w = some res → Wx X w 0 0 4 [(0, .inl v0), (1, .inl v1), (2, .inl v2), (3, .inl v3)] [] := by
  intro n
  induction n with
  | zero => intro v0 v1 v2 v3 w h; cases (show (none : Option (Int32 × gW)) = some res from h)
  | succ n ih =>
    intro v0 v1 v2 v3 w h
    exact aX7_power_h4 ok hres (F := F) (mX7_power_l4 F n) ih v0 v1 v2 v3 w h
set_option maxRecDepth 100000 in
set_option maxHeartbeats 4000000 in
theorem aX7_power (l : Launch) (G : gG) {F : Nat} {v0 : Int32} {v1 : Int32} {w : gW} {res : Int32 × gW} (h : mX7_power F v0 v1 w = some res) : gM l yX7_power cX7_power 4 (some .int) rmX7_power G w (gTs [.inl v0, .inl v1]) (some (.int res.1)) res.2 := by
  refine gM_of (y := yX7_power) (by decide +kernel) (Nat.le_of_ble_eq_true rfl) ?_
  intro X ok hl hG hres hnm
  subst hl; subst hG
  unfold mX7_power at h
  show Wx X w 0 0 0 [(0, .inl v0), (1, .inl v1)] []
  refine Wx.run ok kX7_power 0 4 (lv' := [(3, .inl (0 : Int32)), (2, .inl (1 : Int32)), (0, .inl v0), (1, .inl v1)]) (st' := []) (pc' := 4) rfl ?_
  refine Wx.sub [2, 3, 1, 0] rfl ?_
  refine aX7_power_l4 ok hres (F := F) F _ _ _ _ _ h
set_option maxRecDepth 100000 in
set_option maxHeartbeats 4000000 in
theorem aX7_prod (l : Launch) (G : gG) {F : Nat} {v0 : Nat} {v1 : Int32} {v2 : Int32} {v3 : Int32} {w : gW} {res : Int32 × gW} (h : mX7_prod F v0 v1 v2 v3 w = some res) : gM l yX7_prod cX7_prod 4 (some .int) rmX7_prod G w (gTs [.inr (.inr (some v0)), .inl v1, .inl v2, .inl v3]) (some (.int res.1)) res.2 := by
  refine gM_of (y := yX7_prod) (by decide +kernel) (Nat.le_of_ble_eq_true rfl) ?_
  intro X ok hl hG hres hnm
  subst hl; subst hG
  unfold mX7_prod at h
  show Wx X w 0 0 0 [(0, .inr (.inr (some v0))), (1, .inl v1), (2, .inl v2), (3, .inl v3)] []
  refine Wx.run ok kX7_prod 0 1 (lv' := [(0, .inr (.inr (some v0))), (1, .inl v1), (2, .inl v2), (3, .inl v3)]) (st' := [.inr (.inr (some v0))]) (pc' := 1) rfl ?_
  refine Wx.getR ok kX7_prod 1 rfl lk_RX7_14_0 h (fun t1 h => ?_)
  refine Wx.run ok kX7_prod 2 9 (lv' := [(0, .inr (.inr (some v0))), (1, .inl v1), (2, .inl v2), (3, .inl v3)]) (st' := [.inl ((((5184 : Int32) * v1) + ((72 : Int32) * v2)) + v3), .inr (.inr t1)]) (pc' := 16) rfl ?_
  refine Wx.iald ok kX7_prod 11 rfl h (fun t16 h => ?_)
  exact Wx.ireturn ok kX7_prod 12 rfl hres h (by decide)
set_option maxRecDepth 100000 in
set_option maxHeartbeats 4000000 in
theorem aX7_reduceLine_h24 {X : gX} (ok : gOk X cX7_reduceLine RX7 4 none rmX7_reduceLine) {res : gW} (hres : gRs X none res) {F : Nat} (r : Nat → Int32 → Int32 → Int32 → gW → Option (gW)) (k78 : Nat → Int32 → gW → Option (gW)) (hr : ∀ (v0 : Nat) (v1 : Int32) (v2 : Int32) (v3 : Int32) (w : gW), r v0 v1 v2 v3 w = some res → Wx X w 0 0 24 [(0, .inr (.inr (some v0))), (1, .inl v1), (2, .inl v2), (3, .inl v3)] []) (hk78 : ∀ (v0 : Nat) (v1 : Int32) (w : gW), k78 v0 v1 w = some res → Wx X w 0 0 78 [(0, .inr (.inr (some v0))), (1, .inl v1)] []) : ∀ (v0 : Nat) (v1 : Int32) (v2 : Int32) (v3 : Int32) (w : gW), mX7_reduceLine_h24 F r k78 v0 v1 v2 v3 w = some res → Wx X w 0 0 24 [(0, .inr (.inr (some v0))), (1, .inl v1), (2, .inl v2), (3, .inl v3)] [] := by
  intro v0 v1 v2 v3 w h
  unfold mX7_reduceLine_h24 at h
  refine Wx.run ok kX7_reduceLine 16 2 (lv' := [(0, .inr (.inr (some v0))), (1, .inl v1), (2, .inl v2), (3, .inl v3)]) (st' := [.inr (.inr (some v0)), .inl v3]) (pc' := 26) rfl ?_
  refine Wx.getI ok kX7_reduceLine 18 rfl lk_RX7_202_0 h (fun t26 h => ?_)
  refine Wx.icmp_ge ok kX7_reduceLine 19 (tgt := 78) rfl (by decide) h (fun hc29 h => ?_) (fun hc29 h => ?_)
  · refine Wx.sub [0, 1] rfl ?_
    exact hk78 _ _ _ h
  · refine Wx.run ok kX7_reduceLine 20 1 (lv' := [(0, .inr (.inr (some v0))), (1, .inl v1), (2, .inl v2), (3, .inl v3)]) (st' := [.inl v2]) (pc' := 33) rfl ?_
    refine Wx.if_le ok kX7_reduceLine 21 (tgt := 78) rfl (by decide) h (fun hc33 h => ?_) (fun hc33 h => ?_)
    · refine Wx.sub [0, 1] rfl ?_
      exact hk78 _ _ _ h
    · refine Wx.run ok kX7_reduceLine 22 1 (lv' := [(0, .inr (.inr (some v0))), (1, .inl v1), (2, .inl v2), (3, .inl v3)]) (st' := [.inr (.inr (some v0))]) (pc' := 37) rfl ?_
      refine Wx.getR ok kX7_reduceLine 23 rfl lk_RX7_67_0 h (fun t37 h => ?_)
      refine Wx.run ok kX7_reduceLine 24 2 (lv' := [(0, .inr (.inr (some v0))), (1, .inl v1), (2, .inl v2), (3, .inl v3)]) (st' := [.inr (.inr (some v0)), .inl v3, .inr (.inr t37)]) (pc' := 42) rfl ?_
      refine Wx.getR ok kX7_reduceLine 26 rfl lk_RX7_67_0 h (fun t42 h => ?_)
      refine Wx.run ok kX7_reduceLine 27 1 (lv' := [(0, .inr (.inr (some v0))), (1, .inl v1), (2, .inl v2), (3, .inl v3)]) (st' := [.inl v3, .inr (.inr t42), .inl v3, .inr (.inr t37)]) (pc' := 46) rfl ?_
      refine Wx.iald ok kX7_reduceLine 28 rfl h (fun t46 h => ?_)
      refine Wx.run ok kX7_reduceLine 29 1 (lv' := [(0, .inr (.inr (some v0))), (1, .inl v1), (2, .inl v2), (3, .inl v3)]) (st' := [.inr (.inr (some v0)), .inl t46, .inl v3, .inr (.inr t37)]) (pc' := 48) rfl ?_
      refine Wx.getI ok kX7_reduceLine 30 rfl lk_RX7_196_0 h (fun t48 h => ?_)
      refine Wx.run ok kX7_reduceLine 31 3 (lv' := [(0, .inr (.inr (some v0))), (1, .inl v1), (2, .inl v2), (3, .inl v3)]) (st' := [.inr (.inr (some v0)), .inl (t48 - v2), .inl t46, .inl v3, .inr (.inr t37)]) (pc' := 54) rfl ?_
      refine Wx.getR ok kX7_reduceLine 34 rfl lk_RX7_70_0 h (fun t54 h => ?_)
      refine Wx.run ok kX7_reduceLine 35 5 (lv' := [(0, .inr (.inr (some v0))), (1, .inl v1), (2, .inl v2), (3, .inl v3)]) (st' := [.inl (((98 : Int32) * v1) + v3), .inr (.inr t54), .inl (t48 - v2), .inl t46, .inl v3, .inr (.inr t37)]) (pc' := 63) rfl ?_
      refine Wx.iald ok kX7_reduceLine 40 rfl h (fun t63 h => ?_)
      refine Wx.run ok kX7_reduceLine 41 3 (lv' := [(0, .inr (.inr (some v0))), (1, .inl v1), (2, .inl v2), (3, .inl v3)]) (st' := [.inr (.inr (some v0)), .inl (t46 + ((t48 - v2) * t63)), .inl v3, .inr (.inr t37)]) (pc' := 67) rfl ?_
      refine Wx.getI ok kX7_reduceLine 44 rfl lk_RX7_196_0 h (fun t67 h => ?_)
      refine Wx.irem ok kX7_reduceLine 45 rfl h (fun t70 h => ?_)
      refine Wx.iast ok kX7_reduceLine 46 rfl h (fun w71 h => ?_)
      refine Wx.run ok kX7_reduceLine 47 1 (lv' := [(3, .inl (v3 + (1 : Int32))), (0, .inr (.inr (some v0))), (1, .inl v1), (2, .inl v2)]) (st' := []) (pc' := 75) rfl ?_
      refine Wx.jump ok kX7_reduceLine 48 (tgt := 24) rfl (by decide) ?_
      refine Wx.sub [1, 2, 3, 0] rfl ?_
      exact hr _ _ _ _ _ h
set_option maxRecDepth 100000 in
set_option maxHeartbeats 4000000 in
theorem aX7_reduceLine_l24 {X : gX} (ok : gOk X cX7_reduceLine RX7 4 none rmX7_reduceLine) {res : gW} (hres : gRs X none res) {F : Nat} (k78 : Nat → Int32 → gW → Option (gW)) (hk78 : ∀ (v0 : Nat) (v1 : Int32) (w : gW), k78 v0 v1 w = some res → Wx X w 0 0 78 [(0, .inr (.inr (some v0))), (1, .inl v1)] []) : ∀ (n : Nat) (v0 : Nat) (v1 : Int32) (v2 : Int32) (v3 : Int32) (w : gW), mX7_reduceLine_l24 F k78 n v0 v1 v2 v3 w = some res → Wx X w 0 0 24 [(0, .inr (.inr (some v0))), (1, .inl v1), (2, .inl v2), (3, .inl v3)] [] := by
  intro n
  induction n with
  | zero => intro v0 v1 v2 v3 w h; cases (show (none : Option (gW)) = some res from h)
  | succ n ih =>
    intro v0 v1 v2 v3 w h
    exact aX7_reduceLine_h24 ok hres (F := F) (mX7_reduceLine_l24 F k78 n) k78 ih hk78 v0 v1 v2 v3 w h
set_option maxRecDepth 100000 in
set_option maxHeartbeats 4000000 in
theorem aX7_reduceLine_b78 {X : gX} (ok : gOk X cX7_reduceLine RX7 4 none rmX7_reduceLine) {res : gW} (hres : gRs X none res) {F : Nat} (r : Nat → Int32 → gW → Option (gW)) (hr : ∀ (v0 : Nat) (v1 : Int32) (w : gW), r v0 v1 w = some res → Wx X w 0 0 2 [(0, .inr (.inr (some v0))), (1, .inl v1)] []) : ∀ (v0 : Nat) (v1 : Int32) (w : gW), mX7_reduceLine_b78 F r v0 v1 w = some res → Wx X w 0 0 78 [(0, .inr (.inr (some v0))), (1, .inl v1)] [] := by
  intro v0 v1 w h
  unfold mX7_reduceLine_b78 at h
  refine Wx.run ok kX7_reduceLine 49 1 (lv' := [(1, .inl (v1 + (1 : Int32))), (0, .inr (.inr (some v0)))]) (st' := []) (pc' := 81) rfl ?_
  refine Wx.jump ok kX7_reduceLine 50 (tgt := 2) rfl (by decide) ?_
  refine Wx.sub [1, 0] rfl ?_
  exact hr _ _ _ h
set_option maxRecDepth 100000 in
set_option maxHeartbeats 4000000 in
theorem aX7_reduceLine_h2 {X : gX} (ok : gOk X cX7_reduceLine RX7 4 none rmX7_reduceLine) {res : gW} (hres : gRs X none res) {F : Nat} (r : Nat → Int32 → gW → Option (gW)) (hr : ∀ (v0 : Nat) (v1 : Int32) (w : gW), r v0 v1 w = some res → Wx X w 0 0 2 [(0, .inr (.inr (some v0))), (1, .inl v1)] []) : ∀ (v0 : Nat) (v1 : Int32) (w : gW), mX7_reduceLine_h2 F r v0 v1 w = some res → Wx X w 0 0 2 [(0, .inr (.inr (some v0))), (1, .inl v1)] [] := by
  intro v0 v1 w h
  unfold mX7_reduceLine_h2 at h
  refine Wx.run ok kX7_reduceLine 2 2 (lv' := [(0, .inr (.inr (some v0))), (1, .inl v1)]) (st' := [.inr (.inr (some v0)), .inl v1]) (pc' := 4) rfl ?_
  refine Wx.getI ok kX7_reduceLine 4 rfl lk_RX7_199_0 h (fun t4 h => ?_)
  refine Wx.icmp_ge ok kX7_reduceLine 5 (tgt := 84) rfl (by decide) h (fun hc7 h => ?_) (fun hc7 h => ?_)
  · exact Wx.vreturn ok kX7_reduceLine 51 rfl hres h (by decide)
  · refine Wx.run ok kX7_reduceLine 6 1 (lv' := [(0, .inr (.inr (some v0))), (1, .inl v1)]) (st' := [.inr (.inr (some v0))]) (pc' := 11) rfl ?_
    refine Wx.getR ok kX7_reduceLine 7 rfl lk_RX7_67_0 h (fun t11 h => ?_)
    refine Wx.run ok kX7_reduceLine 8 1 (lv' := [(0, .inr (.inr (some v0))), (1, .inl v1)]) (st' := [.inr (.inr (some v0)), .inr (.inr t11)]) (pc' := 15) rfl ?_
    refine Wx.getR ok kX7_reduceLine 9 rfl lk_RX7_73_0 h (fun t15 h => ?_)
    refine Wx.run ok kX7_reduceLine 10 1 (lv' := [(0, .inr (.inr (some v0))), (1, .inl v1)]) (st' := [.inl v1, .inr (.inr t15), .inr (.inr t11)]) (pc' := 19) rfl ?_
    refine Wx.iald ok kX7_reduceLine 11 rfl h (fun t19 h => ?_)
    refine Wx.iald ok kX7_reduceLine 12 rfl h (fun t20 h => ?_)
    refine Wx.run ok kX7_reduceLine 13 3 (lv' := [(3, .inl (0 : Int32)), (2, .inl t20), (0, .inr (.inr (some v0))), (1, .inl v1)]) (st' := []) (pc' := 24) rfl ?_
    refine Wx.sub [2, 3, 1, 0] rfl ?_
    refine aX7_reduceLine_l24 ok hres (F := F) _ ?_ F _ _ _ _ _ h
    · intro v0 v1 w h
      exact aX7_reduceLine_b78 ok hres (F := F) r hr _ _ _ h
set_option maxRecDepth 100000 in
set_option maxHeartbeats 4000000 in
theorem aX7_reduceLine_l2 {X : gX} (ok : gOk X cX7_reduceLine RX7 4 none rmX7_reduceLine) {res : gW} (hres : gRs X none res) {F : Nat} : ∀ (n : Nat) (v0 : Nat) (v1 : Int32) (w : gW), mX7_reduceLine_l2 F n v0 v1 w = some res → Wx X w 0 0 2 [(0, .inr (.inr (some v0))), (1, .inl v1)] [] := by
  intro n
  induction n with
  | zero => intro v0 v1 w h; cases (show (none : Option (gW)) = some res from h)
  | succ n ih =>
    intro v0 v1 w h
    exact aX7_reduceLine_h2 ok hres (F := F) (mX7_reduceLine_l2 F n) ih v0 v1 w h
set_option maxRecDepth 100000 in
set_option maxHeartbeats 4000000 in
theorem aX7_reduceLine (l : Launch) (G : gG) {F : Nat} {v0 : Nat} {w : gW} {res : gW} (h : mX7_reduceLine F v0 w = some res) : gM l yX7_reduceLine cX7_reduceLine 4 none rmX7_reduceLine G w (gTs [.inr (.inr (some v0))]) none res := by
  refine gM_of (y := yX7_reduceLine) (by decide +kernel) (Nat.le_of_ble_eq_true rfl) ?_
  intro X ok hl hG hres hnm
  subst hl; subst hG
  unfold mX7_reduceLine at h
  show Wx X w 0 0 0 [(0, .inr (.inr (some v0)))] []
  refine Wx.run ok kX7_reduceLine 0 2 (lv' := [(1, .inl (0 : Int32)), (0, .inr (.inr (some v0)))]) (st' := []) (pc' := 2) rfl ?_
  refine Wx.sub [1, 0] rfl ?_
  refine aX7_reduceLine_l2 ok hres (F := F) F _ _ _ h
set_option maxRecDepth 100000 in
set_option maxHeartbeats 4000000 in
theorem aX7_set (l : Launch) (G : gG) {F : Nat} {v0 : Nat} {v1 : Int32} {v2 : Int32} {v3 : Int32} {w : gW} {res : gW} (h : mX7_set F v0 v1 v2 v3 w = some res) : gM l yX7_set cX7_set 4 none rmX7_set G w (gTs [.inr (.inr (some v0)), .inl v1, .inl v2, .inl v3]) none res := by
  refine gM_of (y := yX7_set) (by decide +kernel) (Nat.le_of_ble_eq_true rfl) ?_
  intro X ok hl hG hres hnm
  subst hl; subst hG
  unfold mX7_set at h
  show Wx X w 0 0 0 [(0, .inr (.inr (some v0))), (1, .inl v1), (2, .inl v2), (3, .inl v3)] []
  refine Wx.run ok kX7_set 0 1 (lv' := [(0, .inr (.inr (some v0))), (1, .inl v1), (2, .inl v2), (3, .inl v3)]) (st' := [.inr (.inr (some v0))]) (pc' := 1) rfl ?_
  refine Wx.getR ok kX7_set 1 rfl lk_RX7_14_0 h (fun t1 h => ?_)
  refine Wx.run ok kX7_set 2 2 (lv' := [(0, .inr (.inr (some v0))), (1, .inl v1), (2, .inl v2), (3, .inl v3)]) (st' := [.inr (.inr (some v0)), .inl (5184 : Int32), .inr (.inr t1)]) (pc' := 8) rfl ?_
  refine Wx.getI ok kX7_set 4 rfl lk_RX7_95_0 h (fun t8 h => ?_)
  refine Wx.run ok kX7_set 5 8 (lv' := [(0, .inr (.inr (some v0))), (1, .inl v1), (2, .inl v2), (3, .inl v3)]) (st' := [.inl v3, .inl ((((5184 : Int32) * t8) + ((72 : Int32) * v1)) + v2), .inr (.inr t1)]) (pc' := 20) rfl ?_
  refine Wx.iast ok kX7_set 13 rfl h (fun w20 h => ?_)
  exact Wx.vreturn ok kX7_set 14 rfl hres h (by decide)
set_option maxRecDepth 100000 in
set_option maxHeartbeats 4000000 in
theorem aX7_start (l : Launch) (G : gG) {F : Nat} {v0 : Nat} {v1 : Int32} {w : gW} {res : gW} (h : mX7_start F v0 v1 w = some res) : gM l yX7_start cX7_start 2 none rmX7_start G w (gTs [.inr (.inr (some v0)), .inl v1]) none res := by
  refine gM_of (y := yX7_start) (by decide +kernel) (Nat.le_of_ble_eq_true rfl) ?_
  intro X ok hl hG hres hnm
  subst hl; subst hG
  unfold mX7_start at h
  show Wx X w 0 0 0 [(0, .inr (.inr (some v0))), (1, .inl v1)] []
  refine Wx.run ok kX7_start 0 2 (lv' := [(0, .inr (.inr (some v0))), (1, .inl v1)]) (st' := [.inl v1, .inr (.inr (some v0))]) (pc' := 2) rfl ?_
  refine Wx.put ok kX7_start 2 rfl lk_RX7_214_1 (gFit_i _) h (fun w2 h => ?_)
  refine Wx.run ok kX7_start 3 2 (lv' := [(0, .inr (.inr (some v0))), (1, .inl v1)]) (st' := [.inr (.inr (some v0)), .inr (.inr (some v0))]) (pc' := 7) rfl ?_
  refine Wx.getR ok kX7_start 5 rfl lk_RX7_29_0 h (fun t7 h => ?_)
  refine Wx.run ok kX7_start 6 1 (lv' := [(0, .inr (.inr (some v0))), (1, .inl v1)]) (st' := [.inl v1, .inr (.inr t7), .inr (.inr (some v0))]) (pc' := 11) rfl ?_
  refine Wx.iald ok kX7_start 7 rfl h (fun t11 h => ?_)
  refine Wx.put ok kX7_start 8 rfl lk_RX7_217_1 (gFit_i _) h (fun w12 h => ?_)
  refine Wx.run ok kX7_start 9 2 (lv' := [(0, .inr (.inr (some v0))), (1, .inl v1)]) (st' := [.inr (.inr (some v0)), .inr (.inr (some v0))]) (pc' := 17) rfl ?_
  refine Wx.getR ok kX7_start 11 rfl lk_RX7_7_0 h (fun t17 h => ?_)
  refine Wx.run ok kX7_start 12 1 (lv' := [(0, .inr (.inr (some v0))), (1, .inl v1)]) (st' := [.inr (.inr (some v0)), .inr (.inr t17), .inr (.inr (some v0))]) (pc' := 21) rfl ?_
  refine Wx.getI ok kX7_start 13 rfl lk_RX7_217_0 h (fun t21 h => ?_)
  refine Wx.iald ok kX7_start 14 rfl h (fun t24 h => ?_)
  refine Wx.put ok kX7_start 15 rfl lk_RX7_208_1 (gFit_i _) h (fun w25 h => ?_)
  refine Wx.run ok kX7_start 16 2 (lv' := [(0, .inr (.inr (some v0))), (1, .inl v1)]) (st' := [.inr (.inr (some v0)), .inr (.inr (some v0))]) (pc' := 30) rfl ?_
  refine Wx.getR ok kX7_start 18 rfl lk_RX7_35_0 h (fun t30 h => ?_)
  refine Wx.run ok kX7_start 19 1 (lv' := [(0, .inr (.inr (some v0))), (1, .inl v1)]) (st' := [.inl v1, .inr (.inr t30), .inr (.inr (some v0))]) (pc' := 34) rfl ?_
  refine Wx.iald ok kX7_start 20 rfl h (fun t34 h => ?_)
  refine Wx.put ok kX7_start 21 rfl lk_RX7_211_1 (gFit_i _) h (fun w35 h => ?_)
  refine Wx.run ok kX7_start 22 2 (lv' := [(0, .inr (.inr (some v0))), (1, .inl v1)]) (st' := [.inr (.inr (some v0)), .inr (.inr (some v0))]) (pc' := 40) rfl ?_
  refine Wx.getR ok kX7_start 24 rfl lk_RX7_32_0 h (fun t40 h => ?_)
  refine Wx.run ok kX7_start 25 1 (lv' := [(0, .inr (.inr (some v0))), (1, .inl v1)]) (st' := [.inl v1, .inr (.inr t40), .inr (.inr (some v0))]) (pc' := 44) rfl ?_
  refine Wx.iald ok kX7_start 26 rfl h (fun t44 h => ?_)
  refine Wx.put ok kX7_start 27 rfl lk_RX7_196_1 (gFit_i _) h (fun w45 h => ?_)
  exact Wx.vreturn ok kX7_start 28 rfl hres h (by decide)
set_option maxRecDepth 100000 in
set_option maxHeartbeats 4000000 in
theorem aX0_begin_b55 {X : gX} (ok : gOk X cX0_begin RX0 5 none rmX0_begin) {res : gW} (hres : gRs X none res) {F : Nat} (r : Nat → Int32 → Int32 → gW → Option (gW)) (hr : ∀ (v0 : Nat) (v3 : Int32) (v4 : Int32) (w : gW), r v0 v3 v4 w = some res → Wx X w 0 0 27 [(0, .inr (.inr (some v0))), (3, .inl v3), (4, .inl v4)] []) : ∀ (v0 : Nat) (v3 : Int32) (v4 : Int32) (s0 : Option Nat) (s1 : Int32) (s2 : Int32) (s3 : Int32) (s4 : Int32) (s5 : Int32) (w : gW), mX0_begin_b55 F r v0 v3 v4 s0 s1 s2 s3 s4 s5 w = some res → Wx X w 0 0 55 [(0, .inr (.inr (some v0))), (3, .inl v3), (4, .inl v4)] [.inl s5, .inl s4, .inl s3, .inl s2, .inl s1, .inr (.inr s0)] := by
  intro v0 v3 v4 s0 s1 s2 s3 s4 s5 w h
  unfold mX0_begin_b55 at h
  obtain ⟨a55, ha55, h⟩ := gob h
  obtain ⟨q55, hq55, h⟩ := gob h
  refine Wx.callV ok kX0_begin 32 rfl lm_RX0_45 cd_X0_put ha55 [.inl s1, .inl s2, .inl s3, .inl s4, .inl s5] none (aX0_put _ _ hq55) (by decide) rfl (Nat.le_of_ble_eq_true rfl) rfl rfl ?_
  refine Wx.run ok kX0_begin 33 1 (lv' := [(4, .inl (v4 + (1 : Int32))), (0, .inr (.inr (some v0))), (3, .inl v3)]) (st' := []) (pc' := 61) rfl ?_
  refine Wx.jump ok kX0_begin 34 (tgt := 27) rfl (by decide) ?_
  refine Wx.sub [1, 2, 0] rfl ?_
  exact hr _ _ _ _ h
set_option maxRecDepth 100000 in
set_option maxHeartbeats 4000000 in
theorem aX0_begin_h27 {X : gX} (ok : gOk X cX0_begin RX0 5 none rmX0_begin) {res : gW} (hres : gRs X none res) {F : Nat} (r : Nat → Int32 → Int32 → gW → Option (gW)) (hr : ∀ (v0 : Nat) (v3 : Int32) (v4 : Int32) (w : gW), r v0 v3 v4 w = some res → Wx X w 0 0 27 [(0, .inr (.inr (some v0))), (3, .inl v3), (4, .inl v4)] []) : ∀ (v0 : Nat) (v3 : Int32) (v4 : Int32) (w : gW), mX0_begin_h27 F r v0 v3 v4 w = some res → Wx X w 0 0 27 [(0, .inr (.inr (some v0))), (3, .inl v3), (4, .inl v4)] [] := by
  intro v0 v3 v4 w h
  unfold mX0_begin_h27 at h
  refine Wx.run ok kX0_begin 16 2 (lv' := [(0, .inr (.inr (some v0))), (3, .inl v3), (4, .inl v4)]) (st' := [.inr (.inr (some v0)), .inl v4]) (pc' := 30) rfl ?_
  refine Wx.getR ok kX0_begin 18 rfl lk_RX0_22_0 h (fun t30 h => ?_)
  refine Wx.getI ok kX0_begin 19 rfl lk_RX0_40_0 h (fun t33 h => ?_)
  refine Wx.icmp_ge ok kX0_begin 20 (tgt := 64) rfl (by decide) h (fun hc36 h => ?_) (fun hc36 h => ?_)
  · exact Wx.vreturn ok kX0_begin 35 rfl hres h (by decide)
  · refine Wx.run ok kX0_begin 21 7 (lv' := [(0, .inr (.inr (some v0))), (3, .inl v3), (4, .inl v4)]) (st' := [.inl (1 : Int32), .inl v3, .inl (0 : Int32), .inl (0 : Int32), .inl (1 : Int32), .inl v4, .inr (.inr (some v0))]) (pc' := 47) rfl ?_
    refine Wx.icmp_ne ok kX0_begin 28 (tgt := 54) rfl (by decide) h (fun hc47 h => ?_) (fun hc47 h => ?_)
    · refine Wx.run ok kX0_begin 29 1 (lv' := [(0, .inr (.inr (some v0))), (3, .inl v3), (4, .inl v4)]) (st' := [.inl (0 : Int32), .inl (0 : Int32), .inl (0 : Int32), .inl (1 : Int32), .inl v4, .inr (.inr (some v0))]) (pc' := 51) rfl ?_
      refine Wx.jump ok kX0_begin 30 (tgt := 55) rfl (by decide) ?_
      exact aX0_begin_b55 ok hres (F := F) r hr _ _ _ _ _ _ _ _ _ _ h
    · refine Wx.run ok kX0_begin 31 1 (lv' := [(0, .inr (.inr (some v0))), (3, .inl v3), (4, .inl v4)]) (st' := [.inl (1 : Int32), .inl (0 : Int32), .inl (0 : Int32), .inl (1 : Int32), .inl v4, .inr (.inr (some v0))]) (pc' := 55) rfl ?_
      exact aX0_begin_b55 ok hres (F := F) r hr _ _ _ _ _ _ _ _ _ _ h
set_option maxRecDepth 100000 in
set_option maxHeartbeats 4000000 in
theorem aX0_begin_l27 {X : gX} (ok : gOk X cX0_begin RX0 5 none rmX0_begin) {res : gW} (hres : gRs X none res) {F : Nat} : ∀ (n : Nat) (v0 : Nat) (v3 : Int32) (v4 : Int32) (w : gW), mX0_begin_l27 F n v0 v3 v4 w = some res → Wx X w 0 0 27 [(0, .inr (.inr (some v0))), (3, .inl v3), (4, .inl v4)] [] := by
  intro n
  induction n with
  | zero => intro v0 v3 v4 w h; cases (show (none : Option (gW)) = some res from h)
  | succ n ih =>
    intro v0 v3 v4 w h
    exact aX0_begin_h27 ok hres (F := F) (mX0_begin_l27 F n) ih v0 v3 v4 w h
set_option maxRecDepth 100000 in
set_option maxHeartbeats 4000000 in
theorem aX0_begin (l : Launch) (G : gG) {F : Nat} {v0 : Nat} {v1 : Option Nat} {v2 : Int32} {v3 : Int32} {w : gW} {res : gW} (h : mX0_begin F v0 v1 v2 v3 w = some res) : gM l yX0_begin cX0_begin 5 none rmX0_begin G w (gTs [.inr (.inr (some v0)), .inr (.inr v1), .inl v2, .inl v3]) none res := by
  refine gM_of (y := yX0_begin) (by decide +kernel) (Nat.le_of_ble_eq_true rfl) ?_
  intro X ok hl hG hres hnm
  subst hl; subst hG
  unfold mX0_begin at h
  show Wx X w 0 0 0 [(0, .inr (.inr (some v0))), (1, .inr (.inr v1)), (2, .inl v2), (3, .inl v3)] []
  refine Wx.run ok kX0_begin 0 2 (lv' := [(0, .inr (.inr (some v0))), (1, .inr (.inr v1)), (2, .inl v2), (3, .inl v3)]) (st' := [.inr (.inr v1), .inr (.inr (some v0))]) (pc' := 2) rfl ?_
  refine Wx.put ok kX0_begin 2 rfl lk_RX0_22_1 (gFit_o _ _) h (fun w2 h => ?_)
  refine Wx.run ok kX0_begin 3 2 (lv' := [(0, .inr (.inr (some v0))), (1, .inr (.inr v1)), (2, .inl v2), (3, .inl v3)]) (st' := [.inl v2, .inr (.inr (some v0))]) (pc' := 7) rfl ?_
  refine Wx.put ok kX0_begin 5 rfl lk_RX0_26_1 (gFit_i _) h (fun w7 h => ?_)
  refine Wx.run ok kX0_begin 6 2 (lv' := [(0, .inr (.inr (some v0))), (1, .inr (.inr v1)), (2, .inl v2), (3, .inl v3)]) (st' := [.inl v3, .inr (.inr (some v0))]) (pc' := 12) rfl ?_
  refine Wx.put ok kX0_begin 8 rfl lk_RX0_30_1 (gFit_i _) h (fun w12 h => ?_)
  refine Wx.run ok kX0_begin 9 3 (lv' := [(0, .inr (.inr (some v0))), (1, .inr (.inr v1)), (2, .inl v2), (3, .inl v3)]) (st' := [.inl v3, .inl v2, .inr (.inr (some v0))]) (pc' := 18) rfl ?_
  obtain ⟨q18, hq18, h⟩ := gob h
  refine Wx.callSN ok kX0_begin 12 rfl lm_RX0_33 cd_X6_power [.inl v2, .inl v3] (some (.inl q18.1)) (aX6_power _ _ hq18) (by decide) rfl (Nat.le_of_ble_eq_true rfl) rfl rfl ?_
  refine Wx.put ok kX0_begin 13 rfl lk_RX0_37_1 (gFit_i _) h (fun w21 h => ?_)
  refine Wx.run ok kX0_begin 14 2 (lv' := [(4, .inl (0 : Int32)), (0, .inr (.inr (some v0))), (1, .inr (.inr v1)), (2, .inl v2), (3, .inl v3)]) (st' := []) (pc' := 27) rfl ?_
  refine Wx.sub [1, 4, 0] rfl ?_
  refine aX0_begin_l27 ok hres (F := F) F _ _ _ _ h
set_option maxRecDepth 100000 in
set_option maxHeartbeats 4000000 in
theorem aX1_begin (l : Launch) (G : gG) {F : Nat} {v0 : Nat} {v1 : Int32} {v2 : Int32} {w : gW} {res : gW} (h : mX1_begin F v0 v1 v2 w = some res) : gM l yX1_begin cX1_begin 3 none rmX1_begin G w (gTs [.inr (.inr (some v0)), .inl v1, .inl v2]) none res := by
  refine gM_of (y := yX1_begin) (by decide +kernel) (Nat.le_of_ble_eq_true rfl) ?_
  intro X ok hl hG hres hnm
  subst hl; subst hG
  unfold mX1_begin at h
  show Wx X w 0 0 0 [(0, .inr (.inr (some v0))), (1, .inl v1), (2, .inl v2)] []
  refine Wx.run ok kX1_begin 0 2 (lv' := [(0, .inr (.inr (some v0))), (1, .inl v1), (2, .inl v2)]) (st' := [.inl v1, .inr (.inr (some v0))]) (pc' := 2) rfl ?_
  refine Wx.put ok kX1_begin 2 rfl lk_RX1_27_1 (gFit_i _) h (fun w2 h => ?_)
  refine Wx.run ok kX1_begin 3 2 (lv' := [(0, .inr (.inr (some v0))), (1, .inl v1), (2, .inl v2)]) (st' := [.inl v2, .inr (.inr (some v0))]) (pc' := 7) rfl ?_
  refine Wx.put ok kX1_begin 5 rfl lk_RX1_31_1 (gFit_i _) h (fun w7 h => ?_)
  refine Wx.run ok kX1_begin 6 2 (lv' := [(0, .inr (.inr (some v0))), (1, .inl v1), (2, .inl v2)]) (st' := [.inl (0 : Int32), .inr (.inr (some v0))]) (pc' := 12) rfl ?_
  refine Wx.put ok kX1_begin 8 rfl lk_RX1_34_1 (gFit_i _) h (fun w12 h => ?_)
  refine Wx.run ok kX1_begin 9 1 (lv' := [(0, .inr (.inr (some v0))), (1, .inl v1), (2, .inl v2)]) (st' := [.inr (.inr (some v0))]) (pc' := 16) rfl ?_
  refine Wx.getR ok kX1_begin 10 rfl lk_RX1_9_0 h (fun t16 h => ?_)
  refine Wx.run ok kX1_begin 11 1 (lv' := [(0, .inr (.inr (some v0))), (1, .inl v1), (2, .inl v2)]) (st' := [.inl (-1 : Int32), .inr (.inr t16)]) (pc' := 20) rfl ?_
  obtain ⟨q20, hq20, h⟩ := gob h
  refine Wx.callS ok kX1_begin 12 rfl lm_RX1_37 cd_J7_fill_53178 [.inr (.inr t16), .inl (-1 : Int32)] none (aJ7_fill_53178 _ _ hq20) (by decide) rfl (Nat.le_of_ble_eq_true rfl) rfl rfl ?_
  exact Wx.vreturn ok kX1_begin 13 rfl hres h (by decide)
set_option maxRecDepth 100000 in
set_option maxHeartbeats 4000000 in
theorem aX1_init (l : Launch) (G : gG) {F : Nat} {lim : Nat} (hlim : lim ≤ 98) {v0 : Nat} {v1 : Int32} {w : gW} {res : gW} (h : mX1_init F lim v0 v1 w = some res) : gM l yX1_init cX1_init 3 none (rmX1_init lim) G w (gTs [.inr (.inr (some v0)), .inl v1]) none res := by
  refine gM_of (y := yX1_init) (by decide +kernel) (Nat.le_of_ble_eq_true rfl) ?_
  intro X ok hl hG hres hnm
  subst hl; subst hG
  unfold mX1_init at h
  show Wx X w 0 0 0 [(0, .inr (.inr (some v0))), (1, .inl v1)] []
  refine Wx.run ok kX1_init 0 1 (lv' := [(0, .inr (.inr (some v0))), (1, .inl v1)]) (st' := [.inr (.inr (some v0))]) (pc' := 1) rfl ?_
  refine Wx.objInit ok kX1_init 1 rfl ⟨gw_391, gw_18, gw_19⟩ ⟨Nat.le_of_ble_eq_true rfl, Nat.le_of_ble_eq_true rfl⟩ ?_
  refine Wx.run ok kX1_init 2 2 (lv' := [(0, .inr (.inr (some v0))), (1, .inl v1)]) (st' := [.inl (98 : Int32), .inr (.inr (some v0))]) (pc' := 7) rfl ?_
  refine Wx.newI ok kX1_init 4 rfl gw_45 h (by decide) (by constructor <;> simp only [rmX1_init] <;> omega) (fun w7 h => ?_)
  refine Wx.putF ok kX1_init 5 rfl lk_RX1_9_2 hnm (gFit_a _ _) h (fun w9 h => ?_)
  refine Wx.run ok kX1_init 6 2 (lv' := [(0, .inr (.inr (some v0))), (1, .inl v1)]) (st' := [.inl (0 : Int32), .inl v1]) (pc' := 14) rfl ?_
  obtain ⟨q14, hq14, h⟩ := gob h
  refine Wx.callS ok kX1_init 8 rfl lm_RX1_15 cd_J9_max_7cf53 [.inl v1, .inl (0 : Int32)] (some (.inl q14.1)) (aJ9_max_7cf53 _ _ hq14) (by refine ⟨?_, ?_, ?_, ?_⟩ <;> simp only [rmJ9_max_7cf53, rmX1_init] <;> omega) rfl (Nat.le_of_ble_eq_true rfl) rfl rfl ?_
  refine Wx.run ok kX1_init 9 5 (lv' := [(2, .inl q14.1), (0, .inr (.inr (some v0))), (1, .inl v1)]) (st' := [.inl (q14.1 * (98 : Int32)), .inr (.inr (some v0))]) (pc' := 23) rfl ?_
  refine Wx.newI ok kX1_init 14 rfl gw_45 h (by omega) (by constructor <;> simp only [rmX1_init] <;> omega) (fun w23 h => ?_)
  refine Wx.putF ok kX1_init 15 rfl lk_RX1_21_2 hnm (gFit_a _ _) h (fun w25 h => ?_)
  refine Wx.run ok kX1_init 16 2 (lv' := [(2, .inl q14.1), (0, .inr (.inr (some v0))), (1, .inl v1)]) (st' := [.inl q14.1, .inr (.inr (some v0))]) (pc' := 30) rfl ?_
  refine Wx.newI ok kX1_init 18 rfl gw_45 h (by omega) (by constructor <;> simp only [rmX1_init] <;> omega) (fun w30 h => ?_)
  refine Wx.putF ok kX1_init 19 rfl lk_RX1_24_2 hnm (gFit_a _ _) h (fun w32 h => ?_)
  exact Wx.vreturn ok kX1_init 20 rfl hres h (by constructor <;> simp only [rmX1_init] <;> omega)
set_option maxRecDepth 100000 in
set_option maxHeartbeats 4000000 in
theorem aX1_leadingNumber (l : Launch) (G : gG) {F : Nat} {v0 : Nat} {v1 : Int32} {v2 : Int32} {w : gW} {res : Int32 × gW} (h : mX1_leadingNumber F v0 v1 v2 w = some res) : gM l yX1_leadingNumber cX1_leadingNumber 3 (some .int) rmX1_leadingNumber G w (gTs [.inr (.inr (some v0)), .inl v1, .inl v2]) (some (.int res.1)) res.2 := by
  refine gM_of (y := yX1_leadingNumber) (by decide +kernel) (Nat.le_of_ble_eq_true rfl) ?_
  intro X ok hl hG hres hnm
  subst hl; subst hG
  unfold mX1_leadingNumber at h
  show Wx X w 0 0 0 [(0, .inr (.inr (some v0))), (1, .inl v1), (2, .inl v2)] []
  refine Wx.run ok kX1_leadingNumber 0 2 (lv' := [(0, .inr (.inr (some v0))), (1, .inl v1), (2, .inl v2)]) (st' := [.inr (.inr (some v0)), .inr (.inr (some v0))]) (pc' := 2) rfl ?_
  refine Wx.getR ok kX1_leadingNumber 2 rfl lk_RX1_9_0 h (fun t2 h => ?_)
  refine Wx.run ok kX1_leadingNumber 3 1 (lv' := [(0, .inr (.inr (some v0))), (1, .inl v1), (2, .inl v2)]) (st' := [.inl v1, .inr (.inr t2), .inr (.inr (some v0))]) (pc' := 6) rfl ?_
  refine Wx.iald ok kX1_leadingNumber 4 rfl h (fun t6 h => ?_)
  refine Wx.run ok kX1_leadingNumber 5 1 (lv' := [(0, .inr (.inr (some v0))), (1, .inl v1), (2, .inl v2)]) (st' := [.inl v2, .inl t6, .inr (.inr (some v0))]) (pc' := 8) rfl ?_
  obtain ⟨a8, ha8, h⟩ := gob h
  obtain ⟨q8, hq8, h⟩ := gob h
  refine Wx.callV ok kX1_leadingNumber 6 rfl lm_RX1_43 cd_X1_number ha8 [.inl t6, .inl v2] (some (.inl q8.1)) (aX1_number _ _ hq8) (by decide) rfl (Nat.le_of_ble_eq_true rfl) rfl rfl ?_
  exact Wx.ireturn ok kX1_leadingNumber 7 rfl hres h (by decide)
set_option maxRecDepth 100000 in
set_option maxHeartbeats 4000000 in
theorem aX2_countCommuting_b30 {X : gX} (ok : gOk X cX2_countCommuting RX2 4 (some .int) rmX2_countCommuting) {res : Int32 × gW} (hres : gRs X (some (.int res.1)) res.2) {F : Nat} (r : Nat → Int32 → Int32 → Int32 → gW → Option (Int32 × gW)) (hr : ∀ (v0 : Nat) (v1 : Int32) (v2 : Int32) (v3 : Int32) (w : gW), r v0 v1 v2 v3 w = some res → Wx X w 0 0 4 [(0, .inr (.inr (some v0))), (1, .inl v1), (2, .inl v2), (3, .inl v3)] []) : ∀ (v0 : Nat) (v1 : Int32) (v2 : Int32) (v3 : Int32) (w : gW), mX2_countCommuting_b30 F r v0 v1 v2 v3 w = some res → Wx X w 0 0 30 [(0, .inr (.inr (some v0))), (1, .inl v1), (2, .inl v2), (3, .inl v3)] [] := by
  intro v0 v1 v2 v3 w h
  unfold mX2_countCommuting_b30 at h
  refine Wx.run ok kX2_countCommuting 18 1 (lv' := [(3, .inl (v3 + (1 : Int32))), (0, .inr (.inr (some v0))), (1, .inl v1), (2, .inl v2)]) (st' := []) (pc' := 33) rfl ?_
  refine Wx.jump ok kX2_countCommuting 19 (tgt := 4) rfl (by decide) ?_
  refine Wx.sub [1, 2, 3, 0] rfl ?_
  exact hr _ _ _ _ _ h
set_option maxRecDepth 100000 in
set_option maxHeartbeats 4000000 in
theorem aX2_countCommuting_h4 {X : gX} (ok : gOk X cX2_countCommuting RX2 4 (some .int) rmX2_countCommuting) {res : Int32 × gW} (hres : gRs X (some (.int res.1)) res.2) {F : Nat} (r : Nat → Int32 → Int32 → Int32 → gW → Option (Int32 × gW)) (hr : ∀ (v0 : Nat) (v1 : Int32) (v2 : Int32) (v3 : Int32) (w : gW), r v0 v1 v2 v3 w = some res → Wx X w 0 0 4 [(0, .inr (.inr (some v0))), (1, .inl v1), (2, .inl v2), (3, .inl v3)] []) : ∀ (v0 : Nat) (v1 : Int32) (v2 : Int32) (v3 : Int32) (w : gW), mX2_countCommuting_h4 F r v0 v1 v2 v3 w = some res → Wx X w 0 0 4 [(0, .inr (.inr (some v0))), (1, .inl v1), (2, .inl v2), (3, .inl v3)] [] := by
  intro v0 v1 v2 v3 w h
  unfold mX2_countCommuting_h4 at h
  refine Wx.run ok kX2_countCommuting 4 2 (lv' := [(0, .inr (.inr (some v0))), (1, .inl v1), (2, .inl v2), (3, .inl v3)]) (st' := [.inr (.inr (some v0)), .inl v3]) (pc' := 6) rfl ?_
  refine Wx.getI ok kX2_countCommuting 6 rfl lk_RX2_30_0 h (fun t6 h => ?_)
  refine Wx.icmp_ge ok kX2_countCommuting 7 (tgt := 36) rfl (by decide) h (fun hc9 h => ?_) (fun hc9 h => ?_)
  · refine Wx.run ok kX2_countCommuting 20 1 (lv' := [(0, .inr (.inr (some v0))), (1, .inl v1), (2, .inl v2), (3, .inl v3)]) (st' := [.inl v2]) (pc' := 37) rfl ?_
    exact Wx.ireturn ok kX2_countCommuting 21 rfl hres h (by decide)
  · refine Wx.run ok kX2_countCommuting 8 3 (lv' := [(0, .inr (.inr (some v0))), (1, .inl v1), (2, .inl v2), (3, .inl v3)]) (st' := [.inl v3, .inl v1, .inr (.inr (some v0))]) (pc' := 15) rfl ?_
    obtain ⟨a15, ha15, h⟩ := gob h
    obtain ⟨q15, hq15, h⟩ := gob h
    refine Wx.callV ok kX2_countCommuting 11 rfl lm_RX2_45 cd_X2_mul ha15 [.inl v1, .inl v3] (some (.inl q15.1)) (aX2_mul _ _ hq15) (by decide) rfl (Nat.le_of_ble_eq_true rfl) rfl rfl ?_
    refine Wx.run ok kX2_countCommuting 12 3 (lv' := [(0, .inr (.inr (some v0))), (1, .inl v1), (2, .inl v2), (3, .inl v3)]) (st' := [.inl v1, .inl v3, .inr (.inr (some v0)), .inl q15.1]) (pc' := 21) rfl ?_
    obtain ⟨a21, ha21, h⟩ := gob h
    obtain ⟨q21, hq21, h⟩ := gob h
    refine Wx.callV ok kX2_countCommuting 15 rfl lm_RX2_45 cd_X2_mul ha21 [.inl v3, .inl v1] (some (.inl q21.1)) (aX2_mul _ _ hq21) (by decide) rfl (Nat.le_of_ble_eq_true rfl) rfl rfl ?_
    refine Wx.icmp_ne ok kX2_countCommuting 16 (tgt := 30) rfl (by decide) h (fun hc24 h => ?_) (fun hc24 h => ?_)
    · refine Wx.run ok kX2_countCommuting 17 1 (lv' := [(2, .inl (v2 + (1 : Int32))), (0, .inr (.inr (some v0))), (1, .inl v1), (3, .inl v3)]) (st' := []) (pc' := 30) rfl ?_
      refine Wx.sub [1, 2, 0, 3] rfl ?_
      exact aX2_countCommuting_b30 ok hres (F := F) r hr _ _ _ _ _ h
    · exact aX2_countCommuting_b30 ok hres (F := F) r hr _ _ _ _ _ h
set_option maxRecDepth 100000 in
set_option maxHeartbeats 4000000 in
theorem aX2_countCommuting_l4 {X : gX} (ok : gOk X cX2_countCommuting RX2 4 (some .int) rmX2_countCommuting) {res : Int32 × gW} (hres : gRs X (some (.int res.1)) res.2) {F : Nat} : ∀ (n : Nat) (v0 : Nat) (v1 : Int32) (v2 : Int32) (v3 : Int32) (w : gW), mX2_countCommuting_l4 F n v0 v1 v2 v3 w = some res → Wx X w 0 0 4 [(0, .inr (.inr (some v0))), (1, .inl v1), (2, .inl v2), (3, .inl v3)] [] := by
  intro n
  induction n with
  | zero => intro v0 v1 v2 v3 w h; cases (show (none : Option (Int32 × gW)) = some res from h)
  | succ n ih =>
    intro v0 v1 v2 v3 w h
    exact aX2_countCommuting_h4 ok hres (F := F) (mX2_countCommuting_l4 F n) ih v0 v1 v2 v3 w h
set_option maxRecDepth 100000 in
set_option maxHeartbeats 4000000 in
theorem aX2_countCommuting (l : Launch) (G : gG) {F : Nat} {v0 : Nat} {v1 : Int32} {w : gW} {res : Int32 × gW} (h : mX2_countCommuting F v0 v1 w = some res) : gM l yX2_countCommuting cX2_countCommuting 4 (some .int) rmX2_countCommuting G w (gTs [.inr (.inr (some v0)), .inl v1]) (some (.int res.1)) res.2 := by
  refine gM_of (y := yX2_countCommuting) (by decide +kernel) (Nat.le_of_ble_eq_true rfl) ?_
  intro X ok hl hG hres hnm
  subst hl; subst hG
  unfold mX2_countCommuting at h
  show Wx X w 0 0 0 [(0, .inr (.inr (some v0))), (1, .inl v1)] []
  refine Wx.run ok kX2_countCommuting 0 4 (lv' := [(3, .inl (0 : Int32)), (2, .inl (0 : Int32)), (0, .inr (.inr (some v0))), (1, .inl v1)]) (st' := []) (pc' := 4) rfl ?_
  refine Wx.sub [2, 3, 1, 0] rfl ?_
  refine aX2_countCommuting_l4 ok hres (F := F) F _ _ _ _ _ h
set_option maxRecDepth 100000 in
set_option maxHeartbeats 4000000 in
theorem aX2_fillPair_h51 {X : gX} (ok : gOk X cX2_fillPair RX2 8 none rmX2_fillPair) {res : gW} (hres : gRs X none res) {F : Nat} (r : Nat → (Option Nat) → (Option Nat) → Int32 → Int32 → Int32 → Int32 → Int32 → gW → Option (gW)) (k100 : Nat → (Option Nat) → (Option Nat) → Int32 → Int32 → Int32 → Int32 → gW → Option (gW)) (hr : ∀ (v0 : Nat) (v1 : Option Nat) (v2 : Option Nat) (v3 : Int32) (v4 : Int32) (v5 : Int32) (v6 : Int32) (v7 : Int32) (w : gW), r v0 v1 v2 v3 v4 v5 v6 v7 w = some res → Wx X w 0 0 51 [(0, .inr (.inr (some v0))), (1, .inr (.inr v1)), (2, .inr (.inr v2)), (3, .inl v3), (4, .inl v4), (5, .inl v5), (6, .inl v6), (7, .inl v7)] []) (hk100 : ∀ (v0 : Nat) (v1 : Option Nat) (v2 : Option Nat) (v3 : Int32) (v4 : Int32) (v5 : Int32) (v6 : Int32) (w : gW), k100 v0 v1 v2 v3 v4 v5 v6 w = some res → Wx X w 0 0 100 [(0, .inr (.inr (some v0))), (1, .inr (.inr v1)), (2, .inr (.inr v2)), (3, .inl v3), (4, .inl v4), (5, .inl v5), (6, .inl v6)] []) : ∀ (v0 : Nat) (v1 : Option Nat) (v2 : Option Nat) (v3 : Int32) (v4 : Int32) (v5 : Int32) (v6 : Int32) (v7 : Int32) (w : gW), mX2_fillPair_h51 F r k100 v0 v1 v2 v3 v4 v5 v6 v7 w = some res → Wx X w 0 0 51 [(0, .inr (.inr (some v0))), (1, .inr (.inr v1)), (2, .inr (.inr v2)), (3, .inl v3), (4, .inl v4), (5, .inl v5), (6, .inl v6), (7, .inl v7)] [] := by
  intro v0 v1 v2 v3 v4 v5 v6 v7 w h
  unfold mX2_fillPair_h51 at h
  refine Wx.run ok kX2_fillPair 28 2 (lv' := [(0, .inr (.inr (some v0))), (1, .inr (.inr v1)), (2, .inr (.inr v2)), (3, .inl v3), (4, .inl v4), (5, .inl v5), (6, .inl v6), (7, .inl v7)]) (st' := [.inl v3, .inl v7]) (pc' := 54) rfl ?_
  refine Wx.icmp_ge ok kX2_fillPair 30 (tgt := 100) rfl (by decide) h (fun hc54 h => ?_) (fun hc54 h => ?_)
  · refine Wx.sub [0, 1, 2, 3, 4, 5, 6] rfl ?_
    exact hk100 _ _ _ _ _ _ _ _ h
  · refine Wx.run ok kX2_fillPair 31 15 (lv' := [(0, .inr (.inr (some v0))), (1, .inr (.inr v1)), (2, .inr (.inr v2)), (3, .inl v3), (4, .inl v4), (5, .inl v5), (6, .inl v6), (7, .inl v7)]) (st' := [.inl v5, .inl v4, .inr (.inr v1), .inl v3, .inl ((v3 * v5) + v7), .inl ((v3 * v4) + v6), .inr (.inr (some v0))]) (pc' := 78) rfl ?_
    obtain ⟨a78, ha78, h⟩ := gob h
    obtain ⟨q78, hq78, h⟩ := gob h
    refine Wx.callV ok kX2_fillPair 46 rfl lm_RX2_45 cd_X2_mul ha78 [.inl v4, .inl v5] (some (.inl q78.1)) (aX2_mul _ _ hq78) (by decide) rfl (Nat.le_of_ble_eq_true rfl) rfl rfl ?_
    refine Wx.run ok kX2_fillPair 47 4 (lv' := [(0, .inr (.inr (some v0))), (1, .inr (.inr v1)), (2, .inr (.inr v2)), (3, .inl v3), (4, .inl v4), (5, .inl v5), (6, .inl v6), (7, .inl v7)]) (st' := [.inl v7, .inl v6, .inr (.inr v2), .inl (v3 * q78.1), .inl ((v3 * v5) + v7), .inl ((v3 * v4) + v6), .inr (.inr (some v0))]) (pc' := 87) rfl ?_
    obtain ⟨a87, ha87, h⟩ := gob h
    obtain ⟨q87, hq87, h⟩ := gob h
    refine Wx.callV ok kX2_fillPair 51 rfl lm_RX2_45 cd_X2_mul ha87 [.inl v6, .inl v7] (some (.inl q87.1)) (aX2_mul _ _ hq87) (by decide) rfl (Nat.le_of_ble_eq_true rfl) rfl rfl ?_
    refine Wx.run ok kX2_fillPair 52 1 (lv' := [(0, .inr (.inr (some v0))), (1, .inr (.inr v1)), (2, .inr (.inr v2)), (3, .inl v3), (4, .inl v4), (5, .inl v5), (6, .inl v6), (7, .inl v7)]) (st' := [.inl ((v3 * q78.1) + q87.1), .inl ((v3 * v5) + v7), .inl ((v3 * v4) + v6), .inr (.inr (some v0))]) (pc' := 91) rfl ?_
    obtain ⟨a91, ha91, h⟩ := gob h
    obtain ⟨q91, hq91, h⟩ := gob h
    refine Wx.callV ok kX2_fillPair 53 rfl lm_RX2_38 cd_X2_set ha91 [.inl ((v3 * v4) + v6), .inl ((v3 * v5) + v7), .inl ((v3 * q78.1) + q87.1)] none (aX2_set _ _ hq91) (by decide) rfl (Nat.le_of_ble_eq_true rfl) rfl rfl ?_
    refine Wx.run ok kX2_fillPair 54 1 (lv' := [(7, .inl (v7 + (1 : Int32))), (0, .inr (.inr (some v0))), (1, .inr (.inr v1)), (2, .inr (.inr v2)), (3, .inl v3), (4, .inl v4), (5, .inl v5), (6, .inl v6)]) (st' := []) (pc' := 97) rfl ?_
    refine Wx.jump ok kX2_fillPair 55 (tgt := 51) rfl (by decide) ?_
    refine Wx.sub [1, 2, 3, 4, 5, 6, 7, 0] rfl ?_
    exact hr _ _ _ _ _ _ _ _ _ h
set_option maxRecDepth 100000 in
set_option maxHeartbeats 4000000 in
theorem aX2_fillPair_l51 {X : gX} (ok : gOk X cX2_fillPair RX2 8 none rmX2_fillPair) {res : gW} (hres : gRs X none res) {F : Nat} (k100 : Nat → (Option Nat) → (Option Nat) → Int32 → Int32 → Int32 → Int32 → gW → Option (gW)) (hk100 : ∀ (v0 : Nat) (v1 : Option Nat) (v2 : Option Nat) (v3 : Int32) (v4 : Int32) (v5 : Int32) (v6 : Int32) (w : gW), k100 v0 v1 v2 v3 v4 v5 v6 w = some res → Wx X w 0 0 100 [(0, .inr (.inr (some v0))), (1, .inr (.inr v1)), (2, .inr (.inr v2)), (3, .inl v3), (4, .inl v4), (5, .inl v5), (6, .inl v6)] []) : ∀ (n : Nat) (v0 : Nat) (v1 : Option Nat) (v2 : Option Nat) (v3 : Int32) (v4 : Int32) (v5 : Int32) (v6 : Int32) (v7 : Int32) (w : gW), mX2_fillPair_l51 F k100 n v0 v1 v2 v3 v4 v5 v6 v7 w = some res → Wx X w 0 0 51 [(0, .inr (.inr (some v0))), (1, .inr (.inr v1)), (2, .inr (.inr v2)), (3, .inl v3), (4, .inl v4), (5, .inl v5), (6, .inl v6), (7, .inl v7)] [] := by
  intro n
  induction n with
  | zero => intro v0 v1 v2 v3 v4 v5 v6 v7 w h; cases (show (none : Option (gW)) = some res from h)
  | succ n ih =>
    intro v0 v1 v2 v3 v4 v5 v6 v7 w h
    exact aX2_fillPair_h51 ok hres (F := F) (mX2_fillPair_l51 F k100 n) k100 ih hk100 v0 v1 v2 v3 v4 v5 v6 v7 w h
set_option maxRecDepth 100000 in
set_option maxHeartbeats 4000000 in
theorem aX2_fillPair_h42 {X : gX} (ok : gOk X cX2_fillPair RX2 8 none rmX2_fillPair) {res : gW} (hres : gRs X none res) {F : Nat} (r : Nat → (Option Nat) → (Option Nat) → Int32 → Int32 → Int32 → Int32 → gW → Option (gW)) (k106 : Nat → (Option Nat) → (Option Nat) → Int32 → Int32 → Int32 → gW → Option (gW)) (hr : ∀ (v0 : Nat) (v1 : Option Nat) (v2 : Option Nat) (v3 : Int32) (v4 : Int32) (v5 : Int32) (v6 : Int32) (w : gW), r v0 v1 v2 v3 v4 v5 v6 w = some res → Wx X w 0 0 42 [(0, .inr (.inr (some v0))), (1, .inr (.inr v1)), (2, .inr (.inr v2)), (3, .inl v3), (4, .inl v4), (5, .inl v5), (6, .inl v6)] []) (hk106 : ∀ (v0 : Nat) (v1 : Option Nat) (v2 : Option Nat) (v3 : Int32) (v4 : Int32) (v5 : Int32) (w : gW), k106 v0 v1 v2 v3 v4 v5 w = some res → Wx X w 0 0 106 [(0, .inr (.inr (some v0))), (1, .inr (.inr v1)), (2, .inr (.inr v2)), (3, .inl v3), (4, .inl v4), (5, .inl v5)] []) : ∀ (v0 : Nat) (v1 : Option Nat) (v2 : Option Nat) (v3 : Int32) (v4 : Int32) (v5 : Int32) (v6 : Int32) (w : gW), mX2_fillPair_h42 F r k106 v0 v1 v2 v3 v4 v5 v6 w = some res → Wx X w 0 0 42 [(0, .inr (.inr (some v0))), (1, .inr (.inr v1)), (2, .inr (.inr v2)), (3, .inl v3), (4, .inl v4), (5, .inl v5), (6, .inl v6)] [] := by
  intro v0 v1 v2 v3 v4 v5 v6 w h
  unfold mX2_fillPair_h42 at h
  refine Wx.run ok kX2_fillPair 23 2 (lv' := [(0, .inr (.inr (some v0))), (1, .inr (.inr v1)), (2, .inr (.inr v2)), (3, .inl v3), (4, .inl v4), (5, .inl v5), (6, .inl v6)]) (st' := [.inl v3, .inl v6]) (pc' := 45) rfl ?_
  refine Wx.icmp_ge ok kX2_fillPair 25 (tgt := 106) rfl (by decide) h (fun hc45 h => ?_) (fun hc45 h => ?_)
  · refine Wx.sub [0, 1, 2, 3, 4, 5] rfl ?_
    exact hk106 _ _ _ _ _ _ _ h
  · refine Wx.run ok kX2_fillPair 26 2 (lv' := [(7, .inl (0 : Int32)), (0, .inr (.inr (some v0))), (1, .inr (.inr v1)), (2, .inr (.inr v2)), (3, .inl v3), (4, .inl v4), (5, .inl v5), (6, .inl v6)]) (st' := []) (pc' := 51) rfl ?_
    refine Wx.sub [1, 2, 3, 4, 5, 6, 7, 0] rfl ?_
    refine aX2_fillPair_l51 ok hres (F := F) _ ?_ F _ _ _ _ _ _ _ _ _ h
    · intro v0 v1 v2 v3 v4 v5 v6 w h
      refine Wx.run ok kX2_fillPair 56 1 (lv' := [(6, .inl (v6 + (1 : Int32))), (0, .inr (.inr (some v0))), (1, .inr (.inr v1)), (2, .inr (.inr v2)), (3, .inl v3), (4, .inl v4), (5, .inl v5)]) (st' := []) (pc' := 103) rfl ?_
      refine Wx.jump ok kX2_fillPair 57 (tgt := 42) rfl (by decide) ?_
      refine Wx.sub [1, 2, 3, 4, 5, 6, 0] rfl ?_
      exact hr _ _ _ _ _ _ _ _ h
set_option maxRecDepth 100000 in
set_option maxHeartbeats 4000000 in
theorem aX2_fillPair_l42 {X : gX} (ok : gOk X cX2_fillPair RX2 8 none rmX2_fillPair) {res : gW} (hres : gRs X none res) {F : Nat} (k106 : Nat → (Option Nat) → (Option Nat) → Int32 → Int32 → Int32 → gW → Option (gW)) (hk106 : ∀ (v0 : Nat) (v1 : Option Nat) (v2 : Option Nat) (v3 : Int32) (v4 : Int32) (v5 : Int32) (w : gW), k106 v0 v1 v2 v3 v4 v5 w = some res → Wx X w 0 0 106 [(0, .inr (.inr (some v0))), (1, .inr (.inr v1)), (2, .inr (.inr v2)), (3, .inl v3), (4, .inl v4), (5, .inl v5)] []) : ∀ (n : Nat) (v0 : Nat) (v1 : Option Nat) (v2 : Option Nat) (v3 : Int32) (v4 : Int32) (v5 : Int32) (v6 : Int32) (w : gW), mX2_fillPair_l42 F k106 n v0 v1 v2 v3 v4 v5 v6 w = some res → Wx X w 0 0 42 [(0, .inr (.inr (some v0))), (1, .inr (.inr v1)), (2, .inr (.inr v2)), (3, .inl v3), (4, .inl v4), (5, .inl v5), (6, .inl v6)] [] := by
  intro n
  induction n with
  | zero => intro v0 v1 v2 v3 v4 v5 v6 w h; cases (show (none : Option (gW)) = some res from h)
  | succ n ih =>
    intro v0 v1 v2 v3 v4 v5 v6 w h
    exact aX2_fillPair_h42 ok hres (F := F) (mX2_fillPair_l42 F k106 n) k106 ih hk106 v0 v1 v2 v3 v4 v5 v6 w h
set_option maxRecDepth 100000 in
set_option maxHeartbeats 4000000 in
theorem aX2_fillPair_h30 {X : gX} (ok : gOk X cX2_fillPair RX2 8 none rmX2_fillPair) {res : gW} (hres : gRs X none res) {F : Nat} (r : Nat → (Option Nat) → (Option Nat) → Int32 → Int32 → Int32 → gW → Option (gW)) (k112 : Nat → (Option Nat) → (Option Nat) → Int32 → Int32 → gW → Option (gW)) (hr : ∀ (v0 : Nat) (v1 : Option Nat) (v2 : Option Nat) (v3 : Int32) (v4 : Int32) (v5 : Int32) (w : gW), r v0 v1 v2 v3 v4 v5 w = some res → Wx X w 0 0 30 [(0, .inr (.inr (some v0))), (1, .inr (.inr v1)), (2, .inr (.inr v2)), (3, .inl v3), (4, .inl v4), (5, .inl v5)] []) (hk112 : ∀ (v0 : Nat) (v1 : Option Nat) (v2 : Option Nat) (v3 : Int32) (v4 : Int32) (w : gW), k112 v0 v1 v2 v3 v4 w = some res → Wx X w 0 0 112 [(0, .inr (.inr (some v0))), (1, .inr (.inr v1)), (2, .inr (.inr v2)), (3, .inl v3), (4, .inl v4)] []) : ∀ (v0 : Nat) (v1 : Option Nat) (v2 : Option Nat) (v3 : Int32) (v4 : Int32) (v5 : Int32) (w : gW), mX2_fillPair_h30 F r k112 v0 v1 v2 v3 v4 v5 w = some res → Wx X w 0 0 30 [(0, .inr (.inr (some v0))), (1, .inr (.inr v1)), (2, .inr (.inr v2)), (3, .inl v3), (4, .inl v4), (5, .inl v5)] [] := by
  intro v0 v1 v2 v3 v4 v5 w h
  unfold mX2_fillPair_h30 at h
  refine Wx.run ok kX2_fillPair 17 2 (lv' := [(0, .inr (.inr (some v0))), (1, .inr (.inr v1)), (2, .inr (.inr v2)), (3, .inl v3), (4, .inl v4), (5, .inl v5)]) (st' := [.inr (.inr v1), .inl v5]) (pc' := 33) rfl ?_
  refine Wx.getI ok kX2_fillPair 19 rfl lk_RX2_30_0 h (fun t33 h => ?_)
  refine Wx.icmp_ge ok kX2_fillPair 20 (tgt := 112) rfl (by decide) h (fun hc36 h => ?_) (fun hc36 h => ?_)
  · refine Wx.sub [0, 1, 2, 3, 4] rfl ?_
    exact hk112 _ _ _ _ _ _ h
  · refine Wx.run ok kX2_fillPair 21 2 (lv' := [(6, .inl (0 : Int32)), (0, .inr (.inr (some v0))), (1, .inr (.inr v1)), (2, .inr (.inr v2)), (3, .inl v3), (4, .inl v4), (5, .inl v5)]) (st' := []) (pc' := 42) rfl ?_
    refine Wx.sub [1, 2, 3, 4, 5, 6, 0] rfl ?_
    refine aX2_fillPair_l42 ok hres (F := F) _ ?_ F _ _ _ _ _ _ _ _ h
    · intro v0 v1 v2 v3 v4 v5 w h
      refine Wx.run ok kX2_fillPair 58 1 (lv' := [(5, .inl (v5 + (1 : Int32))), (0, .inr (.inr (some v0))), (1, .inr (.inr v1)), (2, .inr (.inr v2)), (3, .inl v3), (4, .inl v4)]) (st' := []) (pc' := 109) rfl ?_
      refine Wx.jump ok kX2_fillPair 59 (tgt := 30) rfl (by decide) ?_
      refine Wx.sub [1, 2, 3, 4, 5, 0] rfl ?_
      exact hr _ _ _ _ _ _ _ h
set_option maxRecDepth 100000 in
set_option maxHeartbeats 4000000 in
theorem aX2_fillPair_l30 {X : gX} (ok : gOk X cX2_fillPair RX2 8 none rmX2_fillPair) {res : gW} (hres : gRs X none res) {F : Nat} (k112 : Nat → (Option Nat) → (Option Nat) → Int32 → Int32 → gW → Option (gW)) (hk112 : ∀ (v0 : Nat) (v1 : Option Nat) (v2 : Option Nat) (v3 : Int32) (v4 : Int32) (w : gW), k112 v0 v1 v2 v3 v4 w = some res → Wx X w 0 0 112 [(0, .inr (.inr (some v0))), (1, .inr (.inr v1)), (2, .inr (.inr v2)), (3, .inl v3), (4, .inl v4)] []) : ∀ (n : Nat) (v0 : Nat) (v1 : Option Nat) (v2 : Option Nat) (v3 : Int32) (v4 : Int32) (v5 : Int32) (w : gW), mX2_fillPair_l30 F k112 n v0 v1 v2 v3 v4 v5 w = some res → Wx X w 0 0 30 [(0, .inr (.inr (some v0))), (1, .inr (.inr v1)), (2, .inr (.inr v2)), (3, .inl v3), (4, .inl v4), (5, .inl v5)] [] := by
  intro n
  induction n with
  | zero => intro v0 v1 v2 v3 v4 v5 w h; cases (show (none : Option (gW)) = some res from h)
  | succ n ih =>
    intro v0 v1 v2 v3 v4 v5 w h
    exact aX2_fillPair_h30 ok hres (F := F) (mX2_fillPair_l30 F k112 n) k112 ih hk112 v0 v1 v2 v3 v4 v5 w h
set_option maxRecDepth 100000 in
set_option maxHeartbeats 4000000 in
theorem aX2_fillPair_h18 {X : gX} (ok : gOk X cX2_fillPair RX2 8 none rmX2_fillPair) {res : gW} (hres : gRs X none res) {F : Nat} (r : Nat → (Option Nat) → (Option Nat) → Int32 → Int32 → gW → Option (gW)) (hr : ∀ (v0 : Nat) (v1 : Option Nat) (v2 : Option Nat) (v3 : Int32) (v4 : Int32) (w : gW), r v0 v1 v2 v3 v4 w = some res → Wx X w 0 0 18 [(0, .inr (.inr (some v0))), (1, .inr (.inr v1)), (2, .inr (.inr v2)), (3, .inl v3), (4, .inl v4)] []) : ∀ (v0 : Nat) (v1 : Option Nat) (v2 : Option Nat) (v3 : Int32) (v4 : Int32) (w : gW), mX2_fillPair_h18 F r v0 v1 v2 v3 v4 w = some res → Wx X w 0 0 18 [(0, .inr (.inr (some v0))), (1, .inr (.inr v1)), (2, .inr (.inr v2)), (3, .inl v3), (4, .inl v4)] [] := by
  intro v0 v1 v2 v3 v4 w h
  unfold mX2_fillPair_h18 at h
  refine Wx.run ok kX2_fillPair 11 2 (lv' := [(0, .inr (.inr (some v0))), (1, .inr (.inr v1)), (2, .inr (.inr v2)), (3, .inl v3), (4, .inl v4)]) (st' := [.inr (.inr v1), .inl v4]) (pc' := 21) rfl ?_
  refine Wx.getI ok kX2_fillPair 13 rfl lk_RX2_30_0 h (fun t21 h => ?_)
  refine Wx.icmp_ge ok kX2_fillPair 14 (tgt := 118) rfl (by decide) h (fun hc24 h => ?_) (fun hc24 h => ?_)
  · exact Wx.vreturn ok kX2_fillPair 62 rfl hres h (by decide)
  · refine Wx.run ok kX2_fillPair 15 2 (lv' := [(5, .inl (0 : Int32)), (0, .inr (.inr (some v0))), (1, .inr (.inr v1)), (2, .inr (.inr v2)), (3, .inl v3), (4, .inl v4)]) (st' := []) (pc' := 30) rfl ?_
    refine Wx.sub [1, 2, 3, 4, 5, 0] rfl ?_
    refine aX2_fillPair_l30 ok hres (F := F) _ ?_ F _ _ _ _ _ _ _ h
    · intro v0 v1 v2 v3 v4 w h
      refine Wx.run ok kX2_fillPair 60 1 (lv' := [(4, .inl (v4 + (1 : Int32))), (0, .inr (.inr (some v0))), (1, .inr (.inr v1)), (2, .inr (.inr v2)), (3, .inl v3)]) (st' := []) (pc' := 115) rfl ?_
      refine Wx.jump ok kX2_fillPair 61 (tgt := 18) rfl (by decide) ?_
      refine Wx.sub [1, 2, 3, 4, 0] rfl ?_
      exact hr _ _ _ _ _ _ h
set_option maxRecDepth 100000 in
set_option maxHeartbeats 4000000 in
theorem aX2_fillPair_l18 {X : gX} (ok : gOk X cX2_fillPair RX2 8 none rmX2_fillPair) {res : gW} (hres : gRs X none res) {F : Nat} : ∀ (n : Nat) (v0 : Nat) (v1 : Option Nat) (v2 : Option Nat) (v3 : Int32) (v4 : Int32) (w : gW), mX2_fillPair_l18 F n v0 v1 v2 v3 v4 w = some res → Wx X w 0 0 18 [(0, .inr (.inr (some v0))), (1, .inr (.inr v1)), (2, .inr (.inr v2)), (3, .inl v3), (4, .inl v4)] [] := by
  intro n
  induction n with
  | zero => intro v0 v1 v2 v3 v4 w h; cases (show (none : Option (gW)) = some res from h)
  | succ n ih =>
    intro v0 v1 v2 v3 v4 w h
    exact aX2_fillPair_h18 ok hres (F := F) (mX2_fillPair_l18 F n) ih v0 v1 v2 v3 v4 w h
set_option maxRecDepth 100000 in
set_option maxHeartbeats 4000000 in
theorem aX2_fillPair (l : Launch) (G : gG) {F : Nat} {v0 : Nat} {v1 : Option Nat} {v2 : Option Nat} {w : gW} {res : gW} (h : mX2_fillPair F v0 v1 v2 w = some res) : gM l yX2_fillPair cX2_fillPair 8 none rmX2_fillPair G w (gTs [.inr (.inr (some v0)), .inr (.inr v1), .inr (.inr v2)]) none res := by
  refine gM_of (y := yX2_fillPair) (by decide +kernel) (Nat.le_of_ble_eq_true rfl) ?_
  intro X ok hl hG hres hnm
  subst hl; subst hG
  unfold mX2_fillPair at h
  show Wx X w 0 0 0 [(0, .inr (.inr (some v0))), (1, .inr (.inr v1)), (2, .inr (.inr v2))] []
  refine Wx.run ok kX2_fillPair 0 1 (lv' := [(0, .inr (.inr (some v0))), (1, .inr (.inr v1)), (2, .inr (.inr v2))]) (st' := [.inr (.inr v2)]) (pc' := 1) rfl ?_
  refine Wx.getI ok kX2_fillPair 1 rfl lk_RX2_30_0 h (fun t1 h => ?_)
  refine Wx.run ok kX2_fillPair 2 3 (lv' := [(3, .inl t1), (0, .inr (.inr (some v0))), (1, .inr (.inr v1)), (2, .inr (.inr v2))]) (st' := [.inr (.inr v1), .inr (.inr (some v0))]) (pc' := 7) rfl ?_
  refine Wx.getI ok kX2_fillPair 5 rfl lk_RX2_30_0 h (fun t7 h => ?_)
  refine Wx.run ok kX2_fillPair 6 2 (lv' := [(3, .inl t1), (0, .inr (.inr (some v0))), (1, .inr (.inr v1)), (2, .inr (.inr v2))]) (st' := [.inl (t7 * t1), .inr (.inr (some v0))]) (pc' := 12) rfl ?_
  refine Wx.put ok kX2_fillPair 8 rfl lk_RX2_30_1 (gFit_i _) h (fun w12 h => ?_)
  refine Wx.run ok kX2_fillPair 9 2 (lv' := [(4, .inl (0 : Int32)), (3, .inl t1), (0, .inr (.inr (some v0))), (1, .inr (.inr v1)), (2, .inr (.inr v2))]) (st' := []) (pc' := 18) rfl ?_
  refine Wx.sub [2, 3, 4, 1, 0] rfl ?_
  refine aX2_fillPair_l18 ok hres (F := F) F _ _ _ _ _ _ h
