/-! the world of which nothing was asked yet -/
def zok (n m : Nat) (q : Nat × Nat) : Bool := (q.1 == 5 || q.1 == 122 || q.1 == 123) && Nat.blt q.2 n || (q.1 == 7 || q.1 == 125) && Nat.blt q.2 m || (q.1 == 11 || Nat.ble 139 q.1 && Nat.ble q.1 146)
def zok9 (q : Nat × Nat) : Bool := zok 24 515 q || (q.1 == 19 || Nat.ble 172 q.1 && Nat.ble q.1 193)
def zF1 (z : St) : Prop := zgI z 11 1 0 = 0 ∧ zgI z 11 3 0 = 0
def zF9 (z : St) : Prop := zgI z 19 19 0 = 0 ∧ zgI z 19 21 0 = 0
theorem zF9_0 {z : St} (v : Int32) (h : zF9 z) : zF9 (zsI z 19 25 0 v) := by
  unfold zF9; simp [zgI_sI]; exact h
theorem zfails_1 (N : Nat) (s2 : Int32) (z : St) : fX19_fails N 0 (1 : Int32) s2 z = some ((1 : Int32), zsI z 19 25 0 1) := by
  simp [fX19_fails, fX19_fails_18, zl, zgI_sI]
theorem zfails_2 (N : Nat) (z : St) : fX19_fails N 0 (0 : Int32) (1 : Int32) z = some ((1 : Int32), zsI z 19 25 0 2) := by
  simp [fX19_fails, fX19_fails_18, zl, zgI_sI]
theorem zfails_0 (N : Nat) (z : St) : fX19_fails N 0 (0 : Int32) (0 : Int32) z = some ((0 : Int32), zsI z 19 25 0 0) := by
  simp [fX19_fails, fX19_fails_18, zl, zgI_sI]
theorem zb11 {z : St} (h : zF1 z) (N : Nat) (x : Int32) : fX11_boxOf N 0 x z = some (none, z) := by
  unfold fX11_boxOf
  by_cases c : x < 0
  · rw [if_pos c]
  · rw [if_neg c, h.2, if_pos (Int32.not_lt.mp c)]
theorem zn11 {z : St} (h : zF1 z) (N : Nat) (x : Int32) : fX11_netOf N 0 x z = some (none, z) := by
  unfold fX11_netOf
  by_cases c : x < 0
  · rw [if_pos c]
  · rw [if_neg c, h.1, if_pos (Int32.not_lt.mp c)]
theorem zh11 {z : St} (h : zF1 z) (N : Nat) (x : Int32) : fX11_hostOf N 0 x z = some (none, z) := by
  simp [fX11_hostOf, zb11 h, zc, zo, fX11_hostOf_17]
theorem zr11 {z : St} (h : zF1 z) (N : Nat) (x : Int32) : fX11_routerOf N 0 x z = some (none, z) := by
  simp [fX11_routerOf, zb11 h, zc, zo, fX11_routerOf_17]
theorem zd11 {z : St} (h : zF1 z) (N : Nat) (x y : Int32) : fX11_doorOf N 0 x y z = some (none, z) := by
  simp [fX11_doorOf, zh11 h, zc, zo, fX11_doorOf_20]
theorem zb19 {z : St} (h : zF9 z) (N : Nat) (x : Int32) : fX19_isBox N 0 x z = some ((0 : Int32), z) := by
  unfold fX19_isBox
  by_cases c : x < 0
  · rw [if_pos c]
  · rw [if_neg c, h.1, if_pos (Int32.not_lt.mp c)]
theorem zn19 {z : St} (h : zF9 z) (N : Nat) (x : Int32) : fX19_isNet N 0 x z = some ((0 : Int32), z) := by
  unfold fX19_isNet
  by_cases c : x < 0
  · rw [if_pos c]
  · rw [if_neg c, h.2, if_pos (Int32.not_lt.mp c)]
theorem zh19 {z : St} (h : zF9 z) (N : Nat) (x : Int32) : fX19_isHost N 0 x z = some ((0 : Int32), z) := by
  simp [fX19_isHost, zb19 h, zc]
theorem zr19 {z : St} (h : zF9 z) (N : Nat) (x : Int32) : fX19_isRouter N 0 x z = some ((0 : Int32), z) := by
  simp [fX19_isRouter, zb19 h, zc]
theorem zd19 {z : St} (h : zF9 z) (N : Nat) (x y : Int32) : fX19_isDoor N 0 x y z = some ((0 : Int32), z) := by
  simp [fX19_isDoor, zh19 h, zc]
theorem ze19 {z : St} (h : zF9 z) (N : Nat) (x y : Int32) : fX19_endAt N 0 x y z = some (none, z) := by
  simp [fX19_endAt, zd19 h, zc]
theorem zt11_cost {z : St} (h : zF1 z) (N : Nat) (x1 : Int32) (x2 : Int32) (x3 : Int32) : fX11_cost N 0 x1 x2 x3 z = some (.inr 1, z) := by
  simp [fX11_cost, zb11 h, zn11 h, zh11 h, zr11 h, zd11 h, fX11_readableDoor, zc, zcx, zo, fX11_cost_20, fX11_cost_65]
theorem zt19_cost {z : St} (h : zF9 z) (N : Nat) (x1 : Int32) (x2 : Int32) (x3 : Int32) : ∃ r : Int32, fX19_cost N 0 x1 x2 x3 z = some (r, zsI z 19 25 0 1) := by
  simp [fX19_cost, zb19 h, zn19 h, zh19 h, zr19 h, zd19 h, ze19 h, zfails_1, fX19_canRead, zc, zcx, zo, fX19_cost_38, fX19_cost_43]
theorem zt11_link {z : St} (h : zF1 z) (N : Nat) (x1 : Int32) (x2 : Int32) : fX11_link N 0 x1 x2 z = some (.inr 1, z) := by
  simp [fX11_link, zb11 h, zn11 h, zh11 h, zr11 h, zd11 h, fX11_readableDoor, zc, zcx, zo, fX11_link_44]
theorem zt19_link {z : St} (h : zF9 z) (N : Nat) (x1 : Int32) (x2 : Int32) : ∃ r : Int32, fX19_link N 0 x1 x2 z = some (r, zsI z 19 25 0 1) := by
  simp [fX19_link, zb19 h, zn19 h, zh19 h, zr19 h, zd19 h, ze19 h, zfails_1, fX19_canRead, zc, zcx, zo, fX19_link_112, fX19_link_121, fX19_link_14, fX19_link_43, fX19_link_53]
theorem zt11_fates {z : St} (h : zF1 z) (N : Nat) (x1 : Int32) (x2 : Int64) (x4 : Int32) : fX11_fates N 0 x1 x2 x4 z = some (.inr 1, z) := by
  simp [fX11_fates, zb11 h, zn11 h, zh11 h, zr11 h, zd11 h, fX11_readableDoor, zc, zcx, zo, fX11_fates_35, fX11_fates_71]
theorem zt19_fates {z : St} (h : zF9 z) (N : Nat) (x1 : Int32) (x2 : Int64) (x4 : Int32) : ∃ r : Int32, fX19_fates N 0 x1 x2 x4 z = some (r, zsI z 19 25 0 1) := by
  simp [fX19_fates, zb19 h, zn19 h, zh19 h, zr19 h, zd19 h, ze19 h, zfails_1, fX19_canRead, zc, zcx, zo, fX19_fates_22, fX19_fates_27, fX19_fates_56, fX19_fates_57, fX19_fates_76]
theorem zt11_listen {z : St} (h : zF1 z) (N : Nat) (x1 : Int32) (x2 : Int32) (x3 : Int32) : fX11_listen N 0 x1 x2 x3 z = some (.inr 1, z) := by
  simp [fX11_listen, zb11 h, zn11 h, zh11 h, zr11 h, zd11 h, fX11_readableDoor, zc, zcx, zo, fX11_listen_33, fX11_listen_53]
theorem zt19_listen {z : St} (h : zF9 z) (N : Nat) (x1 : Int32) (x2 : Int32) (x3 : Int32) : ∃ r : Int32, fX19_listen N 0 x1 x2 x3 z = some (r, zsI z 19 25 0 1) := by
  simp [fX19_listen, zb19 h, zn19 h, zh19 h, zr19 h, zd19 h, ze19 h, zfails_1, fX19_canRead, zc, zcx, zo, fX19_listen_100, fX19_listen_104, fX19_listen_105, fX19_listen_133, fX19_listen_138, fX19_listen_31, fX19_listen_36, fX19_listen_59]
theorem zt11_open {z : St} (h : zF1 z) (N : Nat) (x1 : Int32) (x2 : Int32) (x3 : Int32) : fX11_open N 0 x1 x2 x3 z = some (.inr 1, z) := by
  simp [fX11_open, zb11 h, zn11 h, zh11 h, zr11 h, zd11 h, fX11_readableDoor, zc, zcx, zo, fX11_open_33]
theorem zt19_open {z : St} (h : zF9 z) (N : Nat) (x1 : Int32) (x2 : Int32) (x3 : Int32) : ∃ r : Int32, fX19_open N 0 x1 x2 x3 z = some (r, zsI z 19 25 0 1) := by
  simp [fX19_open, zb19 h, zn19 h, zh19 h, zr19 h, zd19 h, ze19 h, zfails_1, fX19_canRead, zc, zcx, zo, fX19_open_35, fX19_open_40, fX19_open_91, fX19_open_96]
theorem zt11_accept {z : St} (h : zF1 z) (N : Nat) (x1 : Int32) (x2 : Int32) : fX11_accept N 0 x1 x2 z = some (.inr 1, z) := by
  simp [fX11_accept, zb11 h, zn11 h, zh11 h, zr11 h, zd11 h, fX11_readableDoor, zc, zcx, zo, fX11_accept_139, fX11_accept_23, fX11_accept_57]
theorem zt19_accept {z : St} (h : zF9 z) (N : Nat) (x1 : Int32) (x2 : Int32) : ∃ r : Int32, fX19_accept N 0 x1 x2 z = some (r, zsI z 19 25 0 1) := by
  simp [fX19_accept, zb19 h, zn19 h, zh19 h, zr19 h, zd19 h, ze19 h, zfails_1, fX19_canRead, zc, zcx, zo, fX19_accept_133, fX19_accept_15, fX19_accept_45, fX19_accept_46, fX19_accept_56]
theorem zt11_write {z : St} (h : zF1 z) (N : Nat) (x1 : Int32) (x2 : Int32) (x3 : Int64) (x5 : Int32) : fX11_write N 0 x1 x2 x3 x5 z = some (.inr 1, z) := by
  simp [fX11_write, zb11 h, zn11 h, zh11 h, zr11 h, zd11 h, fX11_readableDoor, zc, zcx, zo, fX11_write_37, fX11_write_92]
theorem zt19_write {z : St} (h : zF9 z) (N : Nat) (x1 : Int32) (x2 : Int32) (x3 : Int64) (x5 : Int32) : ∃ r : Int32, fX19_write N 0 x1 x2 x3 x5 z = some (r, zsI z 19 25 0 1) := by
  simp [fX19_write, zb19 h, zn19 h, zh19 h, zr19 h, zd19 h, ze19 h, zfails_1, fX19_canRead, zc, zcx, zo, fX19_write_100, fX19_write_31, fX19_write_36, fX19_write_49, fX19_write_54, fX19_write_65]
theorem zt11_fill {z : St} (h : zF1 z) (N : Nat) (x1 : Int32) (x2 : Int32) (x3 : Int32) (x4 : Int32) (x5 : Int32) : fX11_fill N 0 x1 x2 x3 x4 x5 z = some (.inr 1, z) := by
  simp [fX11_fill, zb11 h, zn11 h, zh11 h, zr11 h, zd11 h, fX11_readableDoor, zc, zcx, zo, fX11_fill_38, fX11_fill_93]
theorem zt19_fill {z : St} (h : zF9 z) (N : Nat) (x1 : Int32) (x2 : Int32) (x3 : Int32) (x4 : Int32) (x5 : Int32) : ∃ r : Int32, fX19_fill N 0 x1 x2 x3 x4 x5 z = some (r, zsI z 19 25 0 1) := by
  simp [fX19_fill, zb19 h, zn19 h, zh19 h, zr19 h, zd19 h, ze19 h, zfails_1, fX19_canRead, zc, zcx, zo, fX19_fill_32, fX19_fill_37, fX19_fill_50, fX19_fill_55, fX19_fill_66, fX19_fill_95]
theorem zt11_read {z : St} (h : zF1 z) (N : Nat) (x1 : Int32) (x2 : Int32) : fX11_read N 0 x1 x2 z = some (.inr 1, z) := by
  simp [fX11_read, zb11 h, zn11 h, zh11 h, zr11 h, zd11 h, fX11_readableDoor, zc, zcx, zo]
theorem zt19_read {z : St} (h : zF9 z) (N : Nat) (x1 : Int32) (x2 : Int32) : ∃ r : Int32, fX19_read_ N 0 x1 x2 z = some (r, zsI z 19 25 0 1) := by
  simp [fX19_read_, zb19 h, zn19 h, zh19 h, zr19 h, zd19 h, ze19 h, zfails_1, fX19_canRead, zc, zcx, zo, fX19_read__22, fX19_read__34]
theorem zt11_readAll {z : St} (h : zF1 z) (N : Nat) (x1 : Int32) (x2 : Int32) (x3 : Int32) : fX11_readAll N 0 x1 x2 x3 z = some (.inr 1, z) := by
  simp [fX11_readAll, zb11 h, zn11 h, zh11 h, zr11 h, zd11 h, fX11_readableDoor, zc, zcx, zo, fX11_readAll_32, fX11_readAll_57]
theorem zt19_readAll {z : St} (h : zF9 z) (N : Nat) (x1 : Int32) (x2 : Int32) (x3 : Int32) : ∃ r : Int32, fX19_readAll N 0 x1 x2 x3 z = some (r, zsI z 19 25 0 1) := by
  simp [fX19_readAll, zb19 h, zn19 h, zh19 h, zr19 h, zd19 h, ze19 h, zfails_1, fX19_canRead, zc, zcx, zo, fX19_readAll_30, fX19_readAll_35, fX19_readAll_48, fX19_readAll_62]
theorem zt11_close {z : St} (h : zF1 z) (N : Nat) (x1 : Int32) (x2 : Int32) : fX11_close N 0 x1 x2 z = some (.inr 1, z) := by
  simp [fX11_close, zb11 h, zn11 h, zh11 h, zr11 h, zd11 h, fX11_readableDoor, zc, zcx, zo, fX11_close_140, fX11_close_23]
theorem zt19_close {z : St} (h : zF9 z) (N : Nat) (x1 : Int32) (x2 : Int32) : ∃ r : Int32, fX19_close N 0 x1 x2 z = some (r, zsI z 19 25 0 1) := by
  simp [fX19_close, zb19 h, zn19 h, zh19 h, zr19 h, zd19 h, ze19 h, zfails_1, fX19_canRead, zc, zcx, zo, fX19_close_126, fX19_close_195, fX19_close_201, fX19_close_41, fX19_close_42, fX19_close_55, fX19_close_83, fX19_close_87, fX19_close_88]
theorem zt11_abort {z : St} (h : zF1 z) (N : Nat) (x1 : Int32) (x2 : Int32) : fX11_abort N 0 x1 x2 z = some (.inr 1, z) := by
  simp [fX11_abort, zb11 h, zn11 h, zh11 h, zr11 h, zd11 h, fX11_readableDoor, zc, zcx, zo]
theorem zt19_abort {z : St} (h : zF9 z) (N : Nat) (x1 : Int32) (x2 : Int32) : ∃ r : Int32, fX19_abort N 0 x1 x2 z = some (r, zsI z 19 25 0 1) := by
  simp [fX19_abort, zb19 h, zn19 h, zh19 h, zr19 h, zd19 h, ze19 h, zfails_1, fX19_canRead, zc, zcx, zo, fX19_abort_22, fX19_abort_33, fX19_abort_38]
theorem zt11_door {z : St} (h : zF1 z) (N : Nat) (x1 : Int32) (x2 : Int32) (x3 : Int32) : fX11_door N 0 x1 x2 x3 z = some (.inr 1, z) := by
  simp [fX11_door, zb11 h, zn11 h, zh11 h, zr11 h, zd11 h, fX11_readableDoor, zc, zcx, zo, fX11_door_34, fX11_door_59]
theorem zt19_door {z : St} (h : zF9 z) (N : Nat) (x1 : Int32) (x2 : Int32) (x3 : Int32) : ∃ r : Int32, fX19_door N 0 x1 x2 x3 z = some (r, zsI z 19 25 0 1) := by
  simp [fX19_door, zb19 h, zn19 h, zh19 h, zr19 h, zd19 h, ze19 h, zfails_1, fX19_canRead, zc, zcx, zo, fX19_door_20, fX19_door_221, fX19_door_25, fX19_door_64]
theorem zt11_way {z : St} (h : zF1 z) (N : Nat) (x1 : Int32) (x2 : Int32) (x3 : Int32) : fX11_way N 0 x1 x2 x3 z = some (.inr 1, z) := by
  simp [fX11_way, zb11 h, zn11 h, zh11 h, zr11 h, zd11 h, fX11_readableDoor, zc, zcx, zo, fX11_way_20, fX11_way_39]
theorem zt19_way {z : St} (h : zF9 z) (N : Nat) (x1 : Int32) (x2 : Int32) (x3 : Int32) : ∃ r : Int32, fX19_way N 0 x1 x2 x3 z = some (r, zsI z 19 25 0 1) := by
  simp [fX19_way, zb19 h, zn19 h, zh19 h, zr19 h, zd19 h, ze19 h, zfails_1, fX19_canRead, zc, zcx, zo, fX19_way_26, fX19_way_31]
theorem zt11_friends {z : St} (h : zF1 z) (N : Nat) (x1 : Int32) (x2 : Int32) (x3 : Int32) : fX11_friends N 0 x1 x2 x3 z = some (.inr 1, z) := by
  simp [fX11_friends, zb11 h, zn11 h, zh11 h, zr11 h, zd11 h, fX11_readableDoor, zc, zcx, zo, fX11_friends_20]
theorem zt19_friends {z : St} (h : zF9 z) (N : Nat) (x1 : Int32) (x2 : Int32) (x3 : Int32) : ∃ r : Int32, fX19_friends N 0 x1 x2 x3 z = some (r, zsI z 19 25 0 1) := by
  simp [fX19_friends, zb19 h, zn19 h, zh19 h, zr19 h, zd19 h, ze19 h, zfails_1, fX19_canRead, zc, zcx, zo, fX19_friends_25, fX19_friends_30]
theorem zt11_advert {z : St} (h : zF1 z) (N : Nat) (x1 : Int32) (x2 : Int32) : fX11_advert N 0 x1 x2 z = some (.inr 1, z) := by
  simp [fX11_advert, zb11 h, zn11 h, zh11 h, zr11 h, zd11 h, fX11_readableDoor, zc, zcx, zo, fX11_advert_18]
theorem zt19_advert {z : St} (h : zF9 z) (N : Nat) (x1 : Int32) (x2 : Int32) : ∃ r : Int32, fX19_advert N 0 x1 x2 z = some (r, zsI z 19 25 0 1) := by
  simp [fX19_advert, zb19 h, zn19 h, zh19 h, zr19 h, zd19 h, ze19 h, zfails_1, fX19_canRead, zc, zcx, zo, fX19_advert_17, fX19_advert_22]
theorem zt11_count {z : St} (h : zF1 z) (N : Nat) (x1 : Int32) (x2 : Int32) : fX11_count N 0 x1 x2 z = some (.inr 1, z) := by
  simp [fX11_count, zb11 h, zn11 h, zh11 h, zr11 h, zd11 h, fX11_readableDoor, zc, zcx, zo, fX11_count_10]
theorem zt19_count {z : St} (h : zF9 z) (N : Nat) (x1 : Int32) (x2 : Int32) : ∃ r : Int32, fX19_count N 0 x1 x2 z = some (r, zsI z 19 25 0 1) := by
  simp [fX19_count, zb19 h, zn19 h, zh19 h, zr19 h, zd19 h, ze19 h, zfails_1, fX19_canRead, zc, zcx, zo, fX19_count_17, fX19_count_36, fX19_count_40, fX19_count_41, fX19_count_52]
theorem zt11_shouldCost {z : St} (h : zF1 z) (N : Nat) (x1 : Int32) (x2 : Int32) : fX11_shouldCost N 0 x1 x2 z = some (.inr 1, z) := by
  simp [fX11_shouldCost, zb11 h, zn11 h, zh11 h, zr11 h, zd11 h, fX11_readableDoor, zc, zcx, zo, fX11_shouldCost_22]
theorem zt19_shouldCost {z : St} (h : zF9 z) (N : Nat) (x1 : Int32) (x2 : Int32) : ∃ r : Int32, fX19_shouldCost N 0 x1 x2 z = some (r, zsI z 19 25 0 1) := by
  simp [fX19_shouldCost, zb19 h, zn19 h, zh19 h, zr19 h, zd19 h, ze19 h, zfails_1, fX19_canRead, zc, zcx, zo, fX19_shouldCost_17, fX19_shouldCost_22]
theorem zt11_drain {z : St} (h : zF1 z) (N : Nat) (x1 : Int32) (x2 : Int32) (x3 : Int32) : fX11_drain N 0 x1 x2 x3 z = some (.inr 1, z) := by
  simp [fX11_drain, zb11 h, zn11 h, zh11 h, zr11 h, zd11 h, fX11_readableDoor, zc, zcx, zo]
theorem zt19_drain {z : St} (h : zF9 z) (N : Nat) (x1 : Int32) (x2 : Int32) (x3 : Int32) : ∃ r : Int32, fX19_drain N 0 x1 x2 x3 z = some (r, zsI z 19 25 0 1) := by
  simp [fX19_drain, zb19 h, zn19 h, zh19 h, zr19 h, zd19 h, ze19 h, zfails_1, fX19_canRead, zc, zcx, zo, fX19_drain_15, fX19_drain_29]
theorem zt11_drained {z : St} (h : zF1 z) (N : Nat) (x1 : Int32) (x2 : Int32) : fX11_drained N 0 x1 x2 z = some (.inr 1, z) := by
  simp [fX11_drained, zb11 h, zn11 h, zh11 h, zr11 h, zd11 h, fX11_readableDoor, zc, zcx, zo]
theorem zt19_drained {z : St} (h : zF9 z) (N : Nat) (x1 : Int32) (x2 : Int32) : ∃ r : Int32, fX19_drained N 0 x1 x2 z = some (r, zsI z 19 25 0 1) := by
  simp [fX19_drained, zb19 h, zn19 h, zh19 h, zr19 h, zd19 h, ze19 h, zfails_1, fX19_canRead, zc, zcx, zo, fX19_drained_15]
theorem zqc_t {β : Type} {c : Prop} {k : Option β} (hc : c) : zqc c k = k := by unfold zqc; rw [if_pos hc]
theorem zo_3 {z : St} (h : zF1 z) (h9 : zF9 z) (N : Nat) (sc : Nat → Int32) (I : List (Nat × Nat)) : ∃ S, fLaw_3 N sc I 1134 2818858 z = some S := by
  have hrm : 1134 + rmL_cost.cells ≤ room_1.cells ∧ 2818858 + rmL_cost.slots ≤ room_1.slots := ⟨Nat.le_of_ble_eq_true rfl, Nat.le_of_ble_eq_true rfl⟩
  obtain ⟨r0, hr0⟩ := zt19_cost h9 N (sc 1) (sc 2) (sc 3)
  unfold fLaw_3
  rw [zqc_t hrm]
  simp [fL_cost, zt11_cost h, hr0, zc, fX19_thrown, zgI_sI]
theorem zo_4 {z : St} (h : zF1 z) (h9 : zF9 z) (N : Nat) (sc : Nat → Int32) (I : List (Nat × Nat)) : ∃ S, fLaw_4 N sc I 1134 2818858 z = some S := by
  have hrm : 1134 + rmL_link.cells ≤ room_1.cells ∧ 2818858 + rmL_link.slots ≤ room_1.slots := ⟨Nat.le_of_ble_eq_true rfl, Nat.le_of_ble_eq_true rfl⟩
  obtain ⟨r0, hr0⟩ := zt19_link h9 N (sc 1) (0 : Int32)
  obtain ⟨r1, hr1⟩ := zt19_link h9 N (sc 1) (1 : Int32)
  unfold fLaw_4
  split
  · rw [zqc_t hrm]
    simp [fL_link, zt11_link h, hr0, hr1, zc, fX19_thrown, zgI_sI]
  · rw [zqc_t hrm]
    simp [fL_link, zt11_link h, hr0, hr1, zc, fX19_thrown, zgI_sI]
theorem zo_5 {z : St} (h : zF1 z) (h9 : zF9 z) (N : Nat) (sc : Nat → Int32) (I : List (Nat × Nat)) : ∃ S, fLaw_5 N sc I 1134 2818858 z = some S := by
  have hrm : 1134 + rmL_fates.cells ≤ room_1.cells ∧ 2818858 + rmL_fates.slots ≤ room_1.slots := ⟨Nat.le_of_ble_eq_true rfl, Nat.le_of_ble_eq_true rfl⟩
  unfold fLaw_5
  rw [zqc_t hrm]
  generalize (((Int32.toInt64 (sc 2)) <<< (((32 : Int32)).toInt64 &&& 63)) ||| ((Int32.toInt64 (sc 3)) &&& (4294967295 : Int64))) = x9
  obtain ⟨r0, hr0⟩ := zt19_fates h9 N (sc 1) x9 (sc 4)
  simp [fL_fates, zt11_fates h, hr0, zc, fX19_thrown, zgI_sI]
theorem zo_7 {z : St} (h : zF1 z) (h9 : zF9 z) (N : Nat) (sc : Nat → Int32) (I : List (Nat × Nat)) : ∃ S, fLaw_7 N sc I 1134 2818858 z = some S := by
  have hrm : 1134 + rmL_listen.cells ≤ room_1.cells ∧ 2818858 + rmL_listen.slots ≤ room_1.slots := ⟨Nat.le_of_ble_eq_true rfl, Nat.le_of_ble_eq_true rfl⟩
  obtain ⟨r0, hr0⟩ := zt19_listen h9 N (sc 1) (sc 2) (sc 3)
  unfold fLaw_7
  rw [zqc_t hrm]
  simp [fL_listen, zt11_listen h, hr0, zc, fX19_thrown, zgI_sI]
theorem zo_8 {z : St} (h : zF1 z) (h9 : zF9 z) (N : Nat) (sc : Nat → Int32) (I : List (Nat × Nat)) : ∃ S, fLaw_8 N sc I 1134 2818858 z = some S := by
  have hrm : 1134 + rmL_open.cells ≤ room_1.cells ∧ 2818858 + rmL_open.slots ≤ room_1.slots := ⟨Nat.le_of_ble_eq_true rfl, Nat.le_of_ble_eq_true rfl⟩
  obtain ⟨r0, hr0⟩ := zt19_open h9 N (sc 1) (sc 2) (sc 3)
  unfold fLaw_8
  rw [zqc_t hrm]
  simp [fL_open, zt11_open h, hr0, zc, fX19_thrown, zgI_sI]
theorem zo_9 {z : St} (h : zF1 z) (h9 : zF9 z) (N : Nat) (sc : Nat → Int32) (I : List (Nat × Nat)) : ∃ S, fLaw_9 N sc I 1134 2818858 z = some S := by
  have hrm : 1134 + rmL_accept.cells ≤ room_1.cells ∧ 2818858 + rmL_accept.slots ≤ room_1.slots := ⟨Nat.le_of_ble_eq_true rfl, Nat.le_of_ble_eq_true rfl⟩
  obtain ⟨r0, hr0⟩ := zt19_accept h9 N (sc 1) (sc 2)
  unfold fLaw_9
  rw [zqc_t hrm]
  simp [fL_accept, zt11_accept h, hr0, zc, fX19_thrown, zgI_sI]
theorem zo_10 {z : St} (h : zF1 z) (h9 : zF9 z) (N : Nat) (sc : Nat → Int32) (I : List (Nat × Nat)) : ∃ S, fLaw_10 N sc I 1134 2818858 z = some S := by
  have hrm : 1134 + rmL_write.cells ≤ room_1.cells ∧ 2818858 + rmL_write.slots ≤ room_1.slots := ⟨Nat.le_of_ble_eq_true rfl, Nat.le_of_ble_eq_true rfl⟩
  unfold fLaw_10
  rw [zqc_t hrm]
  generalize (((Int32.toInt64 (sc 3)) <<< (((32 : Int32)).toInt64 &&& 63)) ||| ((Int32.toInt64 (sc 4)) &&& (4294967295 : Int64))) = x9
  obtain ⟨r0, hr0⟩ := zt19_write h9 N (sc 1) (sc 2) x9 (sc 5)
  simp [fL_write, zt11_write h, hr0, zc, fX19_thrown, zgI_sI]
theorem zo_11 {z : St} (h : zF1 z) (h9 : zF9 z) (N : Nat) (sc : Nat → Int32) (I : List (Nat × Nat)) : ∃ S, fLaw_11 N sc I 1134 2818858 z = some S := by
  have hrm : 1134 + rmL_fill.cells ≤ room_1.cells ∧ 2818858 + rmL_fill.slots ≤ room_1.slots := ⟨Nat.le_of_ble_eq_true rfl, Nat.le_of_ble_eq_true rfl⟩
  obtain ⟨r0, hr0⟩ := zt19_fill h9 N (sc 1) (sc 2) (sc 3) (sc 4) (sc 5)
  unfold fLaw_11
  rw [zqc_t hrm]
  simp [fL_fill, zt11_fill h, hr0, zc, fX19_thrown, zgI_sI]
theorem zo_12 {z : St} (h : zF1 z) (h9 : zF9 z) (N : Nat) (sc : Nat → Int32) (I : List (Nat × Nat)) : ∃ S, fLaw_12 N sc I 1134 2818858 z = some S := by
  have hrm : 1134 + rmL_read.cells ≤ room_1.cells ∧ 2818858 + rmL_read.slots ≤ room_1.slots := ⟨Nat.le_of_ble_eq_true rfl, Nat.le_of_ble_eq_true rfl⟩
  obtain ⟨r0, hr0⟩ := zt19_read h9 N (sc 1) (sc 2)
  unfold fLaw_12
  rw [zqc_t hrm]
  simp [fL_read, zt11_read h, hr0, zc, fX19_thrown, zgI_sI]
theorem zo_13 {z : St} (h : zF1 z) (h9 : zF9 z) (N : Nat) (sc : Nat → Int32) (I : List (Nat × Nat)) : ∃ S, fLaw_13 N sc I 1134 2818858 z = some S := by
  have hrm : 1134 + rmL_readAll.cells ≤ room_1.cells ∧ 2818858 + rmL_readAll.slots ≤ room_1.slots := ⟨Nat.le_of_ble_eq_true rfl, Nat.le_of_ble_eq_true rfl⟩
  obtain ⟨r0, hr0⟩ := zt19_readAll h9 N (sc 1) (sc 2) (sc 3)
  unfold fLaw_13
  rw [zqc_t hrm]
  simp [fL_readAll, zt11_readAll h, hr0, zc, fX19_thrown, zgI_sI]
theorem zo_14 {z : St} (h : zF1 z) (h9 : zF9 z) (N : Nat) (sc : Nat → Int32) (I : List (Nat × Nat)) : ∃ S, fLaw_14 N sc I 1134 2818858 z = some S := by
  have hrm : 1134 + rmL_close.cells ≤ room_1.cells ∧ 2818858 + rmL_close.slots ≤ room_1.slots := ⟨Nat.le_of_ble_eq_true rfl, Nat.le_of_ble_eq_true rfl⟩
  obtain ⟨r0, hr0⟩ := zt19_close h9 N (sc 1) (sc 2)
  unfold fLaw_14
  rw [zqc_t hrm]
  simp [fL_close, zt11_close h, hr0, zc, fX19_thrown, zgI_sI]
theorem zo_15 {z : St} (h : zF1 z) (h9 : zF9 z) (N : Nat) (sc : Nat → Int32) (I : List (Nat × Nat)) : ∃ S, fLaw_15 N sc I 1134 2818858 z = some S := by
  have hrm : 1134 + rmL_abort.cells ≤ room_1.cells ∧ 2818858 + rmL_abort.slots ≤ room_1.slots := ⟨Nat.le_of_ble_eq_true rfl, Nat.le_of_ble_eq_true rfl⟩
  obtain ⟨r0, hr0⟩ := zt19_abort h9 N (sc 1) (sc 2)
  unfold fLaw_15
  rw [zqc_t hrm]
  simp [fL_abort, zt11_abort h, hr0, zc, fX19_thrown, zgI_sI]
theorem zo_16 {z : St} (h : zF1 z) (h9 : zF9 z) (N : Nat) (sc : Nat → Int32) (I : List (Nat × Nat)) : ∃ S, fLaw_16 N sc I 1134 2818858 z = some S := by
  have hrm : 1134 + rmL_door.cells ≤ room_1.cells ∧ 2818858 + rmL_door.slots ≤ room_1.slots := ⟨Nat.le_of_ble_eq_true rfl, Nat.le_of_ble_eq_true rfl⟩
  obtain ⟨r0, hr0⟩ := zt19_door h9 N (sc 1) (sc 2) (sc 3)
  unfold fLaw_16
  rw [zqc_t hrm]
  simp [fL_door, zt11_door h, hr0, zc, fX19_thrown, zgI_sI]
theorem zo_17 {z : St} (h : zF1 z) (h9 : zF9 z) (N : Nat) (sc : Nat → Int32) (I : List (Nat × Nat)) : ∃ S, fLaw_17 N sc I 1134 2818858 z = some S := by
  have hrm : 1134 + rmL_way.cells ≤ room_1.cells ∧ 2818858 + rmL_way.slots ≤ room_1.slots := ⟨Nat.le_of_ble_eq_true rfl, Nat.le_of_ble_eq_true rfl⟩
  obtain ⟨r0, hr0⟩ := zt19_way h9 N (sc 1) (sc 2) (sc 3)
  unfold fLaw_17
  rw [zqc_t hrm]
  simp [fL_way, zt11_way h, hr0, zc, fX19_thrown, zgI_sI]
theorem zo_18 {z : St} (h : zF1 z) (h9 : zF9 z) (N : Nat) (sc : Nat → Int32) (I : List (Nat × Nat)) : ∃ S, fLaw_18 N sc I 1134 2818858 z = some S := by
  have hrm : 1134 + rmL_friends.cells ≤ room_1.cells ∧ 2818858 + rmL_friends.slots ≤ room_1.slots := ⟨Nat.le_of_ble_eq_true rfl, Nat.le_of_ble_eq_true rfl⟩
  obtain ⟨r0, hr0⟩ := zt19_friends h9 N (sc 1) (sc 2) (sc 3)
  unfold fLaw_18
  rw [zqc_t hrm]
  simp [fL_friends, zt11_friends h, hr0, zc, fX19_thrown, zgI_sI]
theorem zo_19 {z : St} (h : zF1 z) (h9 : zF9 z) (N : Nat) (sc : Nat → Int32) (I : List (Nat × Nat)) : ∃ S, fLaw_19 N sc I 1134 2818858 z = some S := by
  have hrm : 1134 + rmL_advert.cells ≤ room_1.cells ∧ 2818858 + rmL_advert.slots ≤ room_1.slots := ⟨Nat.le_of_ble_eq_true rfl, Nat.le_of_ble_eq_true rfl⟩
  obtain ⟨r0, hr0⟩ := zt19_advert h9 N (sc 1) (sc 2)
  unfold fLaw_19
  rw [zqc_t hrm]
  simp [fL_advert, zt11_advert h, hr0, zc, fX19_thrown, zgI_sI]
theorem zo_20 {z : St} (h : zF1 z) (h9 : zF9 z) (N : Nat) (sc : Nat → Int32) (I : List (Nat × Nat)) : ∃ S, fLaw_20 N sc I 1134 2818858 z = some S := by
  have hrm : 1134 + rmL_count.cells ≤ room_1.cells ∧ 2818858 + rmL_count.slots ≤ room_1.slots := ⟨Nat.le_of_ble_eq_true rfl, Nat.le_of_ble_eq_true rfl⟩
  obtain ⟨r0, hr0⟩ := zt19_count h9 N (sc 1) (sc 2)
  unfold fLaw_20
  rw [zqc_t hrm]
  simp [fL_count, zt11_count h, hr0, zc, fX19_thrown, zgI_sI]
theorem zo_23 {z : St} (h : zF1 z) (h9 : zF9 z) (N : Nat) (sc : Nat → Int32) (I : List (Nat × Nat)) : ∃ S, fLaw_23 N sc I 1134 2818858 z = some S := by
  have hrm : 1134 + rmL_shouldCost.cells ≤ room_1.cells ∧ 2818858 + rmL_shouldCost.slots ≤ room_1.slots := ⟨Nat.le_of_ble_eq_true rfl, Nat.le_of_ble_eq_true rfl⟩
  obtain ⟨r0, hr0⟩ := zt19_shouldCost h9 N (sc 1) (sc 2)
  unfold fLaw_23
  rw [zqc_t hrm]
  simp [fL_shouldCost, zt11_shouldCost h, hr0, zc, fX19_thrown, zgI_sI]
theorem zo_25 {z : St} (h : zF1 z) (h9 : zF9 z) (N : Nat) (sc : Nat → Int32) (I : List (Nat × Nat)) : ∃ S, fLaw_25 N sc I 1134 2818858 z = some S := by
  have hrm : 1134 + rmL_drain.cells ≤ room_1.cells ∧ 2818858 + rmL_drain.slots ≤ room_1.slots := ⟨Nat.le_of_ble_eq_true rfl, Nat.le_of_ble_eq_true rfl⟩
  obtain ⟨r0, hr0⟩ := zt19_drain h9 N (sc 1) (sc 2) (0 : Int32)
  obtain ⟨r1, hr1⟩ := zt19_drain h9 N (sc 1) (sc 2) (1 : Int32)
  unfold fLaw_25
  split
  · rw [zqc_t hrm]
    simp [fL_drain, zt11_drain h, hr0, hr1, zc, fX19_thrown, zgI_sI]
  · rw [zqc_t hrm]
    simp [fL_drain, zt11_drain h, hr0, hr1, zc, fX19_thrown, zgI_sI]
theorem zo_26 {z : St} (h : zF1 z) (h9 : zF9 z) (N : Nat) (sc : Nat → Int32) (I : List (Nat × Nat)) : ∃ S, fLaw_26 N sc I 1134 2818858 z = some S := by
  have hrm : 1134 + rmL_drained.cells ≤ room_1.cells ∧ 2818858 + rmL_drained.slots ≤ room_1.slots := ⟨Nat.le_of_ble_eq_true rfl, Nat.le_of_ble_eq_true rfl⟩
  obtain ⟨r0, hr0⟩ := zt19_drained h9 N (sc 1) (sc 2)
  unfold fLaw_26
  rw [zqc_t hrm]
  simp [fL_drained, zt11_drained h, hr0, zc, fX19_thrown, zgI_sI]
def zF0 (z : St) (I : List (Nat × Nat)) : Prop := (∀ j, zgI z 11 j 0 = 0) ∧ (zgI z 19 19 0 = 0 ∧ zgI z 19 21 0 = 0 ∧ zgI z 19 23 0 = 0 ∧ zgI z 19 24 0 = 0 ∧ zgI z 19 26 0 = 0 ∧ zgI z 19 27 0 = 0) ∧ (∀ i, zgQ z 139 0 i = if i < 24 then some i else none) ∧ (∀ i, zgQ z 141 0 i = none) ∧ (∀ q, q ∈ I → zok9 q = true)
theorem zF0_1 {z : St} {I : List (Nat × Nat)} (h : zF0 z I) : zF1 z := ⟨h.1 1, h.1 3⟩
theorem zF0_9 {z : St} {I : List (Nat × Nat)} (h : zF0 z I) : zF9 z := ⟨h.2.1.1, h.2.1.2.1⟩
theorem zo_21 {z : St} {I : List (Nat × Nat)} (h : zF0 z I) (N : Nat) (sc : Nat → Int32) : ∃ S, fLaw_21 N sc I 1134 2818858 z = some S := by
  obtain ⟨h1, ⟨g19, g21, g23, g24, g26, g27⟩, -⟩ := h
  simp [fLaw_21, fX11_underWay, fX19_underWay, zc, zl, zgI_sI, h1, g23]
theorem zo_22 {z : St} {I : List (Nat × Nat)} (h : zF0 z I) (N : Nat) (sc : Nat → Int32) : ∃ S, fLaw_22 N sc I 1134 2818858 z = some S := by
  obtain ⟨h1, ⟨g19, g21, g23, g24, g26, g27⟩, -⟩ := h
  simp [fLaw_22, fX11_time, fX19_time, zc, zl, zgI_sI, h1, g24]
theorem zo_27 {z : St} {I : List (Nat × Nat)} (h : zF0 z I) (N : Nat) (sc : Nat → Int32) : ∃ S, fLaw_27 N sc I 1134 2818858 z = some S := by
  obtain ⟨h1, ⟨g19, g21, g23, g24, g26, g27⟩, -⟩ := h
  simp [fLaw_27, fX11_strays, fX19_strays, zc, zl, zgI_sI, h1, g26]
theorem zo_24 {z : St} {I : List (Nat × Nat)} (h : zF0 z I) (N : Nat) (sc : Nat → Int32) : ∃ S, fLaw_24 (N + 1) sc I 1134 2818858 z = some S := by
  obtain ⟨h1, ⟨g19, g21, g23, g24, g26, g27⟩, -⟩ := h
  simp [fLaw_24, fX11_bound, fX11_calmBound, fX11_calmBound_4, fX11_calmBound_4b, fX19_bound, fX19_boundNow, fX19_boundNow_4, fX19_boundNow_4b, zc, zl, zgI_sI, h1, g19, g21]
theorem zo_28 {z : St} {I : List (Nat × Nat)} (h : zF0 z I) (N : Nat) (sc : Nat → Int32) : ∃ S, fLaw_28 (N + 1) sc I 1134 2818858 z = some S := by
  obtain ⟨h1, ⟨g19, g21, g23, g24, g26, g27⟩, -⟩ := h
  simp [fLaw_28, fX11_overdue, fX11_calmBound, fX11_calmBound_4, fX11_calmBound_4b, fX19_overdue, fX19_boundNow, fX19_boundNow_4, fX19_boundNow_4b, zc, zl, zgI_sI, h1, g19, g21, g24, g27]
theorem zt11_join {z : St} (h : zF1 z) (N : Nat) {RC RS : Nat} (h1 : 1 ≤ RC) (h2 : 6 ≤ RS) (x1 x2 : Int32) (I : List (Nat × Nat)) : fX11_join N RC RS 0 x1 x2 I z = some (.inr 1, z, I) := by
  simp [fX11_join, zb11 h, zn11 h, zc, zo, zqc_t (⟨h1, h2⟩ : 1 ≤ RC ∧ 6 ≤ RS)]
theorem zt19_join {z : St} (h : zF9 z) (N RC RS : Nat) (x1 x2 : Int32) (I : List (Nat × Nat)) : fX19_join N RC RS 0 x1 x2 I z = some ((0 : Int32), zsI z 19 25 0 1, I) := by
  simp [fX19_join, zb19 h, zc, fX19_join_22, zfails_1]
theorem zo_2 {z : St} (h : zF1 z) (h9 : zF9 z) (N : Nat) (sc : Nat → Int32) (I : List (Nat × Nat)) : ∃ S, fLaw_2 N sc I 1134 2818858 z = some S := by
  unfold fLaw_2
  have e1 := zt11_join h N (RC := 40) (RS := 25562) (by decide) (by decide) (sc 1) (sc 2) I
  have e2 := zt11_join h N (RC := 1) (RS := 6) (by decide) (by decide) (sc 1) (sc 2) I
  have e3 := fun RC RS => zt19_join h9 N RC RS (sc 1) (sc 2) I
  have r1 : 1134 + (rmL_join 1 6).cells ≤ room_1.cells ∧ 2818858 + (rmL_join 1 6).slots ≤ room_1.slots := ⟨Nat.le_of_ble_eq_true rfl, Nat.le_of_ble_eq_true rfl⟩
  have r2 : 1134 + (rmL_join 1 6).cells + (rmX19_join 0 0).cells ≤ room_1.cells ∧ 2818858 + (rmL_join 1 6).slots + (rmX19_join 0 0).slots ≤ room_1.slots := ⟨Nat.le_of_ble_eq_true rfl, Nat.le_of_ble_eq_true rfl⟩
  have q1 : zcx1 (fX11_join N 40 25562 0 (sc 1) (sc 2) I z) 40 1 = 1 := by rw [e1]; rfl
  have q2 : zcx1 (fX11_join N 40 25562 0 (sc 1) (sc 2) I z) 25562 6 = 6 := by rw [e1]; rfl
  have e4 : fL_join N 1 6 0 (sc 1) (sc 2) 0 I z = some ((1 : Int32), z, I) := by simp [fL_join, e2]
  have q3 : ∀ RC, zcy1 (fX19_join N 6 71 0 (sc 1) (sc 2) I z) RC = 0 := fun RC => by rw [e3]; simp [zcy1, zgI_sI]
  rw [q1, q2, e4, zqc_t r1]
  simp only [zc3]
  rw [q3, q3, zqc_t r2, e3]
  simp [zc, fX19_thrown, zgI_sI]
theorem zo_1a {z : St} {I : List (Nat × Nat)} (N : Nat) (sc : Nat → Int32) (e1 : fX11_net N 0 (sc 1) (sc 2) z = some (.inr 1, z)) (e3 : ∀ RC RS, fX19_net N RC RS 0 (sc 1) (sc 2) I z = some ((0 : Int32), zsI z 19 25 0 1, I)) : ∃ S, fLaw_1 N sc I 1134 2818858 z = some S := by
  unfold fLaw_1
  have r1 : 1134 + rmL_net.cells ≤ room_1.cells ∧ 2818858 + rmL_net.slots ≤ room_1.slots := ⟨Nat.le_of_ble_eq_true rfl, Nat.le_of_ble_eq_true rfl⟩
  have r2 : 1134 + rmL_net.cells + (rmX19_net 0 0).cells ≤ room_1.cells ∧ 2818858 + rmL_net.slots + (rmX19_net 0 0).slots ≤ room_1.slots := ⟨Nat.le_of_ble_eq_true rfl, Nat.le_of_ble_eq_true rfl⟩
  have e4 : fL_net N 0 (sc 1) (sc 2) 0 z = some ((1 : Int32), z) := by simp [fL_net, e1]
  have q3 : ∀ RC, zcy1 (fX19_net N 3 82 0 (sc 1) (sc 2) I z) RC = 0 := fun RC => by rw [e3]; simp [zcy1, zgI_sI]
  rw [zqc_t r1, e4]
  simp only [zc]
  rw [q3, q3, zqc_t r2, e3]
  simp [zc3, zc, fX19_thrown, zgI_sI]
theorem zfr_ok {nm I : List (Nat × Nat)} (h1 : nm.Nodup) (h2 : ∀ q, q ∈ nm → zok9 q = false) (h : ∀ q, q ∈ I → zok9 q = true) : zfr nm I := ⟨h1, fun q hq hI => by
  have a := h2 q hq
  rw [h q hI] at a
  cases a⟩
theorem zo_1b {z1 : St} {I : List (Nat × Nat)} (g21 : zgI z1 19 21 0 = 0) (hfr : zfr (znmX16 0) I) (N : Nat) (x1 x2 : Int32) (c1 : ¬ x1 < 100) (c2 : ¬ 1500 < x1) (c3 : ¬ x2 < 1) (c4 : x2 ≤ 50) : ∃ z2 I2, fX19_net N 3 82 0 x1 x2 I z1 = some ((0 : Int32), z2, I2) ∧ zgI z2 19 25 0 = 0 ∧ zgL z2 193 0 0 = zgL z1 193 0 0 := by
  have hq : ∀ {β : Type} (k : Option β), zqc (zfr (znmX16 0) I) k = k := fun k => zqc_t hfr
  have m1 : (16, 0) ∈ znmX16 0 := List.mem_of_getElem? (i := 0) rfl
  have m2 : (19, 0) ∉ znmX16 0 := by decide
  have m3 : (193, 0) ∉ znmX16 0 := by decide
  have hm : ∀ (nm : List (Nat × Nat)) (w z : St) (k j o : Nat), zgL (zmg nm w z) k j o = if (k, j) ∈ nm then zgL w k j o else zgL z k j o := fun _ _ _ _ _ _ => rfl
  simp [fX19_net, c1, c2, c3, c4, fX19_net_30, fX19_net_44, zfails_0, zc, zl, g21, zgI_sI, zgI_sQ, zgL_sI, zgL_sQ, hq, zgI_mg, hm, m1, m2, m3, zk, fX19_stir]
theorem zo_1 {z : St} {I : List (Nat × Nat)} (h : zF0 z I) (N : Nat) (sc : Nat → Int32) : ∃ S, fLaw_1 N sc I 1134 2818858 z = some S := by
  obtain ⟨h1, ⟨g19, g21, g23, g24, g26, g27⟩, hQ, -, hI⟩ := h
  by_cases c1 : sc 1 < 100
  · have e1 : fX11_net N 0 (sc 1) (sc 2) z = some (.inr 1, z) := by simp [fX11_net, c1, fX11_net_13, fX11_net_34]
    have e3 : ∀ RC RS, fX19_net N RC RS 0 (sc 1) (sc 2) I z = some ((0 : Int32), zsI z 19 25 0 1, I) := fun RC RS => by simp [fX19_net, c1, fX19_net_30, fX19_net_44, zfails_1, zc, g21]
    exact zo_1a N sc e1 e3
  by_cases c2 : sc 1 ≤ 1500
  · have c2n : ¬ 1500 < sc 1 := Int32.not_lt.mpr c2
    by_cases c3 : sc 2 < 1
    · have e1 : fX11_net N 0 (sc 1) (sc 2) z = some (.inr 1, z) := by simp [fX11_net, c1, c2, c3, fX11_net_13, fX11_net_34]
      have e3 : ∀ RC RS, fX19_net N RC RS 0 (sc 1) (sc 2) I z = some ((0 : Int32), zsI z 19 25 0 1, I) := fun RC RS => by simp [fX19_net, c1, c2n, c3, fX19_net_30, fX19_net_44, zfails_1, zc, g21]
      exact zo_1a N sc e1 e3
    by_cases c4 : sc 2 ≤ 50
    · unfold fLaw_1
      have r1 : 1134 + rmL_net.cells ≤ room_1.cells ∧ 2818858 + rmL_net.slots ≤ room_1.slots := ⟨Nat.le_of_ble_eq_true rfl, Nat.le_of_ble_eq_true rfl⟩
      have r2 : 1134 + rmL_net.cells + (rmX19_net 3 82).cells ≤ room_1.cells ∧ 2818858 + rmL_net.slots + (rmX19_net 3 82).slots ≤ room_1.slots := ⟨Nat.le_of_ble_eq_true rfl, Nat.le_of_ble_eq_true rfl⟩
      obtain ⟨z1, e1, k1⟩ : ∃ z1, fX11_net N 0 (sc 1) (sc 2) z = some (.inl 0, z1) ∧ (∀ j o, zgI z1 19 j o = zgI z 19 j o) := by
        have hq0 := hQ 0
        rw [if_pos (by decide)] at hq0
        simp [fX11_net, c1, c2, c3, c4, zk, zl, zd, h1, hq0, fX11_changeWorld, fX11_stir, zc, zgI_sI, zgQ_sI]
      have e4 : fL_net N 0 (sc 1) (sc 2) 0 z = some ((0 : Int32), zsL z1 193 0 0 0) := by simp [fL_net, e1]
      have g1 : zgI (zsL z1 193 0 0 0) 19 21 0 = 0 := by rw [zgI_sL, k1, g21]
      obtain ⟨z2, I2, e3, t2, l2⟩ := zo_1b g1 (zfr_ok (by decide) (by decide) hI) N (sc 1) (sc 2) c1 c2n c3 c4
      have q3 : ∀ RC, zcy1 (fX19_net N 3 82 0 (sc 1) (sc 2) I (zsL z1 193 0 0 0)) RC = RC := fun RC => by rw [e3]; simp [zcy1, t2]
      have l3 : zgL z2 193 0 0 = 0 := by rw [l2]; simp [zgL_sL]
      rw [zqc_t r1, e4]
      simp only [zc]
      rw [q3, q3, zqc_t r2, e3]
      have l4 : lg_cmp 0 0 = 0 := by decide
      simp [zc3, zc, fX19_thrown, t2, l3, l4]
    · have e1 : fX11_net N 0 (sc 1) (sc 2) z = some (.inr 1, z) := by simp [fX11_net, c1, c2, c3, c4, fX11_net_13, fX11_net_34]
      have e3 : ∀ RC RS, fX19_net N RC RS 0 (sc 1) (sc 2) I z = some ((0 : Int32), zsI z 19 25 0 1, I) := fun RC RS => by simp [fX19_net, c1, c2n, c3, c4, fX19_net_30, fX19_net_44, zfails_1, zc, g21]
      exact zo_1a N sc e1 e3
  · have c2n : 1500 < sc 1 := Int32.not_le.mp c2
    have e1 : fX11_net N 0 (sc 1) (sc 2) z = some (.inr 1, z) := by simp [fX11_net, c1, c2, fX11_net_13, fX11_net_34]
    have e3 : ∀ RC RS, fX19_net N RC RS 0 (sc 1) (sc 2) I z = some ((0 : Int32), zsI z 19 25 0 1, I) := fun RC RS => by simp [fX19_net, c1, c2n, fX19_net_30, fX19_net_44, zfails_1, zc, g21]
    exact zo_1a N sc e1 e3
theorem z255 : ∀ a, a < 1001 → ¬ ((Int32.ofNat a &&& (255 : Int32)) < 0 ∨ 256 ≤ (Int32.ofNat a &&& (255 : Int32)).toNatClampNeg) := by decide +kernel
theorem zlet0 {z : St} {a : Nat} (ha : a < 1001) (ht : zgI z 11 4 0 = Int32.ofNat a) (hQ : ∀ i, zgQ z 141 0 i = none) (M : Nat) : fX11_letArrive (M + 1) 0 z = some ((0 : Int32), z) := by
  unfold fX11_letArrive
  show fX11_letArrive_11b (M + 1) (fX11_letArrive_11 (M + 1) M) 0 (zgI z 11 4 0 &&& (255 : Int32)) (0 : Int32) z = some ((0 : Int32), z)
  unfold fX11_letArrive_11b
  rw [if_neg (by decide), ht]
  unfold zk
  rw [if_neg (z255 a ha)]
  unfold zl
  rw [hQ]
  rfl
theorem zrun11 (M : Nat) : ∀ (k a n : Nat) (z : St), k < n → a + k ≤ 1000 → zgI z 11 3 0 = 0 → zgI z 11 4 0 = Int32.ofNat a → (∀ i, zgQ z 141 0 i = none) → ∃ z', fX11_run_45 (M + 1) n 0 (Int32.ofNat (a + k)) (Int32.ofNat a) z = some (.inl (Int32.ofNat (a + k)), z') ∧ (∀ j o, zgI z' 19 j o = zgI z 19 j o) := by
  intro k
  induction k with
  | zero =>
    intro a n z hn ha h3 h4 hQ
    obtain ⟨n, rfl⟩ : ∃ n', n = n' + 1 := ⟨n - 1, by omega⟩
    refine ⟨z, ?_, fun _ _ => rfl⟩
    show fX11_run_45b (M + 1) (fX11_run_45 (M + 1) n) 0 (Int32.ofNat a) (Int32.ofNat a) z = _
    unfold fX11_run_45b
    rw [if_pos (Int32.le_refl _), h4]
    rfl
  | succ k ih =>
    intro a n z hn ha h3 h4 hQ
    obtain ⟨n, rfl⟩ : ∃ n', n = n' + 1 := ⟨n - 1, by omega⟩
    have hof := zof_lt (k := a) (N := a + (k + 1)) (by omega) (by omega)
    have t2 : zgI (zsI z 11 4 0 (Int32.ofNat (a + 1))) 11 4 0 = Int32.ofNat (a + 1) := by simp [zgI_sI]
    have t3 : zgI (zsI z 11 4 0 (Int32.ofNat (a + 1))) 11 3 0 = 0 := by simp [zgI_sI, h3]
    have tQ : ∀ i, zgQ (zsI z 11 4 0 (Int32.ofNat (a + 1))) 141 0 i = none := fun i => by rw [zgQ_sI]; exact hQ i
    obtain ⟨z', e, k9⟩ := ih (a + 1) n (zsI z 11 4 0 (Int32.ofNat (a + 1))) (by omega) (by omega) t3 t2 tQ
    refine ⟨z', ?_, fun j o => by rw [k9, zgI_sI]; simp⟩
    show fX11_run_45b (M + 1) (fX11_run_45 (M + 1) n) 0 (Int32.ofNat (a + (k + 1))) (Int32.ofNat a) z = _
    unfold fX11_run_45b
    rw [if_neg hof.2.2.1, h4, show Int32.ofNat a + (1 : Int32) = Int32.ofNat (a + 1) from hof.2.2.2]
    simp only [zl, zlet0 (M := M) (show a + 1 < 1001 by omega) t2 tQ, zc]
    show fX11_run_66b (M + 1) (fX11_run_45 (M + 1) n) (fX11_run_66 (M + 1) (fX11_run_45 (M + 1) n) M) 0 (Int32.ofNat (a + (k + 1))) (Int32.ofNat a) (0 : Int32) (zsI z 11 4 0 (Int32.ofNat (a + 1))) = _
    unfold fX11_run_66b
    rw [t3, if_pos (Int32.le_refl _)]
    unfold zl
    rw [show Int32.ofNat a + (1 : Int32) = Int32.ofNat (a + 1) from hof.2.2.2, show a + (k + 1) = a + 1 + k by omega]
    exact e
theorem ztick19 {z : St} (h9 : zF9 z) (h3 : zgI z 19 23 0 = 0) {v : Int32} (h4 : zgI z 19 24 0 + 1 = v) (M : Nat) : fX19_tick (M + 1) 0 z = some ((0 : Int32), zsI z 19 24 0 v) := by
  unfold fX19_tick
  rw [h4]
  have t3 : zgI (zsI z 19 24 0 v) 19 23 0 = 0 := by simp [zgI_sI, h3]
  have t9 : zgI (zsI z 19 24 0 v) 19 19 0 = 0 := by simp [zgI_sI, h9.1]
  generalize zsI z 19 24 0 v = z1 at t3 t9 ⊢
  have e1 : fX19_arriveAll (M + 1) 0 z1 = some ((0 : Int32), z1) := by
    unfold fX19_arriveAll
    show fX19_arriveAll_2b (M + 1) (fX19_arriveAll_2 (M + 1) M) 0 (0 : Int32) z1 = _
    unfold fX19_arriveAll_2b
    rw [t3, if_pos (Int32.le_refl _)]
  have e2 : fX19_tick_16 (M + 1) (M + 1) 0 (0 : Int32) z1 = some ((0 : Int32), z1) := by
    show fX19_tick_16b (M + 1) (fX19_tick_16 (M + 1) M) 0 (0 : Int32) z1 = _
    unfold fX19_tick_16b
    rw [t9, if_pos (Int32.le_refl _)]
  show zc (fX19_arriveAll (M + 1) 0 z1) (fun _ z3 => fX19_tick_16 (M + 1) (M + 1) 0 (0 : Int32) z3) = _
  rw [e1]
  exact e2
theorem zrun19 (M : Nat) : ∀ (k a n : Nat) (z : St), k < n → a + k ≤ 1000 → zF9 z → zgI z 19 23 0 = 0 → zgI z 19 24 0 = Int32.ofNat a → ∃ z', fX19_run_45 (M + 1) n 0 (Int32.ofNat (a + k)) (Int32.ofNat a) z = some (Int32.ofNat (a + k), z') ∧ zgI z' 19 25 0 = zgI z 19 25 0 ∧ zgL z' 193 0 0 = zgL z 193 0 0 := by
  intro k
  induction k with
  | zero =>
    intro a n z hn ha h9 h3 h4
    obtain ⟨n, rfl⟩ : ∃ n', n = n' + 1 := ⟨n - 1, by omega⟩
    refine ⟨z, ?_, rfl, rfl⟩
    show fX19_run_45b (M + 1) (fX19_run_45 (M + 1) n) 0 (Int32.ofNat a) (Int32.ofNat a) z = _
    unfold fX19_run_45b
    rw [if_pos (Int32.le_refl _), h4]
    rfl
  | succ k ih =>
    intro a n z hn ha h9 h3 h4
    obtain ⟨n, rfl⟩ : ∃ n', n = n' + 1 := ⟨n - 1, by omega⟩
    have hof := zof_lt (k := a) (N := a + (k + 1)) (by omega) (by omega)
    have e1 : Int32.ofNat a + (1 : Int32) = Int32.ofNat (a + 1) := hof.2.2.2
    have t4 : zgI (zsI z 19 24 0 (Int32.ofNat (a + 1))) 19 24 0 = Int32.ofNat (a + 1) := by simp [zgI_sI]
    have t3 : zgI (zsI z 19 24 0 (Int32.ofNat (a + 1))) 19 23 0 = 0 := by simp [zgI_sI, h3]
    have t9 : zF9 (zsI z 19 24 0 (Int32.ofNat (a + 1))) := ⟨by simp [zgI_sI, h9.1], by simp [zgI_sI, h9.2]⟩
    obtain ⟨z', e, k1, k2⟩ := ih (a + 1) n (zsI z 19 24 0 (Int32.ofNat (a + 1))) (by omega) (by omega) t9 t3 t4
    refine ⟨z', ?_, by rw [k1, zgI_sI]; simp, by rw [k2, zgL_sI]⟩
    have tick : fX19_tick (M + 1) 0 z = some ((0 : Int32), zsI z 19 24 0 (Int32.ofNat (a + 1))) := ztick19 h9 h3 (by rw [h4]; exact e1) M
    show fX19_run_45b (M + 1) (fX19_run_45 (M + 1) n) 0 (Int32.ofNat (a + (k + 1))) (Int32.ofNat a) z = _
    unfold fX19_run_45b
    rw [if_neg hof.2.2.1, tick]
    unfold zc zl
    rw [e1, show a + (k + 1) = a + 1 + k by omega]
    exact e
theorem zof_x {x : Int32} (h1 : ¬ x < 1) (h2 : x ≤ 1000) : ∃ a, a ≤ 1000 ∧ x = Int32.ofNat a := by
  have g1 := Int32.le_iff_toInt_le.mp (Int32.not_lt.mp h1)
  have g2 := Int32.le_iff_toInt_le.mp h2
  have a1 : (1 : Int32).toInt = 1 := rfl
  have a2 : (1000 : Int32).toInt = 1000 := rfl
  refine ⟨x.toInt.toNat, by omega, ?_⟩
  apply Int32.toInt_inj.mp
  rw [Int32.toInt_ofNat_of_lt (by omega)]
  omega
theorem zo_6a {z : St} {I : List (Nat × Nat)} (h : zF0 z I) (N : Nat) (sc : Nat → Int32) (e1 : fX11_run N 0 (sc 1) z = some (.inr 1, z)) (e3 : fX19_run N 0 (sc 1) z = some ((0 : Int32), zsI z 19 25 0 1)) : ∃ S, fLaw_6 N sc I 1134 2818858 z = some S := by
  have hrm : 1134 + rmL_run.cells ≤ room_1.cells ∧ 2818858 + rmL_run.slots ≤ room_1.slots := ⟨Nat.le_of_ble_eq_true rfl, Nat.le_of_ble_eq_true rfl⟩
  unfold fLaw_6
  rw [zqc_t hrm]
  simp [fL_run, e1, e3, zc, fX19_thrown, zgI_sI]
theorem zo_6 {z : St} {I : List (Nat × Nat)} (h : zF0 z I) (M : Nat) (hM : 1000 ≤ M) (sc : Nat → Int32) : ∃ S, fLaw_6 (M + 1) sc I 1134 2818858 z = some S := by
  have h0 := h
  obtain ⟨h1, ⟨g19, g21, g23, g24, g26, g27⟩, hQ, hQ2, hI⟩ := h
  by_cases c1 : sc 1 < 1
  · exact zo_6a h0 _ sc (by simp [fX11_run, c1, fX11_run_12]) (by
      simp only [fX19_run, if_pos c1, fX19_run_13, fX19_run_18, fX19_run_35, zfails_1, zc]
      split <;> rfl)
  by_cases c2 : sc 1 ≤ 1000
  · obtain ⟨k, hk, ek⟩ := zof_x c1 c2
    have hrm : 1134 + rmL_run.cells ≤ room_1.cells ∧ 2818858 + rmL_run.slots ≤ room_1.slots := ⟨Nat.le_of_ble_eq_true rfl, Nat.le_of_ble_eq_true rfl⟩
    have c3 : (0 : Int32) + sc 1 ≤ 400000 := by
      rw [Int32.zero_add]
      exact Int32.le_trans c2 (by decide)
    obtain ⟨z1, e1, k1⟩ := zrun11 M k 0 (M + 1) z (by omega) (by omega) (h1 3) (h1 4) hQ2
    rw [Nat.zero_add, ← ek] at e1
    have f1 : fX11_run (M + 1) 0 (sc 1) z = some (.inl (sc 1), z1) := by
      unfold fX11_run
      rw [if_neg c1, if_pos c2, h1 4, if_pos c3]
      exact e1
    have f2 : fL_run (M + 1) 0 (sc 1) 0 z = some ((0 : Int32), zsL z1 193 0 0 (sc 1).toInt64) := by simp [fL_run, f1]
    have y0 : ∀ j, zgI (zsI (zsL z1 193 0 0 (sc 1).toInt64) 19 25 0 0) 19 j 0 = if j = 25 then 0 else zgI z 19 j 0 := fun j => by simp [zgI_sI, zgI_sL, k1]
    obtain ⟨z2, e2, k2, k3⟩ := zrun19 M k 0 (M + 1) (zsI (zsL z1 193 0 0 (sc 1).toInt64) 19 25 0 0) (by omega) (by omega) ⟨by rw [y0]; simp [g19], by rw [y0]; simp [g21]⟩ (by rw [y0]; simp [g23]) (by rw [y0]; simp [g24])
    rw [Nat.zero_add, ← ek] at e2
    have f3 : fX19_run (M + 1) 0 (sc 1) (zsL z1 193 0 0 (sc 1).toInt64) = some (sc 1, z2) := by
      unfold fX19_run fX19_run_18
      rw [if_neg c1, if_pos c2, zgI_sL, k1, g24, if_pos c3]
      unfold fX19_run_35
      rw [zfails_0]
      exact e2
    have k4 : zgI z2 19 25 0 = 0 := by rw [k2, y0]; simp
    have k5 : zgL z2 193 0 0 = (sc 1).toInt64 := by rw [k3, zgL_sI, zgL_sL]; simp
    have l4 : ∀ x : Int64, lg_cmp x x = 0 := fun x => by simp [lg_cmp]
    unfold fLaw_6
    rw [zqc_t hrm, f2]
    simp only [zc]
    rw [f3]
    simp [fX19_thrown, k4, k5, l4]
  · exact zo_6a h0 _ sc (by simp [fX11_run, c1, c2, fX11_run_12]) (by
      simp only [fX19_run, if_neg c1, if_neg c2, fX19_run_13, fX19_run_18, fX19_run_35, zfails_1, zc]
      split <;> rfl)
theorem zl_ex {α β : Type} {e : α} {k : α → Option β} {P : β → Prop} (h : ∀ x, x = e → ∃ y, k x = some y ∧ P y) : ∃ y, zl e k = some y ∧ P y := h e rfl
theorem zqc_ex {β : Type} {c : Prop} {k : Option β} {P : β → Prop} (hc : c) (h : ∃ y, k = some y ∧ P y) : ∃ y, zqc c k = some y ∧ P y := by rw [zqc_t hc]; exact h
def zJ (n m : Nat) (I : List (Nat × Nat)) (z : St) : Prop := (∀ q, q ∈ I → zok n m q = true) ∧ (∀ j, zgI z 11 j 0 = 0) ∧ (∀ i, zgQ z 139 0 i = if i < n then some i else none) ∧ (∀ i, zgQ z 141 0 i = none)
theorem zok_5 {n m n' o : Nat} (h : o < n) : zok n m (5, o) = true ∧ zok n m (122, o) = true ∧ zok n m (123, o) = true := by
  simp [zok, h]
theorem zok_up {n m n' m' : Nat} (h1 : n ≤ n') (h2 : m ≤ m') {q : Nat × Nat} (h : zok n m q = true) : zok n' m' q = true := by
  simp only [zok, Bool.or_eq_true, Bool.and_eq_true, Nat.blt_eq] at h ⊢
  rcases h with (⟨a, b⟩ | ⟨a, b⟩) | h
  · exact Or.inl (Or.inl ⟨a, Nat.lt_of_lt_of_le b h1⟩)
  · exact Or.inl (Or.inr ⟨a, Nat.lt_of_lt_of_le b h2⟩)
  · exact Or.inr h
theorem zJ_net {n : Nat} {v : Int32} {I : List (Nat × Nat)} {z : St} {β : Type} {K : List (Nat × Nat) → St → Option β} {P : β → Prop} (hv : v.toNatClampNeg = n) (h : zJ n 2 I z) (k : ∀ I' z', zJ (n + 1) 2 I' z' → ∃ y, K I' z' = some y ∧ P y) :
    ∃ y, (zl n fun n1 => zqc (zfr (znmX5 n1) I) <| zl (zmg (znmX5 n1) (zmwX5 n1 v) z) fun z1 => zl (I ++ znmX5 n1) fun I1 => zl (zsQ z1 139 0 v.toNatClampNeg (some n1)) fun z3 => K I1 z3) = some y ∧ P y := by
  obtain ⟨hI, h1, h2, h3⟩ := h
  refine zl_ex (fun n1 e1 => ?_)
  subst e1
  have hf : zfr (znmX5 n1) I := by
    refine ⟨by simp [znmX5], fun q hq hI' => ?_⟩
    have a := hI q hI'
    simp only [znmX5, List.mem_cons, List.not_mem_nil, or_false] at hq
    rcases hq with rfl | rfl | rfl <;> simp [zok] at a
  refine zqc_ex hf (zl_ex (fun z1 e1 => zl_ex (fun I1 e2 => zl_ex (fun z3 e3 => k I1 z3 ?_))))
  have m1 : (11, 0) ∉ znmX5 n1 := by simp [znmX5]
  have m2 : (139, 0) ∉ znmX5 n1 := by simp [znmX5]
  have m3 : (141, 0) ∉ znmX5 n1 := by simp [znmX5]
  have hm : ∀ (nm : List (Nat × Nat)) (w z : St) (k o i : Nat), zgQ (zmg nm w z) k o i = if (k, o) ∈ nm then zgQ w k o i else zgQ z k o i := fun _ _ _ _ _ _ => rfl
  refine ⟨fun q hq => ?_, fun j => ?_, fun i => ?_, fun i => ?_⟩
  · rw [e2] at hq
    rcases List.mem_append.mp hq with hq | hq
    · exact zok_up (Nat.le_succ _) (Nat.le_refl _) (hI q hq)
    · simp only [znmX5, List.mem_cons, List.not_mem_nil, or_false] at hq
      rcases hq with rfl | rfl | rfl <;> simp [zok]
  · rw [e3, e1, zgI_sQ, zgI_mg, if_neg m1, h1]
  · rw [e3, e1, zgQ_sQ, hm, if_neg m2, h2, hv]
    by_cases c : i = n1
    · rw [if_pos ⟨rfl, rfl, c⟩, if_pos (by omega), c]
    · rw [if_neg (fun x => c x.2.2)]
      by_cases c2 : i < n1
      · rw [if_pos c2, if_pos (by omega)]
      · rw [if_neg c2, if_neg (by omega)]
  · rw [e3, e1, zgQ_sQ, if_neg (by simp), hm, if_neg m3, h3]
theorem zJ_loop : ∀ (n k : Nat) (I : List (Nat × Nat)) (z : St), zJ 24 (2 + k) I z → ∃ y, fX11_L n k I z = some y ∧ zJ 24 (2 + k + n) y.2 y.1 := by
  intro n
  induction n with
  | zero => intro k I z h; exact ⟨(z, I), rfl, h⟩
  | succ n ih =>
    intro k I z h
    obtain ⟨hI, h1, h2, h3⟩ := h
    unfold fX11_L
    refine zl_ex (fun n1 e1 => ?_)
    have hf : zfr (znmX7 n1) I := by
      refine ⟨by simp [znmX7], fun q hq hI' => ?_⟩
      have a := hI q hI'
      simp only [znmX7, List.mem_cons, List.not_mem_nil, or_false] at hq
      rcases hq with rfl | rfl <;> simp [zok, e1] at a
    refine zqc_ex hf (zl_ex (fun z1 e2 => zl_ex (fun I1 e3 => zl_ex (fun y2 e4 => zl_ex (fun z3 e5 => zl_ex (fun z4 e6 => ?_))))))
    have m1 : (11, 0) ∉ znmX7 n1 := by simp [znmX7]
    have m2 : (139, 0) ∉ znmX7 n1 := by simp [znmX7]
    have m3 : (141, 0) ∉ znmX7 n1 := by simp [znmX7]
    have hm : ∀ (nm : List (Nat × Nat)) (w z : St) (k o i : Nat), zgQ (zmg nm w z) k o i = if (k, o) ∈ nm then zgQ w k o i else zgQ z k o i := fun _ _ _ _ _ _ => rfl
    have hJ : zJ 24 (2 + (k + 1)) I1 z4 := by
      refine ⟨fun q hq => ?_, fun j => ?_, fun i => ?_, fun i => ?_⟩
      · rw [e3] at hq
        rcases List.mem_append.mp hq with hq | hq
        · exact zok_up (Nat.le_refl _) (by omega) (hI q hq)
        · simp only [znmX7, List.mem_cons, List.not_mem_nil, or_false] at hq
          rcases hq with rfl | rfl <;> simp [zok, e1] <;> omega
      · rw [e6, e5, e2, zgI_sR, zgI_sR, zgI_mg, if_neg m1, h1]
      · rw [e6, e5, e2, zgQ_sR, zgQ_sR, hm, if_neg m2, h2]
      · rw [e6, e5, e2, zgQ_sR, zgQ_sR, hm, if_neg m3, h3]
    obtain ⟨y, ey, hy⟩ := ih (k + 1) I1 z4 hJ
    exact ⟨y, ey, by rw [show 2 + k + (n + 1) = 2 + (k + 1) + n by omega]; exact hy⟩
set_option maxRecDepth 100000 in
theorem zJ_init : ∃ y, fX11_init = some y ∧ zJ 24 515 y.2 y.1 := by
  unfold fX11_init
  refine zl_ex (fun z0 e0 => zl_ex (fun I0 e1 => ?_))
  have hJ : zJ 0 2 I0 z0 := by
    refine ⟨?_, fun j => ?_, fun i => ?_, fun i => ?_⟩
    · rw [e1]; decide
    · rw [e0, zgI_mg, if_pos (by decide)]; rfl
    · rw [e0]; rfl
    · rw [e0]; rfl
  refine zJ_net (v := (0 : Int32)) rfl hJ (fun I1 z1 hJ => ?_)
  refine zJ_net (v := (1 : Int32)) rfl hJ (fun I2 z2 hJ => ?_)
  refine zJ_net (v := (2 : Int32)) rfl hJ (fun I3 z3 hJ => ?_)
  refine zJ_net (v := (3 : Int32)) rfl hJ (fun I4 z4 hJ => ?_)
  refine zJ_net (v := (4 : Int32)) rfl hJ (fun I5 z5 hJ => ?_)
  refine zJ_net (v := (5 : Int32)) rfl hJ (fun I6 z6 hJ => ?_)
  refine zJ_net (v := (6 : Int32)) rfl hJ (fun I7 z7 hJ => ?_)
  refine zJ_net (v := (7 : Int32)) rfl hJ (fun I8 z8 hJ => ?_)
  refine zJ_net (v := (8 : Int32)) rfl hJ (fun I9 z9 hJ => ?_)
  refine zJ_net (v := (9 : Int32)) rfl hJ (fun I10 z10 hJ => ?_)
  refine zJ_net (v := (10 : Int32)) rfl hJ (fun I11 z11 hJ => ?_)
  refine zJ_net (v := (11 : Int32)) rfl hJ (fun I12 z12 hJ => ?_)
  refine zJ_net (v := (12 : Int32)) rfl hJ (fun I13 z13 hJ => ?_)
  refine zJ_net (v := (13 : Int32)) rfl hJ (fun I14 z14 hJ => ?_)
  refine zJ_net (v := (14 : Int32)) rfl hJ (fun I15 z15 hJ => ?_)
  refine zJ_net (v := (15 : Int32)) rfl hJ (fun I16 z16 hJ => ?_)
  refine zJ_net (v := (16 : Int32)) rfl hJ (fun I17 z17 hJ => ?_)
  refine zJ_net (v := (17 : Int32)) rfl hJ (fun I18 z18 hJ => ?_)
  refine zJ_net (v := (18 : Int32)) rfl hJ (fun I19 z19 hJ => ?_)
  refine zJ_net (v := (19 : Int32)) rfl hJ (fun I20 z20 hJ => ?_)
  refine zJ_net (v := (20 : Int32)) rfl hJ (fun I21 z21 hJ => ?_)
  refine zJ_net (v := (21 : Int32)) rfl hJ (fun I22 z22 hJ => ?_)
  refine zJ_net (v := (22 : Int32)) rfl hJ (fun I23 z23 hJ => ?_)
  refine zJ_net (v := (23 : Int32)) rfl hJ (fun I24 z24 hJ => ?_)
  exact zJ_loop 513 0 I24 z24 hJ
theorem zF0_0 : ∃ z I, fLaw_0st = some (z, I, 1134, 2818858) ∧ zF0 z I := by
  obtain ⟨⟨z0, I0⟩, e0, hJ⟩ := zJ_init
  obtain ⟨hI, h1, h2, h3⟩ := hJ
  unfold fLaw_0st
  rw [e0]
  have hf1 : zfr (znmX19 0) I0 := ⟨by decide, fun q hq hI' => by
    have a := hI q hI'
    have b : ∀ q, q ∈ znmX19 0 → zok 24 515 q = false := by decide
    rw [b q hq] at a
    cases a⟩
  have hm : ∀ (nm : List (Nat × Nat)) (w z : St) (k o i : Nat), zgQ (zmg nm w z) k o i = if (k, o) ∈ nm then zgQ w k o i else zgQ z k o i := fun _ _ _ _ _ _ => rfl
  have hf2 : zfr (znm193 0) (I0 ++ znmX19 0) := ⟨by decide, fun q hq hI' => by
    simp only [znm193, List.mem_cons, List.not_mem_nil, or_false] at hq
    subst hq
    rcases List.mem_append.mp hI' with h | h
    · have a := hI _ h
      revert a; decide
    · revert h; decide⟩
  refine ⟨zmg (znm193 0) zz0 (zmg (znmX19 0) (zmwX19 0) z0), I0 ++ znmX19 0 ++ znm193 0, ?_, ?_⟩
  · show zqc (zfr (znmX19 0) I0) _ = _
    rw [zqc_t hf1]
    show zqc (zfr (znm193 0) (I0 ++ znmX19 0)) _ = _
    rw [zqc_t hf2]
  · have g : ∀ j, zgI (zmg (znm193 0) zz0 (zmg (znmX19 0) (zmwX19 0) z0)) 19 j 0 = zgI (zmwX19 0) 19 j 0 := fun j => by
      rw [zgI_mg, if_neg (by decide), zgI_mg, if_pos (by decide)]
    refine ⟨fun j => ?_, ⟨by rw [g]; rfl, by rw [g]; rfl, by rw [g]; rfl, by rw [g]; rfl, by rw [g]; rfl, by rw [g]; rfl⟩, fun i => ?_, fun i => ?_, fun q hq => ?_⟩
    · rw [zgI_mg, if_neg (by decide), zgI_mg, if_neg (by decide), h1]
    · rw [hm, if_neg (by decide), hm, if_neg (by decide), h2]
    · rw [hm, if_neg (by decide), hm, if_neg (by decide), h3]
    · rcases List.mem_append.mp hq with hq | hq
      · rcases List.mem_append.mp hq with hq | hq
        · have a := hI q hq
          simp only [zok9, Bool.or_eq_true]
          exact Or.inl a
        · have b : ∀ q, q ∈ znmX19 0 → zok9 q = true := by decide
          exact b q hq
      · have b : ∀ q, q ∈ znm193 0 → zok9 q = true := by decide
        exact b q hq
def zbk (q : Nat × Nat) : Bool := zok9 q || (znmX1_h 0).contains q || (znmX1_r 0).contains q
def zIL (I L : List (Nat × Nat)) : Prop := ∀ q, q ∈ I → zbk q = true ∨ q ∈ L
theorem zIL_app {I L nm I' : List (Nat × Nat)} (h : zIL I L) (e : I' = I ++ nm) : zIL I' (L ++ nm) := by
  intro q hq
  rw [e] at hq
  rcases List.mem_append.mp hq with hq | hq
  · exact (h q hq).imp id (fun x => List.mem_append_left _ x)
  · exact Or.inr (List.mem_append_right _ hq)
theorem zIL_fr {I L nm : List (Nat × Nat)} (h : zIL I L) (h1 : nm.Nodup) (h2 : ∀ q, q ∈ nm → zbk q = false ∧ q ∉ L) : zfr nm I := ⟨h1, fun q hq hI => by
  obtain ⟨a, b⟩ := h2 q hq
  rcases h q hI with c | c
  · rw [a] at c; cases c
  · exact b c⟩
def zFB (z : St) : Prop := zgI z 19 19 0 = 0 ∧ zgI z 19 25 0 = 0 ∧ zgL z 193 0 0 = 0 ∧ zgI z 12 0 0 = 0
theorem zFB_Q {z z' : St} {k o i : Nat} {v : Option Nat} (F : zFB z) (e : z' = zsQ z k o i v) : zFB z' := by rw [e]; exact F
theorem zFB_R {z z' : St} {k o i : Nat} {v : Option Nat} (F : zFB z) (e : z' = zsR z k o i v) : zFB z' := by rw [e]; exact F
theorem zFB_A {z z' : St} {k o i : Nat} {v : Int32} (F : zFB z) (e : z' = zsA z k o i v) : zFB z' := by rw [e]; exact F
theorem zFB_I {z z' : St} {k j o : Nat} {v : Int32} (F : zFB z) (e : z' = zsI z k j o v) (h : ¬ (19 = k ∧ 19 = j ∧ 0 = o) ∧ ¬ (19 = k ∧ 25 = j ∧ 0 = o) ∧ ¬ (12 = k ∧ 0 = j ∧ 0 = o)) : zFB z' := by
  rw [e]
  unfold zFB
  rw [zgI_sI, zgI_sI, zgI_sI, zgL_sI, if_neg h.1, if_neg h.2.1, if_neg h.2.2]
  exact F
theorem zFB_M {z z' w : St} {nm : List (Nat × Nat)} (F : zFB z) (e : z' = zmg nm w z) (h : (19, 0) ∉ nm ∧ (193, 0) ∉ nm ∧ (12, 0) ∉ nm) : zFB z' := by
  have hm : zgL (zmg nm w z) 193 0 0 = if (193, 0) ∈ nm then zgL w 193 0 0 else zgL z 193 0 0 := rfl
  rw [e]
  unfold zFB
  rw [zgI_mg, zgI_mg, zgI_mg, hm, if_neg h.1, if_neg h.1, if_neg h.2.1, if_neg h.2.2]
  exact F
theorem zk_ex {β : Type} {i : Int32} {n : Nat} {k : Option β} {P : β → Prop} (h : ¬ (i < 0 ∨ n ≤ i.toNatClampNeg)) (hk : ∃ y, k = some y ∧ P y) : ∃ y, zk i n k = some y ∧ P y := by unfold zk; rw [if_neg h]; exact hk
theorem zd_ex {α β : Type} {x : Option α} {a : α} {k : α → Option β} {P : β → Prop} (e : x = some a) (h : ∃ y, k a = some y ∧ P y) : ∃ y, zd x k = some y ∧ P y := by rw [e]; exact h
def zBQ (y : Int32 × St × List (Nat × Nat)) : Prop := y.1 = 0 ∧ zgI y.2.1 19 25 0 = 0 ∧ zgL y.2.1 193 0 0 = 0
theorem zbx_end {z : St} {I : List (Nat × Nat)} {N : Nat} (F : zFB z) : ∃ y, (zk (zgI z 19 19 0) 16 <| zl (zsQ z 186 0 (Int32.toNatClampNeg (zgI z 19 19 0)) (some 0)) fun z244 => zl (zsI z244 19 19 0 ((zgI z244 19 19 0) + (1 : Int32))) fun z245 => zc (fX19_stir N 0 z245) fun _ z247 => some ((zgI z247 12 0 0), z247, I)) = some y ∧ zBQ y := by
  obtain ⟨g19, g25, gL, g12⟩ := F
  refine ⟨_, by simp only [g19, zk, zl, fX19_stir, zc]; rw [if_neg (by decide)], ?_, ?_, ?_⟩
  · simp [zgI_sI, zgI_sQ, g12]
  · simp [zgI_sI, zgI_sQ, g25]
  · simp [zgL_sI, zgL_sQ, gL]
set_option maxRecDepth 100000 in
set_option maxHeartbeats 8000000 in
theorem zbx_0 {I : List (Nat × Nat)} {z : St} (N : Nat) (g19 : zgI z 19 19 0 = 0) (gL : zgL z 193 0 0 = 0) (hI : zIL I []) : ∃ y, fX19_box_0_15 N 51 38360 0 0 (0 : Int32) I z = some y ∧ zBQ y := by
  unfold fX19_box_0_15
  refine zl_ex (fun z2 e2 => ?_)
  rw [if_pos (by rw [e2, zgI_sI, if_pos ⟨rfl, rfl, rfl⟩]; exact Int32.le_refl _)]
  refine zl_ex (fun n1 en1 => ?_)
  have en1 : n1 = 0 := by rw [en1, e2, zgI_sI, if_neg (by decide), g19]; rfl
  subst en1
  refine zqc_ex ⟨zIL_fr hI (by decide +kernel) (by decide +kernel), by decide, by decide⟩ ?_
  refine zl_ex (fun z4 ez4 => ?_)
  have G : zgI z4 19 19 0 = 0 ∧ zgI z4 19 25 0 = 0 ∧ zgL z4 193 0 0 = 0 := by
    have hm : zgL (zmg (znmX12 0) (zmwX12 0) z2) 193 0 0 = if (193, 0) ∈ znmX12 0 then zgL (zmwX12 0) 193 0 0 else zgL z2 193 0 0 := rfl
    rw [ez4, zgI_mg, zgI_mg, hm, if_neg (by decide), if_neg (by decide), if_neg (by decide), e2, zgI_sI, zgI_sI, zgL_sI]
    exact ⟨g19, rfl, gL⟩
  refine zl_ex (fun I1 eI => ?_)
  have hI := zIL_app hI eI
  clear eI
  refine zl_ex (fun z5 ez5 => ?_)
  have F : zFB z5 := by
    rw [ez5]
    unfold zFB
    rw [zgI_sI, zgI_sI, zgI_sI, zgL_sI, if_neg (by decide), if_neg (by decide), if_pos (by decide)]
    exact ⟨G.1, G.2.1, G.2.2, G.1⟩
  refine zl_ex (fun z6 ez6 => ?_)
  have F := zFB_I F ez6 (by decide)
  refine zl_ex (fun n2 en => ?_)
  have en : n2 = 0 := en
  subst en
  refine zqc_ex ⟨zIL_fr hI (by decide +kernel) (by decide +kernel), by decide, by decide⟩ ?_
  refine zl_ex (fun z7 ez7 => ?_)
  have F := zFB_M F ez7 (by decide)
  refine zl_ex (fun I2 eI => ?_)
  have hI := zIL_app hI eI
  clear eI
  refine zl_ex (fun z9 ez9 => ?_)
  have F := zFB_Q F ez9
  refine zl_ex (fun n3 en => ?_)
  have en : n3 = 1 := en
  subst en
  refine zqc_ex ⟨zIL_fr hI (by decide +kernel) (by decide +kernel), by decide, by decide⟩ ?_
  refine zl_ex (fun z10 ez10 => ?_)
  have F := zFB_M F ez10 (by decide)
  refine zl_ex (fun I3 eI => ?_)
  have hI := zIL_app hI eI
  clear eI
  refine zl_ex (fun z12 ez12 => ?_)
  have F := zFB_Q F ez12
  refine zl_ex (fun n4 en => ?_)
  have en : n4 = 2 := en
  subst en
  refine zqc_ex ⟨zIL_fr hI (by decide +kernel) (by decide +kernel), by decide, by decide⟩ ?_
  refine zl_ex (fun z13 ez13 => ?_)
  have F := zFB_M F ez13 (by decide)
  refine zl_ex (fun I4 eI => ?_)
  have hI := zIL_app hI eI
  clear eI
  refine zl_ex (fun z15 ez15 => ?_)
  have F := zFB_Q F ez15
  refine zl_ex (fun n5 en => ?_)
  have en : n5 = 3 := en
  subst en
  refine zqc_ex ⟨zIL_fr hI (by decide +kernel) (by decide +kernel), by decide, by decide⟩ ?_
  refine zl_ex (fun z16 ez16 => ?_)
  have F := zFB_M F ez16 (by decide)
  refine zl_ex (fun I5 eI => ?_)
  have hI := zIL_app hI eI
  clear eI
  refine zl_ex (fun z18 ez18 => ?_)
  have F := zFB_Q F ez18
  refine zl_ex (fun z20 ez20 => ?_)
  have F := zFB_A F ez20
  refine zl_ex (fun z22 ez22 => ?_)
  have F := zFB_A F ez22
  refine zl_ex (fun z24 ez24 => ?_)
  have F := zFB_A F ez24
  refine zl_ex (fun z26 ez26 => ?_)
  have F := zFB_A F ez26
  refine zl_ex (fun z28 ez28 => ?_)
  have F := zFB_A F ez28
  refine zl_ex (fun z30 ez30 => ?_)
  have F := zFB_A F ez30
  refine zl_ex (fun z32 ez32 => ?_)
  have F := zFB_A F ez32
  refine zl_ex (fun z34 ez34 => ?_)
  have F := zFB_A F ez34
  refine zl_ex (fun z36 ez36 => ?_)
  have F := zFB_A F ez36
  refine zl_ex (fun z38 ez38 => ?_)
  have F := zFB_A F ez38
  refine zl_ex (fun z40 ez40 => ?_)
  have F := zFB_A F ez40
  refine zl_ex (fun z42 ez42 => ?_)
  have F := zFB_A F ez42
  refine zl_ex (fun z44 ez44 => ?_)
  have F := zFB_A F ez44
  refine zl_ex (fun z46 ez46 => ?_)
  have F := zFB_A F ez46
  refine zl_ex (fun z48 ez48 => ?_)
  have F := zFB_A F ez48
  refine zl_ex (fun z50 ez50 => ?_)
  have F := zFB_A F ez50
  refine zl_ex (fun n6 en => ?_)
  have en : n6 = 0 := en
  subst en
  refine zqc_ex ⟨zIL_fr hI (by decide +kernel) (by decide +kernel), by decide, by decide⟩ ?_
  refine zl_ex (fun z51 ez51 => ?_)
  have F := zFB_M F ez51 (by decide)
  refine zl_ex (fun I6 eI => ?_)
  have hI := zIL_app hI eI
  clear eI
  refine zl_ex (fun z53 ez53 => ?_)
  have F := zFB_Q F ez53
  refine zl_ex (fun y55 ry55 => ?_)
  have ry55 : y55 = some 0 := by rw [ry55, ez53, zgQ_sQ, if_pos ⟨rfl, rfl, rfl⟩]
  refine zl_ex (fun n7 en => ?_)
  have en : n7 = 0 := en
  subst en
  refine zqc_ex ⟨zIL_fr hI (by decide +kernel) (by decide +kernel), by decide, by decide⟩ ?_
  refine zl_ex (fun z56 ez56 => ?_)
  have F := zFB_M F ez56 (by decide)
  refine zl_ex (fun I7 eI => ?_)
  have hI := zIL_app hI eI
  clear eI
  refine zd_ex (a := 0) ry55 ?_
  refine zl_ex (fun z58 ez58 => ?_)
  have F := zFB_R F ez58
  refine zl_ex (fun n8 en => ?_)
  have en : n8 = 1 := en
  subst en
  refine zqc_ex ⟨zIL_fr hI (by decide +kernel) (by decide +kernel), by decide, by decide⟩ ?_
  refine zl_ex (fun z59 ez59 => ?_)
  have F := zFB_M F ez59 (by decide)
  refine zl_ex (fun I8 eI => ?_)
  have hI := zIL_app hI eI
  clear eI
  refine zl_ex (fun z61 ez61 => ?_)
  have F := zFB_Q F ez61
  refine zl_ex (fun y63 ry63 => ?_)
  have ry63 : y63 = some 1 := by rw [ry63, ez61, zgQ_sQ, if_pos ⟨rfl, rfl, rfl⟩]
  refine zl_ex (fun n9 en => ?_)
  have en : n9 = 1 := en
  subst en
  refine zqc_ex ⟨zIL_fr hI (by decide +kernel) (by decide +kernel), by decide, by decide⟩ ?_
  refine zl_ex (fun z64 ez64 => ?_)
  have F := zFB_M F ez64 (by decide)
  refine zl_ex (fun I9 eI => ?_)
  have hI := zIL_app hI eI
  clear eI
  refine zd_ex (a := 1) ry63 ?_
  refine zl_ex (fun z66 ez66 => ?_)
  have F := zFB_R F ez66
  refine zl_ex (fun n10 en => ?_)
  have en : n10 = 2 := en
  subst en
  refine zqc_ex ⟨zIL_fr hI (by decide +kernel) (by decide +kernel), by decide, by decide⟩ ?_
  refine zl_ex (fun z67 ez67 => ?_)
  have F := zFB_M F ez67 (by decide)
  refine zl_ex (fun I10 eI => ?_)
  have hI := zIL_app hI eI
  clear eI
  refine zl_ex (fun z69 ez69 => ?_)
  have F := zFB_Q F ez69
  refine zl_ex (fun y71 ry71 => ?_)
  have ry71 : y71 = some 2 := by rw [ry71, ez69, zgQ_sQ, if_pos ⟨rfl, rfl, rfl⟩]
  refine zl_ex (fun n11 en => ?_)
  have en : n11 = 2 := en
  subst en
  refine zqc_ex ⟨zIL_fr hI (by decide +kernel) (by decide +kernel), by decide, by decide⟩ ?_
  refine zl_ex (fun z72 ez72 => ?_)
  have F := zFB_M F ez72 (by decide)
  refine zl_ex (fun I11 eI => ?_)
  have hI := zIL_app hI eI
  clear eI
  refine zd_ex (a := 2) ry71 ?_
  refine zl_ex (fun z74 ez74 => ?_)
  have F := zFB_R F ez74
  refine zl_ex (fun n12 en => ?_)
  have en : n12 = 3 := en
  subst en
  refine zqc_ex ⟨zIL_fr hI (by decide +kernel) (by decide +kernel), by decide, by decide⟩ ?_
  refine zl_ex (fun z75 ez75 => ?_)
  have F := zFB_M F ez75 (by decide)
  refine zl_ex (fun I12 eI => ?_)
  have hI := zIL_app hI eI
  clear eI
  refine zl_ex (fun z77 ez77 => ?_)
  have F := zFB_Q F ez77
  refine zl_ex (fun y79 ry79 => ?_)
  have ry79 : y79 = some 3 := by rw [ry79, ez77, zgQ_sQ, if_pos ⟨rfl, rfl, rfl⟩]
  refine zl_ex (fun n13 en => ?_)
  have en : n13 = 3 := en
  subst en
  refine zqc_ex ⟨zIL_fr hI (by decide +kernel) (by decide +kernel), by decide, by decide⟩ ?_
  refine zl_ex (fun z80 ez80 => ?_)
  have F := zFB_M F ez80 (by decide)
  refine zl_ex (fun I13 eI => ?_)
  have hI := zIL_app hI eI
  clear eI
  refine zd_ex (a := 3) ry79 ?_
  refine zl_ex (fun z82 ez82 => ?_)
  have F := zFB_R F ez82
  refine zl_ex (fun n14 en => ?_)
  have en : n14 = 4 := en
  subst en
  refine zqc_ex ⟨zIL_fr hI (by decide +kernel) (by decide +kernel), by decide, by decide⟩ ?_
  refine zl_ex (fun z83 ez83 => ?_)
  have F := zFB_M F ez83 (by decide)
  refine zl_ex (fun I14 eI => ?_)
  have hI := zIL_app hI eI
  clear eI
  refine zl_ex (fun z85 ez85 => ?_)
  have F := zFB_Q F ez85
  refine zl_ex (fun y87 ry87 => ?_)
  have ry87 : y87 = some 4 := by rw [ry87, ez85, zgQ_sQ, if_pos ⟨rfl, rfl, rfl⟩]
  refine zl_ex (fun n15 en => ?_)
  have en : n15 = 4 := en
  subst en
  refine zqc_ex ⟨zIL_fr hI (by decide +kernel) (by decide +kernel), by decide, by decide⟩ ?_
  refine zl_ex (fun z88 ez88 => ?_)
  have F := zFB_M F ez88 (by decide)
  refine zl_ex (fun I15 eI => ?_)
  have hI := zIL_app hI eI
  clear eI
  refine zd_ex (a := 4) ry87 ?_
  refine zl_ex (fun z90 ez90 => ?_)
  have F := zFB_R F ez90
  refine zl_ex (fun n16 en => ?_)
  have en : n16 = 5 := en
  subst en
  refine zqc_ex ⟨zIL_fr hI (by decide +kernel) (by decide +kernel), by decide, by decide⟩ ?_
  refine zl_ex (fun z91 ez91 => ?_)
  have F := zFB_M F ez91 (by decide)
  refine zl_ex (fun I16 eI => ?_)
  have hI := zIL_app hI eI
  clear eI
  refine zl_ex (fun z93 ez93 => ?_)
  have F := zFB_Q F ez93
  refine zl_ex (fun y95 ry95 => ?_)
  have ry95 : y95 = some 5 := by rw [ry95, ez93, zgQ_sQ, if_pos ⟨rfl, rfl, rfl⟩]
  refine zl_ex (fun n17 en => ?_)
  have en : n17 = 5 := en
  subst en
  refine zqc_ex ⟨zIL_fr hI (by decide +kernel) (by decide +kernel), by decide, by decide⟩ ?_
  refine zl_ex (fun z96 ez96 => ?_)
  have F := zFB_M F ez96 (by decide)
  refine zl_ex (fun I17 eI => ?_)
  have hI := zIL_app hI eI
  clear eI
  refine zd_ex (a := 5) ry95 ?_
  refine zl_ex (fun z98 ez98 => ?_)
  have F := zFB_R F ez98
  refine zl_ex (fun z100 ez100 => ?_)
  have F := zFB_A F ez100
  refine zl_ex (fun z102 ez102 => ?_)
  have F := zFB_A F ez102
  refine zl_ex (fun z104 ez104 => ?_)
  have F := zFB_A F ez104
  refine zl_ex (fun z106 ez106 => ?_)
  have F := zFB_A F ez106
  refine zl_ex (fun z108 ez108 => ?_)
  have F := zFB_A F ez108
  refine zl_ex (fun z110 ez110 => ?_)
  have F := zFB_A F ez110
  refine zl_ex (fun z112 ez112 => ?_)
  have F := zFB_A F ez112
  refine zl_ex (fun z114 ez114 => ?_)
  have F := zFB_A F ez114
  refine zl_ex (fun z116 ez116 => ?_)
  have F := zFB_A F ez116
  refine zl_ex (fun z118 ez118 => ?_)
  have F := zFB_A F ez118
  refine zl_ex (fun z120 ez120 => ?_)
  have F := zFB_A F ez120
  refine zl_ex (fun z122 ez122 => ?_)
  have F := zFB_A F ez122
  refine zl_ex (fun z124 ez124 => ?_)
  have F := zFB_A F ez124
  refine zl_ex (fun z126 ez126 => ?_)
  have F := zFB_A F ez126
  refine zl_ex (fun z128 ez128 => ?_)
  have F := zFB_A F ez128
  refine zl_ex (fun z130 ez130 => ?_)
  have F := zFB_A F ez130
  refine zl_ex (fun z132 ez132 => ?_)
  have F := zFB_A F ez132
  refine zl_ex (fun z134 ez134 => ?_)
  have F := zFB_A F ez134
  refine zl_ex (fun z136 ez136 => ?_)
  have F := zFB_A F ez136
  refine zl_ex (fun z138 ez138 => ?_)
  have F := zFB_A F ez138
  refine zl_ex (fun z140 ez140 => ?_)
  have F := zFB_A F ez140
  refine zl_ex (fun z142 ez142 => ?_)
  have F := zFB_A F ez142
  refine zl_ex (fun z144 ez144 => ?_)
  have F := zFB_A F ez144
  refine zl_ex (fun z146 ez146 => ?_)
  have F := zFB_A F ez146
  refine zl_ex (fun z148 ez148 => ?_)
  have F := zFB_A F ez148
  refine zl_ex (fun z150 ez150 => ?_)
  have F := zFB_A F ez150
  refine zl_ex (fun z152 ez152 => ?_)
  have F := zFB_A F ez152
  refine zl_ex (fun z154 ez154 => ?_)
  have F := zFB_A F ez154
  refine zl_ex (fun z156 ez156 => ?_)
  have F := zFB_A F ez156
  refine zl_ex (fun z158 ez158 => ?_)
  have F := zFB_A F ez158
  refine zl_ex (fun z160 ez160 => ?_)
  have F := zFB_A F ez160
  refine zl_ex (fun z162 ez162 => ?_)
  have F := zFB_A F ez162
  refine zl_ex (fun z164 ez164 => ?_)
  have F := zFB_A F ez164
  refine zl_ex (fun z166 ez166 => ?_)
  have F := zFB_A F ez166
  refine zl_ex (fun z168 ez168 => ?_)
  have F := zFB_A F ez168
  refine zl_ex (fun z170 ez170 => ?_)
  have F := zFB_A F ez170
  refine zl_ex (fun z172 ez172 => ?_)
  have F := zFB_A F ez172
  refine zl_ex (fun z174 ez174 => ?_)
  have F := zFB_A F ez174
  refine zl_ex (fun z176 ez176 => ?_)
  have F := zFB_A F ez176
  refine zl_ex (fun z178 ez178 => ?_)
  have F := zFB_A F ez178
  refine zl_ex (fun z180 ez180 => ?_)
  have F := zFB_A F ez180
  refine zl_ex (fun z182 ez182 => ?_)
  have F := zFB_A F ez182
  refine zl_ex (fun z184 ez184 => ?_)
  have F := zFB_A F ez184
  refine zl_ex (fun z186 ez186 => ?_)
  have F := zFB_A F ez186
  refine zl_ex (fun z188 ez188 => ?_)
  have F := zFB_A F ez188
  refine zl_ex (fun z190 ez190 => ?_)
  have F := zFB_A F ez190
  refine zl_ex (fun z192 ez192 => ?_)
  have F := zFB_A F ez192
  refine zl_ex (fun z194 ez194 => ?_)
  have F := zFB_A F ez194
  refine zl_ex (fun z196 ez196 => ?_)
  have F := zFB_A F ez196
  refine zl_ex (fun z198 ez198 => ?_)
  have F := zFB_A F ez198
  refine zl_ex (fun z200 ez200 => ?_)
  have F := zFB_A F ez200
  refine zl_ex (fun z202 ez202 => ?_)
  have F := zFB_A F ez202
  refine zl_ex (fun z204 ez204 => ?_)
  have F := zFB_A F ez204
  refine zl_ex (fun z206 ez206 => ?_)
  have F := zFB_A F ez206
  refine zl_ex (fun z208 ez208 => ?_)
  have F := zFB_A F ez208
  refine zl_ex (fun z210 ez210 => ?_)
  have F := zFB_A F ez210
  refine zl_ex (fun z212 ez212 => ?_)
  have F := zFB_A F ez212
  refine zl_ex (fun z214 ez214 => ?_)
  have F := zFB_A F ez214
  refine zl_ex (fun z216 ez216 => ?_)
  have F := zFB_A F ez216
  refine zl_ex (fun z218 ez218 => ?_)
  have F := zFB_A F ez218
  refine zl_ex (fun z220 ez220 => ?_)
  have F := zFB_A F ez220
  refine zl_ex (fun z222 ez222 => ?_)
  have F := zFB_A F ez222
  refine zl_ex (fun z224 ez224 => ?_)
  have F := zFB_A F ez224
  refine zl_ex (fun z226 ez226 => ?_)
  have F := zFB_A F ez226
  refine zl_ex (fun z228 ez228 => ?_)
  have F := zFB_A F ez228
  refine zl_ex (fun z230 ez230 => ?_)
  have F := zFB_A F ez230
  refine zl_ex (fun z232 ez232 => ?_)
  have F := zFB_A F ez232
  refine zl_ex (fun z234 ez234 => ?_)
  have F := zFB_A F ez234
  refine zl_ex (fun z236 ez236 => ?_)
  have F := zFB_A F ez236
  refine zl_ex (fun z238 ez238 => ?_)
  have F := zFB_A F ez238
  refine zl_ex (fun z240 ez240 => ?_)
  have F := zFB_A F ez240
  refine zl_ex (fun z242 ez242 => ?_)
  have F := zFB_A F ez242
  exact zbx_end F
set_option maxRecDepth 100000 in
set_option maxHeartbeats 8000000 in
theorem zbx_1 {I : List (Nat × Nat)} {z : St} (N : Nat) (g19 : zgI z 19 19 0 = 0) (gL : zgL z 193 0 0 = 0) (hI : zIL I []) : ∃ y, fX19_box_1_15 N 69 1762 0 0 (0 : Int32) I z = some y ∧ zBQ y := by
  unfold fX19_box_1_15
  refine zl_ex (fun z2 e2 => ?_)
  rw [if_pos (by rw [e2, zgI_sI, if_pos ⟨rfl, rfl, rfl⟩]; exact Int32.le_refl _)]
  refine zl_ex (fun n1 en1 => ?_)
  have en1 : n1 = 0 := by rw [en1, e2, zgI_sI, if_neg (by decide), g19]; rfl
  subst en1
  refine zqc_ex ⟨zIL_fr hI (by decide +kernel) (by decide +kernel), by decide, by decide⟩ ?_
  refine zl_ex (fun z4 ez4 => ?_)
  have G : zgI z4 19 19 0 = 0 ∧ zgI z4 19 25 0 = 0 ∧ zgL z4 193 0 0 = 0 := by
    have hm : zgL (zmg (znmX12 0) (zmwX12 0) z2) 193 0 0 = if (193, 0) ∈ znmX12 0 then zgL (zmwX12 0) 193 0 0 else zgL z2 193 0 0 := rfl
    rw [ez4, zgI_mg, zgI_mg, hm, if_neg (by decide), if_neg (by decide), if_neg (by decide), e2, zgI_sI, zgI_sI, zgL_sI]
    exact ⟨g19, rfl, gL⟩
  refine zl_ex (fun I1 eI => ?_)
  have hI := zIL_app hI eI
  clear eI
  refine zl_ex (fun z5 ez5 => ?_)
  have F : zFB z5 := by
    rw [ez5]
    unfold zFB
    rw [zgI_sI, zgI_sI, zgI_sI, zgL_sI, if_neg (by decide), if_neg (by decide), if_pos (by decide)]
    exact ⟨G.1, G.2.1, G.2.2, G.1⟩
  refine zl_ex (fun z6 ez6 => ?_)
  have F := zFB_I F ez6 (by decide)
  refine zl_ex (fun n2 en => ?_)
  have en : n2 = 0 := en
  subst en
  refine zqc_ex ⟨zIL_fr hI (by decide +kernel) (by decide +kernel), by decide, by decide⟩ ?_
  refine zl_ex (fun z7 ez7 => ?_)
  have F := zFB_M F ez7 (by decide)
  refine zl_ex (fun I2 eI => ?_)
  have hI := zIL_app hI eI
  clear eI
  refine zl_ex (fun z9 ez9 => ?_)
  have F := zFB_Q F ez9
  refine zl_ex (fun n3 en => ?_)
  have en : n3 = 1 := en
  subst en
  refine zqc_ex ⟨zIL_fr hI (by decide +kernel) (by decide +kernel), by decide, by decide⟩ ?_
  refine zl_ex (fun z10 ez10 => ?_)
  have F := zFB_M F ez10 (by decide)
  refine zl_ex (fun I3 eI => ?_)
  have hI := zIL_app hI eI
  clear eI
  refine zl_ex (fun z12 ez12 => ?_)
  have F := zFB_Q F ez12
  refine zl_ex (fun n4 en => ?_)
  have en : n4 = 2 := en
  subst en
  refine zqc_ex ⟨zIL_fr hI (by decide +kernel) (by decide +kernel), by decide, by decide⟩ ?_
  refine zl_ex (fun z13 ez13 => ?_)
  have F := zFB_M F ez13 (by decide)
  refine zl_ex (fun I4 eI => ?_)
  have hI := zIL_app hI eI
  clear eI
  refine zl_ex (fun z15 ez15 => ?_)
  have F := zFB_Q F ez15
  refine zl_ex (fun n5 en => ?_)
  have en : n5 = 3 := en
  subst en
  refine zqc_ex ⟨zIL_fr hI (by decide +kernel) (by decide +kernel), by decide, by decide⟩ ?_
  refine zl_ex (fun z16 ez16 => ?_)
  have F := zFB_M F ez16 (by decide)
  refine zl_ex (fun I5 eI => ?_)
  have hI := zIL_app hI eI
  clear eI
  refine zl_ex (fun z18 ez18 => ?_)
  have F := zFB_Q F ez18
  refine zl_ex (fun z20 ez20 => ?_)
  have F := zFB_A F ez20
  refine zl_ex (fun n6 en => ?_)
  have en : n6 = 0 := en
  subst en
  refine zqc_ex ⟨zIL_fr hI (by decide +kernel) (by decide +kernel), by decide, by decide⟩ ?_
  refine zl_ex (fun z21 ez21 => ?_)
  have F := zFB_M F ez21 (by decide)
  refine zl_ex (fun I6 eI => ?_)
  have hI := zIL_app hI eI
  clear eI
  refine zl_ex (fun z23 ez23 => ?_)
  have F := zFB_Q F ez23
  refine zl_ex (fun z25 ez25 => ?_)
  have F := zFB_A F ez25
  refine zl_ex (fun n7 en => ?_)
  have en : n7 = 1 := en
  subst en
  refine zqc_ex ⟨zIL_fr hI (by decide +kernel) (by decide +kernel), by decide, by decide⟩ ?_
  refine zl_ex (fun z26 ez26 => ?_)
  have F := zFB_M F ez26 (by decide)
  refine zl_ex (fun I7 eI => ?_)
  have hI := zIL_app hI eI
  clear eI
  refine zl_ex (fun z28 ez28 => ?_)
  have F := zFB_Q F ez28
  refine zl_ex (fun z30 ez30 => ?_)
  have F := zFB_A F ez30
  refine zl_ex (fun n8 en => ?_)
  have en : n8 = 2 := en
  subst en
  refine zqc_ex ⟨zIL_fr hI (by decide +kernel) (by decide +kernel), by decide, by decide⟩ ?_
  refine zl_ex (fun z31 ez31 => ?_)
  have F := zFB_M F ez31 (by decide)
  refine zl_ex (fun I8 eI => ?_)
  have hI := zIL_app hI eI
  clear eI
  refine zl_ex (fun z33 ez33 => ?_)
  have F := zFB_Q F ez33
  refine zl_ex (fun z35 ez35 => ?_)
  have F := zFB_A F ez35
  refine zl_ex (fun n9 en => ?_)
  have en : n9 = 3 := en
  subst en
  refine zqc_ex ⟨zIL_fr hI (by decide +kernel) (by decide +kernel), by decide, by decide⟩ ?_
  refine zl_ex (fun z36 ez36 => ?_)
  have F := zFB_M F ez36 (by decide)
  refine zl_ex (fun I9 eI => ?_)
  have hI := zIL_app hI eI
  clear eI
  refine zl_ex (fun z38 ez38 => ?_)
  have F := zFB_Q F ez38
  refine zl_ex (fun z40 ez40 => ?_)
  have F := zFB_A F ez40
  refine zl_ex (fun n10 en => ?_)
  have en : n10 = 4 := en
  subst en
  refine zqc_ex ⟨zIL_fr hI (by decide +kernel) (by decide +kernel), by decide, by decide⟩ ?_
  refine zl_ex (fun z41 ez41 => ?_)
  have F := zFB_M F ez41 (by decide)
  refine zl_ex (fun I10 eI => ?_)
  have hI := zIL_app hI eI
  clear eI
  refine zl_ex (fun z43 ez43 => ?_)
  have F := zFB_Q F ez43
  refine zl_ex (fun z45 ez45 => ?_)
  have F := zFB_A F ez45
  refine zl_ex (fun n11 en => ?_)
  have en : n11 = 5 := en
  subst en
  refine zqc_ex ⟨zIL_fr hI (by decide +kernel) (by decide +kernel), by decide, by decide⟩ ?_
  refine zl_ex (fun z46 ez46 => ?_)
  have F := zFB_M F ez46 (by decide)
  refine zl_ex (fun I11 eI => ?_)
  have hI := zIL_app hI eI
  clear eI
  refine zl_ex (fun z48 ez48 => ?_)
  have F := zFB_Q F ez48
  refine zl_ex (fun z50 ez50 => ?_)
  have F := zFB_A F ez50
  refine zl_ex (fun n12 en => ?_)
  have en : n12 = 6 := en
  subst en
  refine zqc_ex ⟨zIL_fr hI (by decide +kernel) (by decide +kernel), by decide, by decide⟩ ?_
  refine zl_ex (fun z51 ez51 => ?_)
  have F := zFB_M F ez51 (by decide)
  refine zl_ex (fun I12 eI => ?_)
  have hI := zIL_app hI eI
  clear eI
  refine zl_ex (fun z53 ez53 => ?_)
  have F := zFB_Q F ez53
  refine zl_ex (fun z55 ez55 => ?_)
  have F := zFB_A F ez55
  refine zl_ex (fun n13 en => ?_)
  have en : n13 = 7 := en
  subst en
  refine zqc_ex ⟨zIL_fr hI (by decide +kernel) (by decide +kernel), by decide, by decide⟩ ?_
  refine zl_ex (fun z56 ez56 => ?_)
  have F := zFB_M F ez56 (by decide)
  refine zl_ex (fun I13 eI => ?_)
  have hI := zIL_app hI eI
  clear eI
  refine zl_ex (fun z58 ez58 => ?_)
  have F := zFB_Q F ez58
  refine zl_ex (fun z60 ez60 => ?_)
  have F := zFB_A F ez60
  refine zl_ex (fun n14 en => ?_)
  have en : n14 = 8 := en
  subst en
  refine zqc_ex ⟨zIL_fr hI (by decide +kernel) (by decide +kernel), by decide, by decide⟩ ?_
  refine zl_ex (fun z61 ez61 => ?_)
  have F := zFB_M F ez61 (by decide)
  refine zl_ex (fun I14 eI => ?_)
  have hI := zIL_app hI eI
  clear eI
  refine zl_ex (fun z63 ez63 => ?_)
  have F := zFB_Q F ez63
  refine zl_ex (fun z65 ez65 => ?_)
  have F := zFB_A F ez65
  refine zl_ex (fun n15 en => ?_)
  have en : n15 = 9 := en
  subst en
  refine zqc_ex ⟨zIL_fr hI (by decide +kernel) (by decide +kernel), by decide, by decide⟩ ?_
  refine zl_ex (fun z66 ez66 => ?_)
  have F := zFB_M F ez66 (by decide)
  refine zl_ex (fun I15 eI => ?_)
  have hI := zIL_app hI eI
  clear eI
  refine zl_ex (fun z68 ez68 => ?_)
  have F := zFB_Q F ez68
  refine zl_ex (fun z70 ez70 => ?_)
  have F := zFB_A F ez70
  refine zl_ex (fun n16 en => ?_)
  have en : n16 = 10 := en
  subst en
  refine zqc_ex ⟨zIL_fr hI (by decide +kernel) (by decide +kernel), by decide, by decide⟩ ?_
  refine zl_ex (fun z71 ez71 => ?_)
  have F := zFB_M F ez71 (by decide)
  refine zl_ex (fun I16 eI => ?_)
  have hI := zIL_app hI eI
  clear eI
  refine zl_ex (fun z73 ez73 => ?_)
  have F := zFB_Q F ez73
  refine zl_ex (fun z75 ez75 => ?_)
  have F := zFB_A F ez75
  refine zl_ex (fun n17 en => ?_)
  have en : n17 = 11 := en
  subst en
  refine zqc_ex ⟨zIL_fr hI (by decide +kernel) (by decide +kernel), by decide, by decide⟩ ?_
  refine zl_ex (fun z76 ez76 => ?_)
  have F := zFB_M F ez76 (by decide)
  refine zl_ex (fun I17 eI => ?_)
  have hI := zIL_app hI eI
  clear eI
  refine zl_ex (fun z78 ez78 => ?_)
  have F := zFB_Q F ez78
  refine zl_ex (fun z80 ez80 => ?_)
  have F := zFB_A F ez80
  refine zl_ex (fun n18 en => ?_)
  have en : n18 = 12 := en
  subst en
  refine zqc_ex ⟨zIL_fr hI (by decide +kernel) (by decide +kernel), by decide, by decide⟩ ?_
  refine zl_ex (fun z81 ez81 => ?_)
  have F := zFB_M F ez81 (by decide)
  refine zl_ex (fun I18 eI => ?_)
  have hI := zIL_app hI eI
  clear eI
  refine zl_ex (fun z83 ez83 => ?_)
  have F := zFB_Q F ez83
  refine zl_ex (fun z85 ez85 => ?_)
  have F := zFB_A F ez85
  refine zl_ex (fun n19 en => ?_)
  have en : n19 = 13 := en
  subst en
  refine zqc_ex ⟨zIL_fr hI (by decide +kernel) (by decide +kernel), by decide, by decide⟩ ?_
  refine zl_ex (fun z86 ez86 => ?_)
  have F := zFB_M F ez86 (by decide)
  refine zl_ex (fun I19 eI => ?_)
  have hI := zIL_app hI eI
  clear eI
  refine zl_ex (fun z88 ez88 => ?_)
  have F := zFB_Q F ez88
  refine zl_ex (fun z90 ez90 => ?_)
  have F := zFB_A F ez90
  refine zl_ex (fun n20 en => ?_)
  have en : n20 = 14 := en
  subst en
  refine zqc_ex ⟨zIL_fr hI (by decide +kernel) (by decide +kernel), by decide, by decide⟩ ?_
  refine zl_ex (fun z91 ez91 => ?_)
  have F := zFB_M F ez91 (by decide)
  refine zl_ex (fun I20 eI => ?_)
  have hI := zIL_app hI eI
  clear eI
  refine zl_ex (fun z93 ez93 => ?_)
  have F := zFB_Q F ez93
  refine zl_ex (fun z95 ez95 => ?_)
  have F := zFB_A F ez95
  refine zl_ex (fun n21 en => ?_)
  have en : n21 = 15 := en
  subst en
  refine zqc_ex ⟨zIL_fr hI (by decide +kernel) (by decide +kernel), by decide, by decide⟩ ?_
  refine zl_ex (fun z96 ez96 => ?_)
  have F := zFB_M F ez96 (by decide)
  refine zl_ex (fun I21 eI => ?_)
  have hI := zIL_app hI eI
  clear eI
  refine zl_ex (fun z98 ez98 => ?_)
  have F := zFB_Q F ez98
  refine zl_ex (fun z100 ez100 => ?_)
  have F := zFB_A F ez100
  refine zl_ex (fun z102 ez102 => ?_)
  have F := zFB_A F ez102
  refine zl_ex (fun z104 ez104 => ?_)
  have F := zFB_A F ez104
  refine zl_ex (fun z106 ez106 => ?_)
  have F := zFB_A F ez106
  refine zl_ex (fun z108 ez108 => ?_)
  have F := zFB_A F ez108
  refine zl_ex (fun z110 ez110 => ?_)
  have F := zFB_A F ez110
  refine zl_ex (fun z112 ez112 => ?_)
  have F := zFB_A F ez112
  refine zl_ex (fun z114 ez114 => ?_)
  have F := zFB_A F ez114
  refine zl_ex (fun z116 ez116 => ?_)
  have F := zFB_A F ez116
  refine zl_ex (fun z118 ez118 => ?_)
  have F := zFB_A F ez118
  refine zl_ex (fun z120 ez120 => ?_)
  have F := zFB_A F ez120
  refine zl_ex (fun z122 ez122 => ?_)
  have F := zFB_A F ez122
  refine zl_ex (fun z124 ez124 => ?_)
  have F := zFB_A F ez124
  refine zl_ex (fun z126 ez126 => ?_)
  have F := zFB_A F ez126
  refine zl_ex (fun z128 ez128 => ?_)
  have F := zFB_A F ez128
  refine zl_ex (fun z130 ez130 => ?_)
  have F := zFB_A F ez130
  refine zl_ex (fun z132 ez132 => ?_)
  have F := zFB_A F ez132
  refine zl_ex (fun z134 ez134 => ?_)
  have F := zFB_A F ez134
  refine zl_ex (fun z136 ez136 => ?_)
  have F := zFB_A F ez136
  refine zl_ex (fun z138 ez138 => ?_)
  have F := zFB_A F ez138
  refine zl_ex (fun z140 ez140 => ?_)
  have F := zFB_A F ez140
  refine zl_ex (fun z142 ez142 => ?_)
  have F := zFB_A F ez142
  refine zl_ex (fun z144 ez144 => ?_)
  have F := zFB_A F ez144
  refine zl_ex (fun z146 ez146 => ?_)
  have F := zFB_A F ez146
  refine zl_ex (fun z148 ez148 => ?_)
  have F := zFB_A F ez148
  refine zl_ex (fun z150 ez150 => ?_)
  have F := zFB_A F ez150
  refine zl_ex (fun z152 ez152 => ?_)
  have F := zFB_A F ez152
  refine zl_ex (fun z154 ez154 => ?_)
  have F := zFB_A F ez154
  refine zl_ex (fun z156 ez156 => ?_)
  have F := zFB_A F ez156
  refine zl_ex (fun z158 ez158 => ?_)
  have F := zFB_A F ez158
  refine zl_ex (fun z160 ez160 => ?_)
  have F := zFB_A F ez160
  refine zl_ex (fun z162 ez162 => ?_)
  have F := zFB_A F ez162
  refine zl_ex (fun z164 ez164 => ?_)
  have F := zFB_A F ez164
  refine zl_ex (fun z166 ez166 => ?_)
  have F := zFB_A F ez166
  refine zl_ex (fun z168 ez168 => ?_)
  have F := zFB_A F ez168
  refine zl_ex (fun z170 ez170 => ?_)
  have F := zFB_A F ez170
  refine zl_ex (fun z172 ez172 => ?_)
  have F := zFB_A F ez172
  refine zl_ex (fun z174 ez174 => ?_)
  have F := zFB_A F ez174
  refine zl_ex (fun z176 ez176 => ?_)
  have F := zFB_A F ez176
  refine zl_ex (fun z178 ez178 => ?_)
  have F := zFB_A F ez178
  refine zl_ex (fun z180 ez180 => ?_)
  have F := zFB_A F ez180
  refine zl_ex (fun z182 ez182 => ?_)
  have F := zFB_A F ez182
  refine zl_ex (fun z184 ez184 => ?_)
  have F := zFB_A F ez184
  refine zl_ex (fun z186 ez186 => ?_)
  have F := zFB_A F ez186
  refine zl_ex (fun z188 ez188 => ?_)
  have F := zFB_A F ez188
  refine zl_ex (fun z190 ez190 => ?_)
  have F := zFB_A F ez190
  refine zl_ex (fun z192 ez192 => ?_)
  have F := zFB_A F ez192
  refine zl_ex (fun z194 ez194 => ?_)
  have F := zFB_A F ez194
  refine zl_ex (fun z196 ez196 => ?_)
  have F := zFB_A F ez196
  refine zl_ex (fun z198 ez198 => ?_)
  have F := zFB_A F ez198
  refine zl_ex (fun z200 ez200 => ?_)
  have F := zFB_A F ez200
  refine zl_ex (fun z202 ez202 => ?_)
  have F := zFB_A F ez202
  refine zl_ex (fun z204 ez204 => ?_)
  have F := zFB_A F ez204
  refine zl_ex (fun z206 ez206 => ?_)
  have F := zFB_A F ez206
  refine zl_ex (fun z208 ez208 => ?_)
  have F := zFB_A F ez208
  refine zl_ex (fun z210 ez210 => ?_)
  have F := zFB_A F ez210
  refine zl_ex (fun z212 ez212 => ?_)
  have F := zFB_A F ez212
  refine zl_ex (fun z214 ez214 => ?_)
  have F := zFB_A F ez214
  refine zl_ex (fun z216 ez216 => ?_)
  have F := zFB_A F ez216
  refine zl_ex (fun z218 ez218 => ?_)
  have F := zFB_A F ez218
  refine zl_ex (fun z220 ez220 => ?_)
  have F := zFB_A F ez220
  refine zl_ex (fun z222 ez222 => ?_)
  have F := zFB_A F ez222
  refine zl_ex (fun z224 ez224 => ?_)
  have F := zFB_A F ez224
  refine zl_ex (fun z226 ez226 => ?_)
  have F := zFB_A F ez226
  refine zl_ex (fun z228 ez228 => ?_)
  have F := zFB_A F ez228
  refine zl_ex (fun z230 ez230 => ?_)
  have F := zFB_A F ez230
  refine zl_ex (fun z232 ez232 => ?_)
  have F := zFB_A F ez232
  refine zl_ex (fun z234 ez234 => ?_)
  have F := zFB_A F ez234
  refine zl_ex (fun z236 ez236 => ?_)
  have F := zFB_A F ez236
  refine zl_ex (fun z238 ez238 => ?_)
  have F := zFB_A F ez238
  refine zl_ex (fun z240 ez240 => ?_)
  have F := zFB_A F ez240
  refine zl_ex (fun z242 ez242 => ?_)
  have F := zFB_A F ez242
  exact zbx_end F
theorem zt11_box_0 {z : St} {I : List (Nat × Nat)} (h : zF0 z I) (N : Nat) : ∃ y, fX11_box_0 N 68 43303 0 I z = some y ∧ (y.1 = .inl 0 ∧ y.2.2 = I ++ znmX1_h 0 ∧ ∀ j, zgI y.2.1 19 j 0 = zgI z 19 j 0) := by
  unfold fX11_box_0
  rw [h.1 3, if_pos (by decide)]
  refine zl_ex (fun n1 e => ?_)
  have e : n1 = 0 := e
  subst e
  refine zqc_ex ⟨zfr_ok (by decide +kernel) (by decide +kernel) h.2.2.2.2, by decide, by decide⟩ (zl_ex (fun z2 e2 => zl_ex (fun I1 e3 => zk_ex (by decide) (zl_ex (fun z4 e4 => zl_ex (fun z5 e5 => ?_))))))
  have m1 : (11, 0) ∉ znmX1_h 0 := by decide
  have m2 : (19, 0) ∉ znmX1_h 0 := by decide
  refine ⟨_, rfl, ?_, e3, fun j => ?_⟩
  · have g : zgI z5 11 3 0 = 1 := by
      rw [e5, zgI_sI, if_pos ⟨rfl, rfl, rfl⟩, e4, zgI_sQ, e2, zgI_mg, if_neg m1, h.1 3]; rfl
    have g2 : zgI (zsI z5 11 5 0 (zgI z5 11 4 0)) 11 3 0 = 1 := by
      rw [zgI_sI, if_neg (by decide), g]
    show (Sum.inl (zgI (zsI z5 11 5 0 (zgI z5 11 4 0)) 11 3 0 - 1) : Int32 ⊕ Nat) = .inl 0
    rw [g2]; rfl
  · show zgI (zsI z5 11 5 0 (zgI z5 11 4 0)) 19 j 0 = _
    rw [zgI_sI, if_neg (by simp), e5, zgI_sI, if_neg (by simp), e4, zgI_sQ, e2, zgI_mg, if_neg m2]
theorem zo_0h {z : St} {I : List (Nat × Nat)} (h : zF0 z I) (N : Nat) (sc : Nat → Int32) (hs : sc 1 = 0) : ∃ S, fLaw_0 N sc I 1134 2818858 z = some S := by
  obtain ⟨⟨a1, z1, I1⟩, e1, ha, hI1, k1⟩ := zt11_box_0 h N
  dsimp only at ha hI1 k1
  subst ha hI1
  obtain ⟨-, ⟨g19, -⟩, -, -, hI⟩ := h
  have q1 : zcx1 (fX11_box_0 N 68 43303 0 I z) 68 1 = 68 := by rw [e1]; rfl
  have q2 : zcx1 (fX11_box_0 N 68 43303 0 I z) 43303 6 = 43303 := by rw [e1]; rfl
  have e4 : fL_box_0 N 68 43303 0 0 I z = some ((0 : Int32), zsL z1 193 0 0 0, I ++ znmX1_h 0) := by unfold fL_box_0; rw [e1]; rfl
  have b1 : zgI (zsL z1 193 0 0 0) 19 19 0 = 0 := by rw [zgI_sL, k1, g19]
  have b2 : zgL (zsL z1 193 0 0 0) 193 0 0 = 0 := by simp [zgL_sL]
  have b3 : zIL (I ++ znmX1_h 0) [] := fun q hq => Or.inl (by
    rcases List.mem_append.mp hq with hq | hq
    · simp [zbk, hI q hq]
    · simp [zbk, hq])
  obtain ⟨⟨r3, z3, I3⟩, e3, f1, f2, f3⟩ := zbx_0 N b1 b2 b3
  dsimp only at f1 f2 f3
  subst f1
  have e5 : fX19_box_0 N 51 38360 0 (I ++ znmX1_h 0) (zsL z1 193 0 0 0) = some ((0 : Int32), z3, I3) := by
    unfold fX19_box_0
    rw [b1, if_pos (by decide)]
    exact e3
  have q3 : ∀ RC, zcy1 (fX19_box_0 N 51 38360 0 (I ++ znmX1_h 0) (zsL z1 193 0 0 0)) RC = RC := fun RC => by rw [e5]; simp [zcy1, f2]
  have r1 : 1134 + (rmL_box_0 68 43303).cells ≤ room_1.cells ∧ 2818858 + (rmL_box_0 68 43303).slots ≤ room_1.slots := ⟨Nat.le_of_ble_eq_true rfl, Nat.le_of_ble_eq_true rfl⟩
  have r2 : 1134 + (rmL_box_0 68 43303).cells + (rmX19_box_0 51 38360).cells ≤ room_1.cells ∧ 2818858 + (rmL_box_0 68 43303).slots + (rmX19_box_0 51 38360).slots ≤ room_1.slots := ⟨Nat.le_of_ble_eq_true rfl, Nat.le_of_ble_eq_true rfl⟩
  have l4 : lg_cmp 0 0 = 0 := by decide
  unfold fLaw_0
  rw [if_pos hs, q1, q2, e4, zqc_t r1]
  simp only [zc3]
  rw [q3, q3, zqc_t r2, e5]
  simp [zc3, zc, fX19_thrown, f2, f3, l4]
theorem zt11_box_1 {z : St} {I : List (Nat × Nat)} (h : zF0 z I) (N : Nat) : ∃ y, fX11_box_1 N 152 8708 0 I z = some y ∧ (y.1 = .inl 0 ∧ y.2.2 = I ++ znmX1_r 0 ∧ ∀ j, zgI y.2.1 19 j 0 = zgI z 19 j 0) := by
  unfold fX11_box_1
  rw [h.1 3, if_pos (by decide)]
  refine zl_ex (fun n1 e => ?_)
  have e : n1 = 0 := e
  subst e
  refine zqc_ex ⟨zfr_ok (by decide +kernel) (by decide +kernel) h.2.2.2.2, by decide, by decide⟩ (zl_ex (fun z2 e2 => zl_ex (fun I1 e3 => zk_ex (by decide) (zl_ex (fun z4 e4 => zl_ex (fun z5 e5 => ?_))))))
  have m1 : (11, 0) ∉ znmX1_r 0 := by decide
  have m2 : (19, 0) ∉ znmX1_r 0 := by decide
  refine ⟨_, rfl, ?_, e3, fun j => ?_⟩
  · have g : zgI z5 11 3 0 = 1 := by
      rw [e5, zgI_sI, if_pos ⟨rfl, rfl, rfl⟩, e4, zgI_sQ, e2, zgI_mg, if_neg m1, h.1 3]; rfl
    have g2 : zgI (zsI z5 11 5 0 (zgI z5 11 4 0)) 11 3 0 = 1 := by
      rw [zgI_sI, if_neg (by decide), g]
    show (Sum.inl (zgI (zsI z5 11 5 0 (zgI z5 11 4 0)) 11 3 0 - 1) : Int32 ⊕ Nat) = .inl 0
    rw [g2]; rfl
  · show zgI (zsI z5 11 5 0 (zgI z5 11 4 0)) 19 j 0 = _
    rw [zgI_sI, if_neg (by simp), e5, zgI_sI, if_neg (by simp), e4, zgI_sQ, e2, zgI_mg, if_neg m2]
theorem zo_0r {z : St} {I : List (Nat × Nat)} (h : zF0 z I) (N : Nat) (sc : Nat → Int32) (hs : ¬ sc 1 = 0) : ∃ S, fLaw_0 N sc I 1134 2818858 z = some S := by
  obtain ⟨⟨a1, z1, I1⟩, e1, ha, hI1, k1⟩ := zt11_box_1 h N
  dsimp only at ha hI1 k1
  subst ha hI1
  obtain ⟨-, ⟨g19, -⟩, -, -, hI⟩ := h
  have q1 : zcx1 (fX11_box_1 N 152 8708 0 I z) 152 1 = 152 := by rw [e1]; rfl
  have q2 : zcx1 (fX11_box_1 N 152 8708 0 I z) 8708 6 = 8708 := by rw [e1]; rfl
  have e4 : fL_box_1 N 152 8708 0 0 I z = some ((0 : Int32), zsL z1 193 0 0 0, I ++ znmX1_r 0) := by unfold fL_box_1; rw [e1]; rfl
  have b1 : zgI (zsL z1 193 0 0 0) 19 19 0 = 0 := by rw [zgI_sL, k1, g19]
  have b2 : zgL (zsL z1 193 0 0 0) 193 0 0 = 0 := by simp [zgL_sL]
  have b3 : zIL (I ++ znmX1_r 0) [] := fun q hq => Or.inl (by
    rcases List.mem_append.mp hq with hq | hq
    · simp [zbk, hI q hq]
    · simp [zbk, hq])
  obtain ⟨⟨r3, z3, I3⟩, e3, f1, f2, f3⟩ := zbx_1 N b1 b2 b3
  dsimp only at f1 f2 f3
  subst f1
  have e5 : fX19_box_1 N 69 1762 0 (I ++ znmX1_r 0) (zsL z1 193 0 0 0) = some ((0 : Int32), z3, I3) := by
    unfold fX19_box_1
    rw [b1, if_pos (by decide)]
    exact e3
  have q3 : ∀ RC, zcy1 (fX19_box_1 N 69 1762 0 (I ++ znmX1_r 0) (zsL z1 193 0 0 0)) RC = RC := fun RC => by rw [e5]; simp [zcy1, f2]
  have r1 : 1134 + (rmL_box_1 152 8708).cells ≤ room_1.cells ∧ 2818858 + (rmL_box_1 152 8708).slots ≤ room_1.slots := ⟨Nat.le_of_ble_eq_true rfl, Nat.le_of_ble_eq_true rfl⟩
  have r2 : 1134 + (rmL_box_1 152 8708).cells + (rmX19_box_1 69 1762).cells ≤ room_1.cells ∧ 2818858 + (rmL_box_1 152 8708).slots + (rmX19_box_1 69 1762).slots ≤ room_1.slots := ⟨Nat.le_of_ble_eq_true rfl, Nat.le_of_ble_eq_true rfl⟩
  have l4 : lg_cmp 0 0 = 0 := by decide
  unfold fLaw_0
  rw [if_neg hs, q1, q2, e4, zqc_t r1]
  simp only [zc3]
  rw [q3, q3, zqc_t r2, e5]
  simp [zc3, zc, fX19_thrown, f2, f3, l4]
theorem zone {z : St} {I : List (Nat × Nat)} (h : zF0 z I) (sc : Nat → Int32) : ∃ S, fLaw_one 2001 sc (z, I, 1134, 2818858) = some S := by
  have h1 := zF0_1 h
  have h9 := zF0_9 h
  unfold fLaw_one
  dsimp only
  by_cases c0 : (sc 0 &&& (31 : Int32)) = (0 : Int32)
  · rw [if_pos c0]
    by_cases hs : sc 1 = 0
    · exact zo_0h h _ sc hs
    · exact zo_0r h _ sc hs
  rw [if_neg c0]
  by_cases c1 : (sc 0 &&& (31 : Int32)) = (1 : Int32)
  · rw [if_pos c1]
    exact zo_1 h _ sc
  rw [if_neg c1]
  by_cases c2 : (sc 0 &&& (31 : Int32)) = (2 : Int32)
  · rw [if_pos c2]
    exact zo_2 h1 h9 _ sc I
  rw [if_neg c2]
  by_cases c3 : (sc 0 &&& (31 : Int32)) = (3 : Int32)
  · rw [if_pos c3]
    exact zo_3 h1 h9 _ sc I
  rw [if_neg c3]
  by_cases c4 : (sc 0 &&& (31 : Int32)) = (4 : Int32)
  · rw [if_pos c4]
    exact zo_4 h1 h9 _ sc I
  rw [if_neg c4]
  by_cases c5 : (sc 0 &&& (31 : Int32)) = (5 : Int32)
  · rw [if_pos c5]
    exact zo_5 h1 h9 _ sc I
  rw [if_neg c5]
  by_cases c6 : (sc 0 &&& (31 : Int32)) = (6 : Int32)
  · rw [if_pos c6]
    exact zo_6 h 2000 (by decide) sc
  rw [if_neg c6]
  by_cases c7 : (sc 0 &&& (31 : Int32)) = (7 : Int32)
  · rw [if_pos c7]
    exact zo_7 h1 h9 _ sc I
  rw [if_neg c7]
  by_cases c8 : (sc 0 &&& (31 : Int32)) = (8 : Int32)
  · rw [if_pos c8]
    exact zo_8 h1 h9 _ sc I
  rw [if_neg c8]
  by_cases c9 : (sc 0 &&& (31 : Int32)) = (9 : Int32)
  · rw [if_pos c9]
    exact zo_9 h1 h9 _ sc I
  rw [if_neg c9]
  by_cases c10 : (sc 0 &&& (31 : Int32)) = (10 : Int32)
  · rw [if_pos c10]
    exact zo_10 h1 h9 _ sc I
  rw [if_neg c10]
  by_cases c11 : (sc 0 &&& (31 : Int32)) = (11 : Int32)
  · rw [if_pos c11]
    exact zo_11 h1 h9 _ sc I
  rw [if_neg c11]
  by_cases c12 : (sc 0 &&& (31 : Int32)) = (12 : Int32)
  · rw [if_pos c12]
    exact zo_12 h1 h9 _ sc I
  rw [if_neg c12]
  by_cases c13 : (sc 0 &&& (31 : Int32)) = (13 : Int32)
  · rw [if_pos c13]
    exact zo_13 h1 h9 _ sc I
  rw [if_neg c13]
  by_cases c14 : (sc 0 &&& (31 : Int32)) = (14 : Int32)
  · rw [if_pos c14]
    exact zo_14 h1 h9 _ sc I
  rw [if_neg c14]
  by_cases c15 : (sc 0 &&& (31 : Int32)) = (15 : Int32)
  · rw [if_pos c15]
    exact zo_15 h1 h9 _ sc I
  rw [if_neg c15]
  by_cases c16 : (sc 0 &&& (31 : Int32)) = (16 : Int32)
  · rw [if_pos c16]
    exact zo_16 h1 h9 _ sc I
  rw [if_neg c16]
  by_cases c17 : (sc 0 &&& (31 : Int32)) = (17 : Int32)
  · rw [if_pos c17]
    exact zo_17 h1 h9 _ sc I
  rw [if_neg c17]
  by_cases c18 : (sc 0 &&& (31 : Int32)) = (18 : Int32)
  · rw [if_pos c18]
    exact zo_18 h1 h9 _ sc I
  rw [if_neg c18]
  by_cases c19 : (sc 0 &&& (31 : Int32)) = (19 : Int32)
  · rw [if_pos c19]
    exact zo_19 h1 h9 _ sc I
  rw [if_neg c19]
  by_cases c20 : (sc 0 &&& (31 : Int32)) = (20 : Int32)
  · rw [if_pos c20]
    exact zo_20 h1 h9 _ sc I
  rw [if_neg c20]
  by_cases c21 : (sc 0 &&& (31 : Int32)) = (21 : Int32)
  · rw [if_pos c21]
    exact zo_21 h _ sc
  rw [if_neg c21]
  by_cases c22 : (sc 0 &&& (31 : Int32)) = (22 : Int32)
  · rw [if_pos c22]
    exact zo_22 h _ sc
  rw [if_neg c22]
  by_cases c23 : (sc 0 &&& (31 : Int32)) = (23 : Int32)
  · rw [if_pos c23]
    exact zo_23 h1 h9 _ sc I
  rw [if_neg c23]
  by_cases c24 : (sc 0 &&& (31 : Int32)) = (24 : Int32)
  · rw [if_pos c24]
    exact zo_24 h 2000 sc
  rw [if_neg c24]
  by_cases c25 : (sc 0 &&& (31 : Int32)) = (25 : Int32)
  · rw [if_pos c25]
    exact zo_25 h1 h9 _ sc I
  rw [if_neg c25]
  by_cases c26 : (sc 0 &&& (31 : Int32)) = (26 : Int32)
  · rw [if_pos c26]
    exact zo_26 h1 h9 _ sc I
  rw [if_neg c26]
  by_cases c27 : (sc 0 &&& (31 : Int32)) = (27 : Int32)
  · rw [if_pos c27]
    exact zo_27 h _ sc
  rw [if_neg c27]
  by_cases c28 : (sc 0 &&& (31 : Int32)) = (28 : Int32)
  · rw [if_pos c28]
    exact zo_28 h 2000 sc
  rw [if_neg c28]
  exact ⟨_, rfl⟩
