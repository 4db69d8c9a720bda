section LH
variable {l : Launch} {D : va_G} {cs : C4} {hz : Hp}
set_option maxRecDepth 100000 in
set_option maxHeartbeats 4000000 in
theorem hn_read {r : Int32} (N : Nat) (x : Nat) (o : Nat) (h : Hp) (p0 : Int32) (p1 : Int32) (hk0 : h.kd x = 12) (hko : h.kd o = 21) (hao : h.al o = 1) (hJ : J_X9_read N x h p0 p1 = some (hz, r)) : Hn l yL_read cL_read 5 (some .int) [(0, 10, 13, 13)] 11 350 D cs h (hz.saw o 0 r.toInt64) [.ref x, .int p0, .int p1, .ref o] 0 := by
  intro mc ms g1 g2
  refine je_anyH (by decide) (by simp [lg_sl, rf_cat, cat_i, cat_l, cat_r]) ?_
  intro p e s m args below meth c C hc htab w ls hl
  have hl : lv_has ls 5 [(0, .ref x), (1, .int p0), (2, .int p1), (3, .ref o)] := hl
  obtain ⟨hx, hb, hml, hown, hts, -⟩ := id C
  have hm := mo_X9_read N x h p0 p1 hJ
  refine lv_aload_n hx hb dL_read_0 rfl (lv_at hl 3 rfl) ?_
  refine lv_iconst (v := (0 : Int32)) hx hb dL_read_1 (by decide) ?_
  refine lv_aload_n hx hb dL_read_2 rfl (lv_at hl 0 rfl) ?_
  refine lv_iload_n hx hb dL_read_3 rfl (lv_at hl 1 rfl) ?_
  refine lv_iload_n hx hb dL_read_4 rfl (lv_at hl 2 rfl) ?_
  refine jc_Vi (As := [.int p0, .int p1]) (hz := (hz.saw o 0 r.toInt64)) C w (cc_X9_read N x h p0 p1 hk0 hJ) hm (Mo.saw hz o 0 r.toInt64) ⟨g1, g2⟩ hk0 (by decide) rfl (fs := fs12 h x) rfl rfl ⟨tw_5_110, tw_5_107, tw_5_108, tw_5_109, tw_1_1⟩ cd_X9_read ⟨by decide, by decide⟩ hl.1 (by first | exact Nat.le_of_ble_eq_true rfl | simp [rf_cat, cat_i, cat_l, cat_r]) rfl dL_read_5 (fun H locs w1 => ?_)
  have hko1 : hz.kd o = 21 := kd_keep w hm hko (by decide)
  have hao1 : hz.al o = 1 := (hm.2.2.2.2 o (kd_lt w hko (by decide))).trans hao
  refine lv_i2l hx hb dL_read_8 rfl ?_
  refine jr_last C w1 hko1 (by rw [hao1]; decide) dL_read_9 (fun H locs w2 => ?_)
  refine lv_goto (tgt := 17) hx hb dL_read_10 (by decide) ?_
  refine lv_iconst (v := (0 : Int32)) hx hb dL_read_17 (by decide) ?_
  exact jr_iret C w2 ⟨g1, g2⟩ dL_read_18
set_option maxRecDepth 100000 in
set_option maxHeartbeats 4000000 in
theorem ht_read_1 (hl0 : l.stackTraces = false) (N : Nat) (x : Nat) (o : Nat) (h : Hp) (p0 : Int32) (p1 : Int32) (hk0 : h.kd x = 12) (hJ : J_xX9_read N x h p0 p1 = some (hz, "java/lang/IllegalStateException")) : Ht l yL_read cL_read 5 (some .int) [(0, 10, 13, 13)] 11 350 D cs h hz [.ref x, .int p0, .int p1, .ref o] 1 := by
  intro mc ms g1 g2
  refine je_anyH (by decide) (by simp [lg_sl, rf_cat, cat_i, cat_l, cat_r]) ?_
  intro p e s m args below meth c C hc htab w ls hl
  have hl : lv_has ls 5 [(0, .ref x), (1, .int p0), (2, .int p1), (3, .ref o)] := hl
  obtain ⟨hx, hb, hml, hown, hts, -⟩ := id C
  have hm := mo_xX9_read N x h p0 p1 hJ
  refine lv_aload_n hx hb dL_read_0 rfl (lv_at hl 3 rfl) ?_
  refine lv_iconst (v := (0 : Int32)) hx hb dL_read_1 (by decide) ?_
  refine lv_aload_n hx hb dL_read_2 rfl (lv_at hl 0 rfl) ?_
  refine lv_iload_n hx hb dL_read_3 rfl (lv_at hl 1 rfl) ?_
  refine lv_iload_n hx hb dL_read_4 rfl (lv_at hl 2 rfl) ?_
  refine jx_H (As := [.int p0, .int p1]) C w (xc_X9_read hl0 N x h p0 p1 hk0 hJ) hm ⟨g1, g2⟩ hk0 (by decide) rfl (fs := fs12 h x) rfl rfl ⟨tw_5_110, tw_5_107, tw_5_108, tw_5_109, tw_1_1⟩ cd_X9_read ⟨by decide, by decide⟩ hl.1 (by first | exact Nat.le_of_ble_eq_true rfl | simp [rf_cat, cat_i, cat_l, cat_r]) rfl dL_read_5 [] ⟨0, 10, 13, 13⟩ [] htab (fun z hz9 => nomatch hz9) rfl (by decide) tw_5_106 (xw_of C).2.2.2.1 (fun H1 locs1 q9 hS g4 g5 g6 => ?_)
  refine lv_astore (i := 4) (lv' := [(4, .ref q9), (0, .ref x), (1, .int p0), (2, .int p1), (3, .ref o)]) hx hb dL_read_13 hl (by decide) rfl (fun ls hl => ?_)
  refine lv_iconst (v := (1 : Int32)) hx hb dL_read_15 (by decide) ?_
  exact hx_ret C hS g4 g5 g6 dL_read_16
theorem cdL_read : Cd yL_read 4 := ⟨by decide +kernel, by decide +kernel, by decide +kernel⟩
set_option maxRecDepth 100000 in
set_option maxHeartbeats 4000000 in
theorem hn_near {r : Int32} (N : Nat) (x : Nat) (o : Nat) (h : Hp) (p0 : Int32) (p1 : Int32) (p2 : Int32) (hk0 : h.kd x = 12) (hko : h.kd o = 21) (hao : h.al o = 1) (hJ : J_X9_near N x h p0 p1 p2 = some (hz, r)) : Hn l yL_near cL_near 6 (some .int) [(0, 12, 15, 13)] 11 350 D cs h (hz.saw o 0 r.toInt64) [.ref x, .int p0, .int p1, .int p2, .ref o] 0 := by
  intro mc ms g1 g2
  refine je_anyH (by decide) (by simp [lg_sl, rf_cat, cat_i, cat_l, cat_r]) ?_
  intro p e s m args below meth c C hc htab w ls hl
  have hl : lv_has ls 6 [(0, .ref x), (1, .int p0), (2, .int p1), (3, .int p2), (4, .ref o)] := hl
  obtain ⟨hx, hb, hml, hown, hts, -⟩ := id C
  have hm := mo_X9_near N x h p0 p1 p2 hJ
  refine lv_aload hx hb dL_near_0 (lv_at hl 4 rfl) ?_
  refine lv_iconst (v := (0 : Int32)) hx hb dL_near_2 (by decide) ?_
  refine lv_aload_n hx hb dL_near_3 rfl (lv_at hl 0 rfl) ?_
  refine lv_iload_n hx hb dL_near_4 rfl (lv_at hl 1 rfl) ?_
  refine lv_iload_n hx hb dL_near_5 rfl (lv_at hl 2 rfl) ?_
  refine lv_iload_n hx hb dL_near_6 rfl (lv_at hl 3 rfl) ?_
  refine jc_Vi (As := [.int p0, .int p1, .int p2]) (hz := (hz.saw o 0 r.toInt64)) C w (cc_X9_near N x h p0 p1 p2 hk0 hJ) hm (Mo.saw hz o 0 r.toInt64) ⟨g1, g2⟩ hk0 (by decide) rfl (fs := fs12 h x) rfl rfl ⟨tw_6_13, tw_6_10, tw_6_11, tw_6_12, tw_1_1⟩ cd_X9_near ⟨by decide, by decide⟩ hl.1 (by first | exact Nat.le_of_ble_eq_true rfl | simp [rf_cat, cat_i, cat_l, cat_r]) rfl dL_near_7 (fun H locs w1 => ?_)
  have hko1 : hz.kd o = 21 := kd_keep w hm hko (by decide)
  have hao1 : hz.al o = 1 := (hm.2.2.2.2 o (kd_lt w hko (by decide))).trans hao
  refine lv_i2l hx hb dL_near_10 rfl ?_
  refine jr_last C w1 hko1 (by rw [hao1]; decide) dL_near_11 (fun H locs w2 => ?_)
  refine lv_goto (tgt := 19) hx hb dL_near_12 (by decide) ?_
  refine lv_iconst (v := (0 : Int32)) hx hb dL_near_19 (by decide) ?_
  exact jr_iret C w2 ⟨g1, g2⟩ dL_near_20
set_option maxRecDepth 100000 in
set_option maxHeartbeats 4000000 in
theorem ht_near_1 (hl0 : l.stackTraces = false) (N : Nat) (x : Nat) (o : Nat) (h : Hp) (p0 : Int32) (p1 : Int32) (p2 : Int32) (hk0 : h.kd x = 12) (hJ : J_xX9_near N x h p0 p1 p2 = some (hz, "java/lang/IllegalStateException")) : Ht l yL_near cL_near 6 (some .int) [(0, 12, 15, 13)] 11 350 D cs h hz [.ref x, .int p0, .int p1, .int p2, .ref o] 1 := by
  intro mc ms g1 g2
  refine je_anyH (by decide) (by simp [lg_sl, rf_cat, cat_i, cat_l, cat_r]) ?_
  intro p e s m args below meth c C hc htab w ls hl
  have hl : lv_has ls 6 [(0, .ref x), (1, .int p0), (2, .int p1), (3, .int p2), (4, .ref o)] := hl
  obtain ⟨hx, hb, hml, hown, hts, -⟩ := id C
  have hm := mo_xX9_near N x h p0 p1 p2 hJ
  refine lv_aload hx hb dL_near_0 (lv_at hl 4 rfl) ?_
  refine lv_iconst (v := (0 : Int32)) hx hb dL_near_2 (by decide) ?_
  refine lv_aload_n hx hb dL_near_3 rfl (lv_at hl 0 rfl) ?_
  refine lv_iload_n hx hb dL_near_4 rfl (lv_at hl 1 rfl) ?_
  refine lv_iload_n hx hb dL_near_5 rfl (lv_at hl 2 rfl) ?_
  refine lv_iload_n hx hb dL_near_6 rfl (lv_at hl 3 rfl) ?_
  refine jx_H (As := [.int p0, .int p1, .int p2]) C w (xc_X9_near hl0 N x h p0 p1 p2 hk0 hJ) hm ⟨g1, g2⟩ hk0 (by decide) rfl (fs := fs12 h x) rfl rfl ⟨tw_6_13, tw_6_10, tw_6_11, tw_6_12, tw_1_1⟩ cd_X9_near ⟨by decide, by decide⟩ hl.1 (by first | exact Nat.le_of_ble_eq_true rfl | simp [rf_cat, cat_i, cat_l, cat_r]) rfl dL_near_7 [] ⟨0, 12, 15, 13⟩ [] htab (fun z hz9 => nomatch hz9) rfl (by decide) tw_5_106 (xw_of C).2.2.2.1 (fun H1 locs1 q9 hS g4 g5 g6 => ?_)
  refine lv_astore (i := 5) (lv' := [(5, .ref q9), (0, .ref x), (1, .int p0), (2, .int p1), (3, .int p2), (4, .ref o)]) hx hb dL_near_15 hl (by decide) rfl (fun ls hl => ?_)
  refine lv_iconst (v := (1 : Int32)) hx hb dL_near_17 (by decide) ?_
  exact hx_ret C hS g4 g5 g6 dL_near_18
theorem cdL_near : Cd yL_near 5 := ⟨by decide +kernel, by decide +kernel, by decide +kernel⟩
set_option maxRecDepth 100000 in
set_option maxHeartbeats 4000000 in
theorem hn_scan {r : Int32} (N : Nat) (x : Nat) (o : Nat) (h : Hp) (p0 : Int32) (p1 : Int32) (p2 : Int32) (p3 : Int32) (hk0 : h.kd x = 12) (hko : h.kd o = 21) (hao : h.al o = 1) (hJ : J_X9_scan N x h p0 p1 p2 p3 = some (hz, r)) : Hn l yL_scan cL_scan 7 (some .int) [(0, 14, 17, 13), (0, 14, 21, 23)] 11 350 D cs h (hz.saw o 0 r.toInt64) [.ref x, .int p0, .int p1, .int p2, .int p3, .ref o] 0 := by
  intro mc ms g1 g2
  refine je_anyH (by decide) (by simp [lg_sl, rf_cat, cat_i, cat_l, cat_r]) ?_
  intro p e s m args below meth c C hc htab w ls hl
  have hl : lv_has ls 7 [(0, .ref x), (1, .int p0), (2, .int p1), (3, .int p2), (4, .int p3), (5, .ref o)] := hl
  obtain ⟨hx, hb, hml, hown, hts, -⟩ := id C
  have hm := mo_X9_scan N x h p0 p1 p2 p3 hJ
  refine lv_aload hx hb dL_scan_0 (lv_at hl 5 rfl) ?_
  refine lv_iconst (v := (0 : Int32)) hx hb dL_scan_2 (by decide) ?_
  refine lv_aload_n hx hb dL_scan_3 rfl (lv_at hl 0 rfl) ?_
  refine lv_iload_n hx hb dL_scan_4 rfl (lv_at hl 1 rfl) ?_
  refine lv_iload_n hx hb dL_scan_5 rfl (lv_at hl 2 rfl) ?_
  refine lv_iload_n hx hb dL_scan_6 rfl (lv_at hl 3 rfl) ?_
  refine lv_iload hx hb dL_scan_7 (lv_at hl 4 rfl) ?_
  refine jc_Vi (As := [.int p0, .int p1, .int p2, .int p3]) (hz := (hz.saw o 0 r.toInt64)) C w (cc_X9_scan N x h p0 p1 p2 p3 hk0 hJ) hm (Mo.saw hz o 0 r.toInt64) ⟨g1, g2⟩ hk0 (by decide) rfl (fs := fs12 h x) rfl rfl ⟨tw_6_21, tw_6_18, tw_6_19, tw_6_20, tw_1_1⟩ cd_X9_scan ⟨by decide, by decide⟩ hl.1 (by first | exact Nat.le_of_ble_eq_true rfl | simp [rf_cat, cat_i, cat_l, cat_r]) rfl dL_scan_9 (fun H locs w1 => ?_)
  have hko1 : hz.kd o = 21 := kd_keep w hm hko (by decide)
  have hao1 : hz.al o = 1 := (hm.2.2.2.2 o (kd_lt w hko (by decide))).trans hao
  refine lv_i2l hx hb dL_scan_12 rfl ?_
  refine jr_last C w1 hko1 (by rw [hao1]; decide) dL_scan_13 (fun H locs w2 => ?_)
  refine lv_goto (tgt := 25) hx hb dL_scan_14 (by decide) ?_
  refine lv_iconst (v := (0 : Int32)) hx hb dL_scan_25 (by decide) ?_
  exact jr_iret C w2 ⟨g1, g2⟩ dL_scan_26
set_option maxRecDepth 100000 in
set_option maxHeartbeats 4000000 in
theorem ht_scan_1 (hl0 : l.stackTraces = false) (N : Nat) (x : Nat) (o : Nat) (h : Hp) (p0 : Int32) (p1 : Int32) (p2 : Int32) (p3 : Int32) (hk0 : h.kd x = 12) (hJ : J_xX9_scan N x h p0 p1 p2 p3 = some (hz, "java/lang/IllegalStateException")) : Ht l yL_scan cL_scan 7 (some .int) [(0, 14, 17, 13), (0, 14, 21, 23)] 11 350 D cs h hz [.ref x, .int p0, .int p1, .int p2, .int p3, .ref o] 1 := by
  intro mc ms g1 g2
  refine je_anyH (by decide) (by simp [lg_sl, rf_cat, cat_i, cat_l, cat_r]) ?_
  intro p e s m args below meth c C hc htab w ls hl
  have hl : lv_has ls 7 [(0, .ref x), (1, .int p0), (2, .int p1), (3, .int p2), (4, .int p3), (5, .ref o)] := hl
  obtain ⟨hx, hb, hml, hown, hts, -⟩ := id C
  have hm := mo_xX9_scan N x h p0 p1 p2 p3 hJ
  refine lv_aload hx hb dL_scan_0 (lv_at hl 5 rfl) ?_
  refine lv_iconst (v := (0 : Int32)) hx hb dL_scan_2 (by decide) ?_
  refine lv_aload_n hx hb dL_scan_3 rfl (lv_at hl 0 rfl) ?_
  refine lv_iload_n hx hb dL_scan_4 rfl (lv_at hl 1 rfl) ?_
  refine lv_iload_n hx hb dL_scan_5 rfl (lv_at hl 2 rfl) ?_
  refine lv_iload_n hx hb dL_scan_6 rfl (lv_at hl 3 rfl) ?_
  refine lv_iload hx hb dL_scan_7 (lv_at hl 4 rfl) ?_
  refine jx_H (As := [.int p0, .int p1, .int p2, .int p3]) C w (xc_X9_scan hl0 N x h p0 p1 p2 p3 hk0 hJ) hm ⟨g1, g2⟩ hk0 (by decide) rfl (fs := fs12 h x) rfl rfl ⟨tw_6_21, tw_6_18, tw_6_19, tw_6_20, tw_1_1⟩ cd_X9_scan ⟨by decide, by decide⟩ hl.1 (by first | exact Nat.le_of_ble_eq_true rfl | simp [rf_cat, cat_i, cat_l, cat_r]) rfl dL_scan_9 [] ⟨0, 14, 17, 13⟩ [⟨0, 14, 21, 23⟩] htab (fun z hz9 => nomatch hz9) rfl (by decide) tw_5_106 (xw_of C).2.2.2.1 (fun H1 locs1 q9 hS g4 g5 g6 => ?_)
  refine lv_astore (i := 6) (lv' := [(6, .ref q9), (0, .ref x), (1, .int p0), (2, .int p1), (3, .int p2), (4, .int p3), (5, .ref o)]) hx hb dL_scan_17 hl (by decide) rfl (fun ls hl => ?_)
  refine lv_iconst (v := (1 : Int32)) hx hb dL_scan_19 (by decide) ?_
  exact hx_ret C hS g4 g5 g6 dL_scan_20
set_option maxRecDepth 100000 in
set_option maxHeartbeats 4000000 in
theorem ht_scan_2 (hl0 : l.stackTraces = false) (N : Nat) (x : Nat) (o : Nat) (h : Hp) (p0 : Int32) (p1 : Int32) (p2 : Int32) (p3 : Int32) (hk0 : h.kd x = 12) (hJ : J_xX9_scan N x h p0 p1 p2 p3 = some (hz, "java/lang/IllegalArgumentException")) : Ht l yL_scan cL_scan 7 (some .int) [(0, 14, 17, 13), (0, 14, 21, 23)] 11 350 D cs h hz [.ref x, .int p0, .int p1, .int p2, .int p3, .ref o] 2 := by
  intro mc ms g1 g2
  refine je_anyH (by decide) (by simp [lg_sl, rf_cat, cat_i, cat_l, cat_r]) ?_
  intro p e s m args below meth c C hc htab w ls hl
  have hl : lv_has ls 7 [(0, .ref x), (1, .int p0), (2, .int p1), (3, .int p2), (4, .int p3), (5, .ref o)] := hl
  obtain ⟨hx, hb, hml, hown, hts, -⟩ := id C
  have hm := mo_xX9_scan N x h p0 p1 p2 p3 hJ
  refine lv_aload hx hb dL_scan_0 (lv_at hl 5 rfl) ?_
  refine lv_iconst (v := (0 : Int32)) hx hb dL_scan_2 (by decide) ?_
  refine lv_aload_n hx hb dL_scan_3 rfl (lv_at hl 0 rfl) ?_
  refine lv_iload_n hx hb dL_scan_4 rfl (lv_at hl 1 rfl) ?_
  refine lv_iload_n hx hb dL_scan_5 rfl (lv_at hl 2 rfl) ?_
  refine lv_iload_n hx hb dL_scan_6 rfl (lv_at hl 3 rfl) ?_
  refine lv_iload hx hb dL_scan_7 (lv_at hl 4 rfl) ?_
  refine jx_H (As := [.int p0, .int p1, .int p2, .int p3]) C w (xc_X9_scan hl0 N x h p0 p1 p2 p3 hk0 hJ) hm ⟨g1, g2⟩ hk0 (by decide) rfl (fs := fs12 h x) rfl rfl ⟨tw_6_21, tw_6_18, tw_6_19, tw_6_20, tw_1_1⟩ cd_X9_scan ⟨by decide, by decide⟩ hl.1 (by first | exact Nat.le_of_ble_eq_true rfl | simp [rf_cat, cat_i, cat_l, cat_r]) rfl dL_scan_9 [⟨0, 14, 17, 13⟩] ⟨0, 14, 21, 23⟩ [] htab (fun z hz9 => Or.inr (by rw [List.mem_singleton.mp hz9]; exact ⟨by decide, "java/lang/IllegalStateException", hts _ tw_5_106, hc.1⟩)) rfl (by decide) tw_6_17 (xw_of C).2.2.2.2.1 (fun H1 locs1 q9 hS g4 g5 g6 => ?_)
  refine lv_astore (i := 6) (lv' := [(6, .ref q9), (0, .ref x), (1, .int p0), (2, .int p1), (3, .int p2), (4, .int p3), (5, .ref o)]) hx hb dL_scan_21 hl (by decide) rfl (fun ls hl => ?_)
  refine lv_iconst (v := (2 : Int32)) hx hb dL_scan_23 (by decide) ?_
  exact hx_ret C hS g4 g5 g6 dL_scan_24
theorem cdL_scan : Cd yL_scan 6 := ⟨by decide +kernel, by decide +kernel, by decide +kernel⟩
set_option maxRecDepth 100000 in
set_option maxHeartbeats 4000000 in
theorem hn_rowKey {r : Int32} (N : Nat) (x : Nat) (o : Nat) (h : Hp) (p0 : Int32) (hk0 : h.kd x = 12) (hko : h.kd o = 21) (hao : h.al o = 1) (hJ : J_X9_rowKey N x h p0 = some (hz, r)) : Hn l yL_rowKey cL_rowKey 4 (some .int) [(0, 9, 12, 29)] 7 120 D cs h (hz.saw o 0 r.toInt64) [.ref x, .int p0, .ref o] 0 := by
  intro mc ms g1 g2
  refine je_anyH (by decide) (by simp [lg_sl, rf_cat, cat_i, cat_l, cat_r]) ?_
  intro p e s m args below meth c C hc htab w ls hl
  have hl : lv_has ls 4 [(0, .ref x), (1, .int p0), (2, .ref o)] := hl
  obtain ⟨hx, hb, hml, hown, hts, -⟩ := id C
  have hm := mo_X9_rowKey N x h p0 hJ
  refine lv_aload_n hx hb dL_rowKey_0 rfl (lv_at hl 2 rfl) ?_
  refine lv_iconst (v := (0 : Int32)) hx hb dL_rowKey_1 (by decide) ?_
  refine lv_aload_n hx hb dL_rowKey_2 rfl (lv_at hl 0 rfl) ?_
  refine lv_iload_n hx hb dL_rowKey_3 rfl (lv_at hl 1 rfl) ?_
  refine jc_Vi (As := [.int p0]) (hz := (hz.saw o 0 r.toInt64)) C w (cc_X9_rowKey N x h p0 hk0 hJ) hm (Mo.saw hz o 0 r.toInt64) ⟨g1, g2⟩ hk0 (by decide) rfl (fs := fs12 h x) rfl rfl ⟨tw_6_33, tw_6_30, tw_6_31, tw_6_32, tw_1_1⟩ cd_X9_rowKey ⟨by decide, by decide⟩ hl.1 (by first | exact Nat.le_of_ble_eq_true rfl | simp [rf_cat, cat_i, cat_l, cat_r]) rfl dL_rowKey_4 (fun H locs w1 => ?_)
  have hko1 : hz.kd o = 21 := kd_keep w hm hko (by decide)
  have hao1 : hz.al o = 1 := (hm.2.2.2.2 o (kd_lt w hko (by decide))).trans hao
  refine lv_i2l hx hb dL_rowKey_7 rfl ?_
  refine jr_last C w1 hko1 (by rw [hao1]; decide) dL_rowKey_8 (fun H locs w2 => ?_)
  refine lv_goto (tgt := 15) hx hb dL_rowKey_9 (by decide) ?_
  refine lv_iconst (v := (0 : Int32)) hx hb dL_rowKey_15 (by decide) ?_
  exact jr_iret C w2 ⟨g1, g2⟩ dL_rowKey_16
set_option maxRecDepth 100000 in
set_option maxHeartbeats 4000000 in
theorem ht_rowKey_1 (hl0 : l.stackTraces = false) (N : Nat) (x : Nat) (o : Nat) (h : Hp) (p0 : Int32) (hk0 : h.kd x = 12) (hJ : J_xX9_rowKey N x h p0 = some (hz, "java/util/NoSuchElementException")) : Ht l yL_rowKey cL_rowKey 4 (some .int) [(0, 9, 12, 29)] 7 120 D cs h hz [.ref x, .int p0, .ref o] 1 := by
  intro mc ms g1 g2
  refine je_anyH (by decide) (by simp [lg_sl, rf_cat, cat_i, cat_l, cat_r]) ?_
  intro p e s m args below meth c C hc htab w ls hl
  have hl : lv_has ls 4 [(0, .ref x), (1, .int p0), (2, .ref o)] := hl
  obtain ⟨hx, hb, hml, hown, hts, -⟩ := id C
  have hm := mo_xX9_rowKey N x h p0 hJ
  refine lv_aload_n hx hb dL_rowKey_0 rfl (lv_at hl 2 rfl) ?_
  refine lv_iconst (v := (0 : Int32)) hx hb dL_rowKey_1 (by decide) ?_
  refine lv_aload_n hx hb dL_rowKey_2 rfl (lv_at hl 0 rfl) ?_
  refine lv_iload_n hx hb dL_rowKey_3 rfl (lv_at hl 1 rfl) ?_
  refine jx_H (As := [.int p0]) C w (xc_X9_rowKey hl0 N x h p0 hk0 hJ) hm ⟨g1, g2⟩ hk0 (by decide) rfl (fs := fs12 h x) rfl rfl ⟨tw_6_33, tw_6_30, tw_6_31, tw_6_32, tw_1_1⟩ cd_X9_rowKey ⟨by decide, by decide⟩ hl.1 (by first | exact Nat.le_of_ble_eq_true rfl | simp [rf_cat, cat_i, cat_l, cat_r]) rfl dL_rowKey_4 [] ⟨0, 9, 12, 29⟩ [] htab (fun z hz9 => nomatch hz9) rfl (by decide) tw_6_29 (xw_of C).2.2.2.2.2.1 (fun H1 locs1 q9 hS g4 g5 g6 => ?_)
  refine lv_astore_n (i := 3) (lv' := [(3, .ref q9), (0, .ref x), (1, .int p0), (2, .ref o)]) hx hb dL_rowKey_12 rfl hl (by decide) rfl (fun ls hl => ?_)
  refine lv_iconst (v := (1 : Int32)) hx hb dL_rowKey_13 (by decide) ?_
  exact hx_ret C hS g4 g5 g6 dL_rowKey_14
theorem cdL_rowKey : Cd yL_rowKey 3 := ⟨by decide +kernel, by decide +kernel, by decide +kernel⟩
set_option maxRecDepth 100000 in
set_option maxHeartbeats 4000000 in
theorem hn_rowValue {r : Int64} (N : Nat) (x : Nat) (o : Nat) (h : Hp) (p0 : Int32) (hk0 : h.kd x = 12) (hko : h.kd o = 21) (hao : h.al o = 1) (hJ : J_X9_rowValue N x h p0 = some (hz, r)) : Hn l yL_rowValue cL_rowValue 4 (some .int) [(0, 8, 11, 29)] 7 120 D cs h (hz.saw o 0 r) [.ref x, .int p0, .ref o] 0 := by
  intro mc ms g1 g2
  refine je_anyH (by decide) (by simp [lg_sl, rf_cat, cat_i, cat_l, cat_r]) ?_
  intro p e s m args below meth c C hc htab w ls hl
  have hl : lv_has ls 4 [(0, .ref x), (1, .int p0), (2, .ref o)] := hl
  obtain ⟨hx, hb, hml, hown, hts, -⟩ := id C
  have hm := mo_X9_rowValue N x h p0 hJ
  refine lv_aload_n hx hb dL_rowValue_0 rfl (lv_at hl 2 rfl) ?_
  refine lv_iconst (v := (0 : Int32)) hx hb dL_rowValue_1 (by decide) ?_
  refine lv_aload_n hx hb dL_rowValue_2 rfl (lv_at hl 0 rfl) ?_
  refine lv_iload_n hx hb dL_rowValue_3 rfl (lv_at hl 1 rfl) ?_
  refine jc_Vl (As := [.int p0]) (hz := (hz.saw o 0 r)) C w (cc_X9_rowValue N x h p0 hk0 hJ) hm (Mo.saw hz o 0 r) ⟨g1, g2⟩ hk0 (by decide) rfl (fs := fs12 h x) rfl rfl ⟨tw_6_57, tw_6_54, tw_6_55, tw_6_56, tw_1_1⟩ cd_X9_rowValue ⟨by decide, by decide⟩ hl.1 (by first | exact Nat.le_of_ble_eq_true rfl | simp [rf_cat, cat_i, cat_l, cat_r]) rfl dL_rowValue_4 (fun H locs w1 => ?_)
  have hko1 : hz.kd o = 21 := kd_keep w hm hko (by decide)
  have hao1 : hz.al o = 1 := (hm.2.2.2.2 o (kd_lt w hko (by decide))).trans hao
  refine jr_last C w1 hko1 (by rw [hao1]; decide) dL_rowValue_7 (fun H locs w2 => ?_)
  refine lv_goto (tgt := 14) hx hb dL_rowValue_8 (by decide) ?_
  refine lv_iconst (v := (0 : Int32)) hx hb dL_rowValue_14 (by decide) ?_
  exact jr_iret C w2 ⟨g1, g2⟩ dL_rowValue_15
set_option maxRecDepth 100000 in
set_option maxHeartbeats 4000000 in
theorem ht_rowValue_1 (hl0 : l.stackTraces = false) (N : Nat) (x : Nat) (o : Nat) (h : Hp) (p0 : Int32) (hk0 : h.kd x = 12) (hJ : J_xX9_rowValue N x h p0 = some (hz, "java/util/NoSuchElementException")) : Ht l yL_rowValue cL_rowValue 4 (some .int) [(0, 8, 11, 29)] 7 120 D cs h hz [.ref x, .int p0, .ref o] 1 := by
  intro mc ms g1 g2
  refine je_anyH (by decide) (by simp [lg_sl, rf_cat, cat_i, cat_l, cat_r]) ?_
  intro p e s m args below meth c C hc htab w ls hl
  have hl : lv_has ls 4 [(0, .ref x), (1, .int p0), (2, .ref o)] := hl
  obtain ⟨hx, hb, hml, hown, hts, -⟩ := id C
  have hm := mo_xX9_rowValue N x h p0 hJ
  refine lv_aload_n hx hb dL_rowValue_0 rfl (lv_at hl 2 rfl) ?_
  refine lv_iconst (v := (0 : Int32)) hx hb dL_rowValue_1 (by decide) ?_
  refine lv_aload_n hx hb dL_rowValue_2 rfl (lv_at hl 0 rfl) ?_
  refine lv_iload_n hx hb dL_rowValue_3 rfl (lv_at hl 1 rfl) ?_
  refine jx_H (As := [.int p0]) C w (xc_X9_rowValue hl0 N x h p0 hk0 hJ) hm ⟨g1, g2⟩ hk0 (by decide) rfl (fs := fs12 h x) rfl rfl ⟨tw_6_57, tw_6_54, tw_6_55, tw_6_56, tw_1_1⟩ cd_X9_rowValue ⟨by decide, by decide⟩ hl.1 (by first | exact Nat.le_of_ble_eq_true rfl | simp [rf_cat, cat_i, cat_l, cat_r]) rfl dL_rowValue_4 [] ⟨0, 8, 11, 29⟩ [] htab (fun z hz9 => nomatch hz9) rfl (by decide) tw_6_29 (xw_of C).2.2.2.2.2.1 (fun H1 locs1 q9 hS g4 g5 g6 => ?_)
  refine lv_astore_n (i := 3) (lv' := [(3, .ref q9), (0, .ref x), (1, .int p0), (2, .ref o)]) hx hb dL_rowValue_11 rfl hl (by decide) rfl (fun ls hl => ?_)
  refine lv_iconst (v := (1 : Int32)) hx hb dL_rowValue_12 (by decide) ?_
  exact hx_ret C hS g4 g5 g6 dL_rowValue_13
theorem cdL_rowValue : Cd yL_rowValue 3 := ⟨by decide +kernel, by decide +kernel, by decide +kernel⟩
set_option maxRecDepth 100000 in
set_option maxHeartbeats 4000000 in
theorem hn_write {r : Int32} (N : Nat) (x : Nat) (o : Nat) (h : Hp) (p0 : Int32) (p1 : Int32) (p2 : Int64) (hk0 : h.kd x = 12) (hko : h.kd o = 21) (hao : h.al o = 1) (hJ : J_X9_write N x h p0 p1 p2 = some (hz, r)) : Hn l yL_write cL_write 7 (some .int) [(0, 12, 15, 13), (0, 12, 19, 39)] 11 350 D cs h (hz.saw o 0 r.toInt64) [.ref x, .int p0, .int p1, .long p2, .ref o] 0 := by
  intro mc ms g1 g2
  refine je_anyH (by decide) (by simp [lg_sl, rf_cat, cat_i, cat_l, cat_r]) ?_
  intro p e s m args below meth c C hc htab w ls hl
  have hl : lv_has ls 7 [(0, .ref x), (1, .int p0), (2, .int p1), (3, .long p2), (5, .ref o)] := hl
  obtain ⟨hx, hb, hml, hown, hts, -⟩ := id C
  have hm := mo_X9_write N x h p0 p1 p2 hJ
  refine lv_aload hx hb dL_write_0 (lv_at hl 4 rfl) ?_
  refine lv_iconst (v := (0 : Int32)) hx hb dL_write_2 (by decide) ?_
  refine lv_aload_n hx hb dL_write_3 rfl (lv_at hl 0 rfl) ?_
  refine lv_iload_n hx hb dL_write_4 rfl (lv_at hl 1 rfl) ?_
  refine lv_iload_n hx hb dL_write_5 rfl (lv_at hl 2 rfl) ?_
  refine lv_lload_n hx hb dL_write_6 rfl (lv_at hl 3 rfl) ?_
  refine jc_Vi (As := [.int p0, .int p1, .long p2]) (hz := (hz.saw o 0 r.toInt64)) C w (cc_X9_write N x h p0 p1 p2 hk0 hJ) hm (Mo.saw hz o 0 r.toInt64) ⟨g1, g2⟩ hk0 (by decide) rfl (fs := fs12 h x) rfl rfl ⟨tw_6_65, tw_6_62, tw_6_63, tw_6_64, tw_1_1⟩ cd_X9_write ⟨by decide, by decide⟩ hl.1 (by first | exact Nat.le_of_ble_eq_true rfl | simp [rf_cat, cat_i, cat_l, cat_r]) rfl dL_write_7 (fun H locs w1 => ?_)
  have hko1 : hz.kd o = 21 := kd_keep w hm hko (by decide)
  have hao1 : hz.al o = 1 := (hm.2.2.2.2 o (kd_lt w hko (by decide))).trans hao
  refine lv_i2l hx hb dL_write_10 rfl ?_
  refine jr_last C w1 hko1 (by rw [hao1]; decide) dL_write_11 (fun H locs w2 => ?_)
  refine lv_goto (tgt := 23) hx hb dL_write_12 (by decide) ?_
  refine lv_iconst (v := (0 : Int32)) hx hb dL_write_23 (by decide) ?_
  exact jr_iret C w2 ⟨g1, g2⟩ dL_write_24
set_option maxRecDepth 100000 in
set_option maxHeartbeats 4000000 in
theorem ht_write_1 (hl0 : l.stackTraces = false) (N : Nat) (x : Nat) (o : Nat) (h : Hp) (p0 : Int32) (p1 : Int32) (p2 : Int64) (hk0 : h.kd x = 12) (hJ : J_xX9_write N x h p0 p1 p2 = some (hz, "java/lang/IllegalStateException")) : Ht l yL_write cL_write 7 (some .int) [(0, 12, 15, 13), (0, 12, 19, 39)] 11 350 D cs h hz [.ref x, .int p0, .int p1, .long p2, .ref o] 1 := by
  intro mc ms g1 g2
  refine je_anyH (by decide) (by simp [lg_sl, rf_cat, cat_i, cat_l, cat_r]) ?_
  intro p e s m args below meth c C hc htab w ls hl
  have hl : lv_has ls 7 [(0, .ref x), (1, .int p0), (2, .int p1), (3, .long p2), (5, .ref o)] := hl
  obtain ⟨hx, hb, hml, hown, hts, -⟩ := id C
  have hm := mo_xX9_write N x h p0 p1 p2 hJ
  refine lv_aload hx hb dL_write_0 (lv_at hl 4 rfl) ?_
  refine lv_iconst (v := (0 : Int32)) hx hb dL_write_2 (by decide) ?_
  refine lv_aload_n hx hb dL_write_3 rfl (lv_at hl 0 rfl) ?_
  refine lv_iload_n hx hb dL_write_4 rfl (lv_at hl 1 rfl) ?_
  refine lv_iload_n hx hb dL_write_5 rfl (lv_at hl 2 rfl) ?_
  refine lv_lload_n hx hb dL_write_6 rfl (lv_at hl 3 rfl) ?_
  refine jx_H (As := [.int p0, .int p1, .long p2]) C w (xc_X9_write hl0 N x h p0 p1 p2 hk0 hJ) hm ⟨g1, g2⟩ hk0 (by decide) rfl (fs := fs12 h x) rfl rfl ⟨tw_6_65, tw_6_62, tw_6_63, tw_6_64, tw_1_1⟩ cd_X9_write ⟨by decide, by decide⟩ hl.1 (by first | exact Nat.le_of_ble_eq_true rfl | simp [rf_cat, cat_i, cat_l, cat_r]) rfl dL_write_7 [] ⟨0, 12, 15, 13⟩ [⟨0, 12, 19, 39⟩] htab (fun z hz9 => nomatch hz9) rfl (by decide) tw_5_106 (xw_of C).2.2.2.1 (fun H1 locs1 q9 hS g4 g5 g6 => ?_)
  refine lv_astore (i := 6) (lv' := [(6, .ref q9), (0, .ref x), (1, .int p0), (2, .int p1), (3, .long p2), (5, .ref o)]) hx hb dL_write_15 hl (by decide) rfl (fun ls hl => ?_)
  refine lv_iconst (v := (1 : Int32)) hx hb dL_write_17 (by decide) ?_
  exact hx_ret C hS g4 g5 g6 dL_write_18
set_option maxRecDepth 100000 in
set_option maxHeartbeats 4000000 in
theorem ht_write_2 (hl0 : l.stackTraces = false) (N : Nat) (x : Nat) (o : Nat) (h : Hp) (p0 : Int32) (p1 : Int32) (p2 : Int64) (hk0 : h.kd x = 12) (hJ : J_xX9_write N x h p0 p1 p2 = some (hz, "java/lang/UnsupportedOperationException")) : Ht l yL_write cL_write 7 (some .int) [(0, 12, 15, 13), (0, 12, 19, 39)] 11 350 D cs h hz [.ref x, .int p0, .int p1, .long p2, .ref o] 2 := by
  intro mc ms g1 g2
  refine je_anyH (by decide) (by simp [lg_sl, rf_cat, cat_i, cat_l, cat_r]) ?_
  intro p e s m args below meth c C hc htab w ls hl
  have hl : lv_has ls 7 [(0, .ref x), (1, .int p0), (2, .int p1), (3, .long p2), (5, .ref o)] := hl
  obtain ⟨hx, hb, hml, hown, hts, -⟩ := id C
  have hm := mo_xX9_write N x h p0 p1 p2 hJ
  refine lv_aload hx hb dL_write_0 (lv_at hl 4 rfl) ?_
  refine lv_iconst (v := (0 : Int32)) hx hb dL_write_2 (by decide) ?_
  refine lv_aload_n hx hb dL_write_3 rfl (lv_at hl 0 rfl) ?_
  refine lv_iload_n hx hb dL_write_4 rfl (lv_at hl 1 rfl) ?_
  refine lv_iload_n hx hb dL_write_5 rfl (lv_at hl 2 rfl) ?_
  refine lv_lload_n hx hb dL_write_6 rfl (lv_at hl 3 rfl) ?_
  refine jx_H (As := [.int p0, .int p1, .long p2]) C w (xc_X9_write hl0 N x h p0 p1 p2 hk0 hJ) hm ⟨g1, g2⟩ hk0 (by decide) rfl (fs := fs12 h x) rfl rfl ⟨tw_6_65, tw_6_62, tw_6_63, tw_6_64, tw_1_1⟩ cd_X9_write ⟨by decide, by decide⟩ hl.1 (by first | exact Nat.le_of_ble_eq_true rfl | simp [rf_cat, cat_i, cat_l, cat_r]) rfl dL_write_7 [⟨0, 12, 15, 13⟩] ⟨0, 12, 19, 39⟩ [] htab (fun z hz9 => Or.inr (by rw [List.mem_singleton.mp hz9]; exact ⟨by decide, "java/lang/IllegalStateException", hts _ tw_5_106, hc.2.1⟩)) rfl (by decide) tw_6_61 (xw_of C).2.2.2.2.2.2.1 (fun H1 locs1 q9 hS g4 g5 g6 => ?_)
  refine lv_astore (i := 6) (lv' := [(6, .ref q9), (0, .ref x), (1, .int p0), (2, .int p1), (3, .long p2), (5, .ref o)]) hx hb dL_write_19 hl (by decide) rfl (fun ls hl => ?_)
  refine lv_iconst (v := (2 : Int32)) hx hb dL_write_21 (by decide) ?_
  exact hx_ret C hS g4 g5 g6 dL_write_22
theorem cdL_write : Cd yL_write 5 := ⟨by decide +kernel, by decide +kernel, by decide +kernel⟩
set_option maxRecDepth 100000 in
set_option maxHeartbeats 4000000 in
theorem hn_remove {r : Int32} (N : Nat) (x : Nat) (o : Nat) (h : Hp) (p0 : Int32) (p1 : Int32) (hk0 : h.kd x = 12) (hko : h.kd o = 21) (hao : h.al o = 1) (hJ : J_X9_remove N x h p0 p1 = some (hz, r)) : Hn l yL_remove cL_remove 5 (some .int) [(0, 10, 13, 13), (0, 10, 17, 39)] 11 350 D cs h (hz.saw o 0 r.toInt64) [.ref x, .int p0, .int p1, .ref o] 0 := by
  intro mc ms g1 g2
  refine je_anyH (by decide) (by simp [lg_sl, rf_cat, cat_i, cat_l, cat_r]) ?_
  intro p e s m args below meth c C hc htab w ls hl
  have hl : lv_has ls 5 [(0, .ref x), (1, .int p0), (2, .int p1), (3, .ref o)] := hl
  obtain ⟨hx, hb, hml, hown, hts, -⟩ := id C
  have hm := mo_X9_remove N x h p0 p1 hJ
  refine lv_aload_n hx hb dL_remove_0 rfl (lv_at hl 3 rfl) ?_
  refine lv_iconst (v := (0 : Int32)) hx hb dL_remove_1 (by decide) ?_
  refine lv_aload_n hx hb dL_remove_2 rfl (lv_at hl 0 rfl) ?_
  refine lv_iload_n hx hb dL_remove_3 rfl (lv_at hl 1 rfl) ?_
  refine lv_iload_n hx hb dL_remove_4 rfl (lv_at hl 2 rfl) ?_
  refine jc_Vi (As := [.int p0, .int p1]) (hz := (hz.saw o 0 r.toInt64)) C w (cc_X9_remove N x h p0 p1 hk0 hJ) hm (Mo.saw hz o 0 r.toInt64) ⟨g1, g2⟩ hk0 (by decide) rfl (fs := fs12 h x) rfl rfl ⟨tw_6_92, tw_6_89, tw_6_90, tw_6_91, tw_1_1⟩ cd_X9_remove ⟨by decide, by decide⟩ hl.1 (by first | exact Nat.le_of_ble_eq_true rfl | simp [rf_cat, cat_i, cat_l, cat_r]) rfl dL_remove_5 (fun H locs w1 => ?_)
  have hko1 : hz.kd o = 21 := kd_keep w hm hko (by decide)
  have hao1 : hz.al o = 1 := (hm.2.2.2.2 o (kd_lt w hko (by decide))).trans hao
  refine lv_i2l hx hb dL_remove_8 rfl ?_
  refine jr_last C w1 hko1 (by rw [hao1]; decide) dL_remove_9 (fun H locs w2 => ?_)
  refine lv_goto (tgt := 21) hx hb dL_remove_10 (by decide) ?_
  refine lv_iconst (v := (0 : Int32)) hx hb dL_remove_21 (by decide) ?_
  exact jr_iret C w2 ⟨g1, g2⟩ dL_remove_22
set_option maxRecDepth 100000 in
set_option maxHeartbeats 4000000 in
theorem ht_remove_1 (hl0 : l.stackTraces = false) (N : Nat) (x : Nat) (o : Nat) (h : Hp) (p0 : Int32) (p1 : Int32) (hk0 : h.kd x = 12) (hJ : J_xX9_remove N x h p0 p1 = some (hz, "java/lang/IllegalStateException")) : Ht l yL_remove cL_remove 5 (some .int) [(0, 10, 13, 13), (0, 10, 17, 39)] 11 350 D cs h hz [.ref x, .int p0, .int p1, .ref o] 1 := by
  intro mc ms g1 g2
  refine je_anyH (by decide) (by simp [lg_sl, rf_cat, cat_i, cat_l, cat_r]) ?_
  intro p e s m args below meth c C hc htab w ls hl
  have hl : lv_has ls 5 [(0, .ref x), (1, .int p0), (2, .int p1), (3, .ref o)] := hl
  obtain ⟨hx, hb, hml, hown, hts, -⟩ := id C
  have hm := mo_xX9_remove N x h p0 p1 hJ
  refine lv_aload_n hx hb dL_remove_0 rfl (lv_at hl 3 rfl) ?_
  refine lv_iconst (v := (0 : Int32)) hx hb dL_remove_1 (by decide) ?_
  refine lv_aload_n hx hb dL_remove_2 rfl (lv_at hl 0 rfl) ?_
  refine lv_iload_n hx hb dL_remove_3 rfl (lv_at hl 1 rfl) ?_
  refine lv_iload_n hx hb dL_remove_4 rfl (lv_at hl 2 rfl) ?_
  refine jx_H (As := [.int p0, .int p1]) C w (xc_X9_remove hl0 N x h p0 p1 hk0 hJ) hm ⟨g1, g2⟩ hk0 (by decide) rfl (fs := fs12 h x) rfl rfl ⟨tw_6_92, tw_6_89, tw_6_90, tw_6_91, tw_1_1⟩ cd_X9_remove ⟨by decide, by decide⟩ hl.1 (by first | exact Nat.le_of_ble_eq_true rfl | simp [rf_cat, cat_i, cat_l, cat_r]) rfl dL_remove_5 [] ⟨0, 10, 13, 13⟩ [⟨0, 10, 17, 39⟩] htab (fun z hz9 => nomatch hz9) rfl (by decide) tw_5_106 (xw_of C).2.2.2.1 (fun H1 locs1 q9 hS g4 g5 g6 => ?_)
  refine lv_astore (i := 4) (lv' := [(4, .ref q9), (0, .ref x), (1, .int p0), (2, .int p1), (3, .ref o)]) hx hb dL_remove_13 hl (by decide) rfl (fun ls hl => ?_)
  refine lv_iconst (v := (1 : Int32)) hx hb dL_remove_15 (by decide) ?_
  exact hx_ret C hS g4 g5 g6 dL_remove_16
set_option maxRecDepth 100000 in
set_option maxHeartbeats 4000000 in
theorem ht_remove_2 (hl0 : l.stackTraces = false) (N : Nat) (x : Nat) (o : Nat) (h : Hp) (p0 : Int32) (p1 : Int32) (hk0 : h.kd x = 12) (hJ : J_xX9_remove N x h p0 p1 = some (hz, "java/lang/UnsupportedOperationException")) : Ht l yL_remove cL_remove 5 (some .int) [(0, 10, 13, 13), (0, 10, 17, 39)] 11 350 D cs h hz [.ref x, .int p0, .int p1, .ref o] 2 := by
  intro mc ms g1 g2
  refine je_anyH (by decide) (by simp [lg_sl, rf_cat, cat_i, cat_l, cat_r]) ?_
  intro p e s m args below meth c C hc htab w ls hl
  have hl : lv_has ls 5 [(0, .ref x), (1, .int p0), (2, .int p1), (3, .ref o)] := hl
  obtain ⟨hx, hb, hml, hown, hts, -⟩ := id C
  have hm := mo_xX9_remove N x h p0 p1 hJ
  refine lv_aload_n hx hb dL_remove_0 rfl (lv_at hl 3 rfl) ?_
  refine lv_iconst (v := (0 : Int32)) hx hb dL_remove_1 (by decide) ?_
  refine lv_aload_n hx hb dL_remove_2 rfl (lv_at hl 0 rfl) ?_
  refine lv_iload_n hx hb dL_remove_3 rfl (lv_at hl 1 rfl) ?_
  refine lv_iload_n hx hb dL_remove_4 rfl (lv_at hl 2 rfl) ?_
  refine jx_H (As := [.int p0, .int p1]) C w (xc_X9_remove hl0 N x h p0 p1 hk0 hJ) hm ⟨g1, g2⟩ hk0 (by decide) rfl (fs := fs12 h x) rfl rfl ⟨tw_6_92, tw_6_89, tw_6_90, tw_6_91, tw_1_1⟩ cd_X9_remove ⟨by decide, by decide⟩ hl.1 (by first | exact Nat.le_of_ble_eq_true rfl | simp [rf_cat, cat_i, cat_l, cat_r]) rfl dL_remove_5 [⟨0, 10, 13, 13⟩] ⟨0, 10, 17, 39⟩ [] htab (fun z hz9 => Or.inr (by rw [List.mem_singleton.mp hz9]; exact ⟨by decide, "java/lang/IllegalStateException", hts _ tw_5_106, hc.2.1⟩)) rfl (by decide) tw_6_61 (xw_of C).2.2.2.2.2.2.1 (fun H1 locs1 q9 hS g4 g5 g6 => ?_)
  refine lv_astore (i := 4) (lv' := [(4, .ref q9), (0, .ref x), (1, .int p0), (2, .int p1), (3, .ref o)]) hx hb dL_remove_17 hl (by decide) rfl (fun ls hl => ?_)
  refine lv_iconst (v := (2 : Int32)) hx hb dL_remove_19 (by decide) ?_
  exact hx_ret C hS g4 g5 g6 dL_remove_20
theorem cdL_remove : Cd yL_remove 4 := ⟨by decide +kernel, by decide +kernel, by decide +kernel⟩
set_option maxRecDepth 100000 in
set_option maxHeartbeats 4000000 in
theorem hn_save {r : Int32} (N : Nat) (x : Nat) (o : Nat) (h : Hp) (p0 : Int32) (hk0 : h.kd x = 12) (hko : h.kd o = 21) (hao : h.al o = 1) (hJ : J_X9_save N x h p0 = some (hz, r)) : Hn l yL_save cL_save 4 (some .int) [(0, 9, 12, 13)] 11 350 D cs h (hz.saw o 0 r.toInt64) [.ref x, .int p0, .ref o] 0 := by
  intro mc ms g1 g2
  refine je_anyH (by decide) (by simp [lg_sl, rf_cat, cat_i, cat_l, cat_r]) ?_
  intro p e s m args below meth c C hc htab w ls hl
  have hl : lv_has ls 4 [(0, .ref x), (1, .int p0), (2, .ref o)] := hl
  obtain ⟨hx, hb, hml, hown, hts, -⟩ := id C
  have hm := mo_X9_save N x h p0 hJ
  refine lv_aload_n hx hb dL_save_0 rfl (lv_at hl 2 rfl) ?_
  refine lv_iconst (v := (0 : Int32)) hx hb dL_save_1 (by decide) ?_
  refine lv_aload_n hx hb dL_save_2 rfl (lv_at hl 0 rfl) ?_
  refine lv_iload_n hx hb dL_save_3 rfl (lv_at hl 1 rfl) ?_
  refine jc_Vi (As := [.int p0]) (hz := (hz.saw o 0 r.toInt64)) C w (cc_X9_save N x h p0 hk0 hJ) hm (Mo.saw hz o 0 r.toInt64) ⟨g1, g2⟩ hk0 (by decide) rfl (fs := fs12 h x) rfl rfl ⟨tw_6_99, tw_6_96, tw_6_97, tw_6_98, tw_1_1⟩ cd_X9_save ⟨by decide, by decide⟩ hl.1 (by first | exact Nat.le_of_ble_eq_true rfl | simp [rf_cat, cat_i, cat_l, cat_r]) rfl dL_save_4 (fun H locs w1 => ?_)
  have hko1 : hz.kd o = 21 := kd_keep w hm hko (by decide)
  have hao1 : hz.al o = 1 := (hm.2.2.2.2 o (kd_lt w hko (by decide))).trans hao
  refine lv_i2l hx hb dL_save_7 rfl ?_
  refine jr_last C w1 hko1 (by rw [hao1]; decide) dL_save_8 (fun H locs w2 => ?_)
  refine lv_goto (tgt := 15) hx hb dL_save_9 (by decide) ?_
  refine lv_iconst (v := (0 : Int32)) hx hb dL_save_15 (by decide) ?_
  exact jr_iret C w2 ⟨g1, g2⟩ dL_save_16
set_option maxRecDepth 100000 in
set_option maxHeartbeats 4000000 in
theorem ht_save_1 (hl0 : l.stackTraces = false) (N : Nat) (x : Nat) (o : Nat) (h : Hp) (p0 : Int32) (hk0 : h.kd x = 12) (hJ : J_xX9_save N x h p0 = some (hz, "java/lang/IllegalStateException")) : Ht l yL_save cL_save 4 (some .int) [(0, 9, 12, 13)] 11 350 D cs h hz [.ref x, .int p0, .ref o] 1 := by
  intro mc ms g1 g2
  refine je_anyH (by decide) (by simp [lg_sl, rf_cat, cat_i, cat_l, cat_r]) ?_
  intro p e s m args below meth c C hc htab w ls hl
  have hl : lv_has ls 4 [(0, .ref x), (1, .int p0), (2, .ref o)] := hl
  obtain ⟨hx, hb, hml, hown, hts, -⟩ := id C
  have hm := mo_xX9_save N x h p0 hJ
  refine lv_aload_n hx hb dL_save_0 rfl (lv_at hl 2 rfl) ?_
  refine lv_iconst (v := (0 : Int32)) hx hb dL_save_1 (by decide) ?_
  refine lv_aload_n hx hb dL_save_2 rfl (lv_at hl 0 rfl) ?_
  refine lv_iload_n hx hb dL_save_3 rfl (lv_at hl 1 rfl) ?_
  refine jx_H (As := [.int p0]) C w (xc_X9_save hl0 N x h p0 hk0 hJ) hm ⟨g1, g2⟩ hk0 (by decide) rfl (fs := fs12 h x) rfl rfl ⟨tw_6_99, tw_6_96, tw_6_97, tw_6_98, tw_1_1⟩ cd_X9_save ⟨by decide, by decide⟩ hl.1 (by first | exact Nat.le_of_ble_eq_true rfl | simp [rf_cat, cat_i, cat_l, cat_r]) rfl dL_save_4 [] ⟨0, 9, 12, 13⟩ [] htab (fun z hz9 => nomatch hz9) rfl (by decide) tw_5_106 (xw_of C).2.2.2.1 (fun H1 locs1 q9 hS g4 g5 g6 => ?_)
  refine lv_astore_n (i := 3) (lv' := [(3, .ref q9), (0, .ref x), (1, .int p0), (2, .ref o)]) hx hb dL_save_12 rfl hl (by decide) rfl (fun ls hl => ?_)
  refine lv_iconst (v := (1 : Int32)) hx hb dL_save_13 (by decide) ?_
  exact hx_ret C hS g4 g5 g6 dL_save_14
theorem cdL_save : Cd yL_save 3 := ⟨by decide +kernel, by decide +kernel, by decide +kernel⟩
set_option maxRecDepth 100000 in
set_option maxHeartbeats 4000000 in
theorem hn_undo {r : Int32} (N : Nat) (x : Nat) (o : Nat) (h : Hp) (p0 : Int32) (p1 : Int32) (hk0 : h.kd x = 12) (hko : h.kd o = 21) (hao : h.al o = 1) (hJ : J_X9_undo N x h p0 p1 = some (hz, r)) : Hn l yL_undo cL_undo 5 (some .int) [(0, 10, 13, 13), (0, 10, 17, 50)] 11 350 D cs h (hz.saw o 0 r.toInt64) [.ref x, .int p0, .int p1, .ref o] 0 := by
  intro mc ms g1 g2
  refine je_anyH (by decide) (by simp [lg_sl, rf_cat, cat_i, cat_l, cat_r]) ?_
  intro p e s m args below meth c C hc htab w ls hl
  have hl : lv_has ls 5 [(0, .ref x), (1, .int p0), (2, .int p1), (3, .ref o)] := hl
  obtain ⟨hx, hb, hml, hown, hts, -⟩ := id C
  have hm := mo_X9_undo N x h p0 p1 hJ
  refine lv_aload_n hx hb dL_undo_0 rfl (lv_at hl 3 rfl) ?_
  refine lv_iconst (v := (0 : Int32)) hx hb dL_undo_1 (by decide) ?_
  refine lv_aload_n hx hb dL_undo_2 rfl (lv_at hl 0 rfl) ?_
  refine lv_iload_n hx hb dL_undo_3 rfl (lv_at hl 1 rfl) ?_
  refine lv_iload_n hx hb dL_undo_4 rfl (lv_at hl 2 rfl) ?_
  refine jc_Vi (As := [.int p0, .int p1]) (hz := (hz.saw o 0 r.toInt64)) C w (cc_X9_undo N x h p0 p1 hk0 hJ) hm (Mo.saw hz o 0 r.toInt64) ⟨g1, g2⟩ hk0 (by decide) rfl (fs := fs12 h x) rfl rfl ⟨tw_6_107, tw_6_104, tw_6_105, tw_6_106, tw_1_1⟩ cd_X9_undo ⟨by decide, by decide⟩ hl.1 (by first | exact Nat.le_of_ble_eq_true rfl | simp [rf_cat, cat_i, cat_l, cat_r]) rfl dL_undo_5 (fun H locs w1 => ?_)
  have hko1 : hz.kd o = 21 := kd_keep w hm hko (by decide)
  have hao1 : hz.al o = 1 := (hm.2.2.2.2 o (kd_lt w hko (by decide))).trans hao
  refine lv_i2l hx hb dL_undo_8 rfl ?_
  refine jr_last C w1 hko1 (by rw [hao1]; decide) dL_undo_9 (fun H locs w2 => ?_)
  refine lv_goto (tgt := 21) hx hb dL_undo_10 (by decide) ?_
  refine lv_iconst (v := (0 : Int32)) hx hb dL_undo_21 (by decide) ?_
  exact jr_iret C w2 ⟨g1, g2⟩ dL_undo_22
set_option maxRecDepth 100000 in
set_option maxHeartbeats 4000000 in
theorem ht_undo_1 (hl0 : l.stackTraces = false) (N : Nat) (x : Nat) (o : Nat) (h : Hp) (p0 : Int32) (p1 : Int32) (hk0 : h.kd x = 12) (hJ : J_xX9_undo N x h p0 p1 = some (hz, "java/lang/IllegalStateException")) : Ht l yL_undo cL_undo 5 (some .int) [(0, 10, 13, 13), (0, 10, 17, 50)] 11 350 D cs h hz [.ref x, .int p0, .int p1, .ref o] 1 := by
  intro mc ms g1 g2
  refine je_anyH (by decide) (by simp [lg_sl, rf_cat, cat_i, cat_l, cat_r]) ?_
  intro p e s m args below meth c C hc htab w ls hl
  have hl : lv_has ls 5 [(0, .ref x), (1, .int p0), (2, .int p1), (3, .ref o)] := hl
  obtain ⟨hx, hb, hml, hown, hts, -⟩ := id C
  have hm := mo_xX9_undo N x h p0 p1 hJ
  refine lv_aload_n hx hb dL_undo_0 rfl (lv_at hl 3 rfl) ?_
  refine lv_iconst (v := (0 : Int32)) hx hb dL_undo_1 (by decide) ?_
  refine lv_aload_n hx hb dL_undo_2 rfl (lv_at hl 0 rfl) ?_
  refine lv_iload_n hx hb dL_undo_3 rfl (lv_at hl 1 rfl) ?_
  refine lv_iload_n hx hb dL_undo_4 rfl (lv_at hl 2 rfl) ?_
  refine jx_H (As := [.int p0, .int p1]) C w (xc_X9_undo hl0 N x h p0 p1 hk0 hJ) hm ⟨g1, g2⟩ hk0 (by decide) rfl (fs := fs12 h x) rfl rfl ⟨tw_6_107, tw_6_104, tw_6_105, tw_6_106, tw_1_1⟩ cd_X9_undo ⟨by decide, by decide⟩ hl.1 (by first | exact Nat.le_of_ble_eq_true rfl | simp [rf_cat, cat_i, cat_l, cat_r]) rfl dL_undo_5 [] ⟨0, 10, 13, 13⟩ [⟨0, 10, 17, 50⟩] htab (fun z hz9 => nomatch hz9) rfl (by decide) tw_5_106 (xw_of C).2.2.2.1 (fun H1 locs1 q9 hS g4 g5 g6 => ?_)
  refine lv_astore (i := 4) (lv' := [(4, .ref q9), (0, .ref x), (1, .int p0), (2, .int p1), (3, .ref o)]) hx hb dL_undo_13 hl (by decide) rfl (fun ls hl => ?_)
  refine lv_iconst (v := (1 : Int32)) hx hb dL_undo_15 (by decide) ?_
  exact hx_ret C hS g4 g5 g6 dL_undo_16
set_option maxRecDepth 100000 in
set_option maxHeartbeats 4000000 in
theorem ht_undo_2 (hl0 : l.stackTraces = false) (N : Nat) (x : Nat) (o : Nat) (h : Hp) (p0 : Int32) (p1 : Int32) (hk0 : h.kd x = 12) (hJ : J_xX9_undo N x h p0 p1 = some (hz, "java/lang/IndexOutOfBoundsException")) : Ht l yL_undo cL_undo 5 (some .int) [(0, 10, 13, 13), (0, 10, 17, 50)] 11 350 D cs h hz [.ref x, .int p0, .int p1, .ref o] 2 := by
  intro mc ms g1 g2
  refine je_anyH (by decide) (by simp [lg_sl, rf_cat, cat_i, cat_l, cat_r]) ?_
  intro p e s m args below meth c C hc htab w ls hl
  have hl : lv_has ls 5 [(0, .ref x), (1, .int p0), (2, .int p1), (3, .ref o)] := hl
  obtain ⟨hx, hb, hml, hown, hts, -⟩ := id C
  have hm := mo_xX9_undo N x h p0 p1 hJ
  refine lv_aload_n hx hb dL_undo_0 rfl (lv_at hl 3 rfl) ?_
  refine lv_iconst (v := (0 : Int32)) hx hb dL_undo_1 (by decide) ?_
  refine lv_aload_n hx hb dL_undo_2 rfl (lv_at hl 0 rfl) ?_
  refine lv_iload_n hx hb dL_undo_3 rfl (lv_at hl 1 rfl) ?_
  refine lv_iload_n hx hb dL_undo_4 rfl (lv_at hl 2 rfl) ?_
  refine jx_H (As := [.int p0, .int p1]) C w (xc_X9_undo hl0 N x h p0 p1 hk0 hJ) hm ⟨g1, g2⟩ hk0 (by decide) rfl (fs := fs12 h x) rfl rfl ⟨tw_6_107, tw_6_104, tw_6_105, tw_6_106, tw_1_1⟩ cd_X9_undo ⟨by decide, by decide⟩ hl.1 (by first | exact Nat.le_of_ble_eq_true rfl | simp [rf_cat, cat_i, cat_l, cat_r]) rfl dL_undo_5 [⟨0, 10, 13, 13⟩] ⟨0, 10, 17, 50⟩ [] htab (fun z hz9 => Or.inr (by rw [List.mem_singleton.mp hz9]; exact ⟨by decide, "java/lang/IllegalStateException", hts _ tw_5_106, hc.2.2⟩)) rfl (by decide) tw_6_103 (xw_of C).2.2.2.2.2.2.2.1 (fun H1 locs1 q9 hS g4 g5 g6 => ?_)
  refine lv_astore (i := 4) (lv' := [(4, .ref q9), (0, .ref x), (1, .int p0), (2, .int p1), (3, .ref o)]) hx hb dL_undo_17 hl (by decide) rfl (fun ls hl => ?_)
  refine lv_iconst (v := (2 : Int32)) hx hb dL_undo_19 (by decide) ?_
  exact hx_ret C hS g4 g5 g6 dL_undo_20
theorem cdL_undo : Cd yL_undo 4 := ⟨by decide +kernel, by decide +kernel, by decide +kernel⟩
set_option maxRecDepth 100000 in
set_option maxHeartbeats 4000000 in
theorem hn_commit {r : Int32} (N : Nat) (x : Nat) (o : Nat) (h : Hp) (p0 : Int32) (hk0 : h.kd x = 12) (hko : h.kd o = 21) (hao : h.al o = 1) (hJ : J_X9_commit N x h p0 = some (hz, r)) : Hn l yL_commit cL_commit 4 (some .int) [(0, 9, 12, 13)] 10 320 D cs h (hz.saw o 0 r.toInt64) [.ref x, .int p0, .ref o] 0 := by
  intro mc ms g1 g2
  refine je_anyH (by decide) (by simp [lg_sl, rf_cat, cat_i, cat_l, cat_r]) ?_
  intro p e s m args below meth c C hc htab w ls hl
  have hl : lv_has ls 4 [(0, .ref x), (1, .int p0), (2, .ref o)] := hl
  obtain ⟨hx, hb, hml, hown, hts, -⟩ := id C
  have hm := mo_X9_commit N x h p0 hJ
  refine lv_aload_n hx hb dL_commit_0 rfl (lv_at hl 2 rfl) ?_
  refine lv_iconst (v := (0 : Int32)) hx hb dL_commit_1 (by decide) ?_
  refine lv_aload_n hx hb dL_commit_2 rfl (lv_at hl 0 rfl) ?_
  refine lv_iload_n hx hb dL_commit_3 rfl (lv_at hl 1 rfl) ?_
  refine jc_Vi (As := [.int p0]) (hz := (hz.saw o 0 r.toInt64)) C w (cc_X9_commit N x h p0 hk0 hJ) hm (Mo.saw hz o 0 r.toInt64) ⟨g1, g2⟩ hk0 (by decide) rfl (fs := fs12 h x) rfl rfl ⟨tw_6_118, tw_6_115, tw_6_116, tw_6_117, tw_1_1⟩ cd_X9_commit ⟨by decide, by decide⟩ hl.1 (by first | exact Nat.le_of_ble_eq_true rfl | simp [rf_cat, cat_i, cat_l, cat_r]) rfl dL_commit_4 (fun H locs w1 => ?_)
  have hko1 : hz.kd o = 21 := kd_keep w hm hko (by decide)
  have hao1 : hz.al o = 1 := (hm.2.2.2.2 o (kd_lt w hko (by decide))).trans hao
  refine lv_i2l hx hb dL_commit_7 rfl ?_
  refine jr_last C w1 hko1 (by rw [hao1]; decide) dL_commit_8 (fun H locs w2 => ?_)
  refine lv_goto (tgt := 15) hx hb dL_commit_9 (by decide) ?_
  refine lv_iconst (v := (0 : Int32)) hx hb dL_commit_15 (by decide) ?_
  exact jr_iret C w2 ⟨g1, g2⟩ dL_commit_16
set_option maxRecDepth 100000 in
set_option maxHeartbeats 4000000 in
theorem ht_commit_1 (hl0 : l.stackTraces = false) (N : Nat) (x : Nat) (o : Nat) (h : Hp) (p0 : Int32) (hk0 : h.kd x = 12) (hJ : J_xX9_commit N x h p0 = some (hz, "java/lang/IllegalStateException")) : Ht l yL_commit cL_commit 4 (some .int) [(0, 9, 12, 13)] 10 320 D cs h hz [.ref x, .int p0, .ref o] 1 := by
  intro mc ms g1 g2
  refine je_anyH (by decide) (by simp [lg_sl, rf_cat, cat_i, cat_l, cat_r]) ?_
  intro p e s m args below meth c C hc htab w ls hl
  have hl : lv_has ls 4 [(0, .ref x), (1, .int p0), (2, .ref o)] := hl
  obtain ⟨hx, hb, hml, hown, hts, -⟩ := id C
  have hm := mo_xX9_commit N x h p0 hJ
  refine lv_aload_n hx hb dL_commit_0 rfl (lv_at hl 2 rfl) ?_
  refine lv_iconst (v := (0 : Int32)) hx hb dL_commit_1 (by decide) ?_
  refine lv_aload_n hx hb dL_commit_2 rfl (lv_at hl 0 rfl) ?_
  refine lv_iload_n hx hb dL_commit_3 rfl (lv_at hl 1 rfl) ?_
  refine jx_H (As := [.int p0]) C w (xc_X9_commit hl0 N x h p0 hk0 hJ) hm ⟨g1, g2⟩ hk0 (by decide) rfl (fs := fs12 h x) rfl rfl ⟨tw_6_118, tw_6_115, tw_6_116, tw_6_117, tw_1_1⟩ cd_X9_commit ⟨by decide, by decide⟩ hl.1 (by first | exact Nat.le_of_ble_eq_true rfl | simp [rf_cat, cat_i, cat_l, cat_r]) rfl dL_commit_4 [] ⟨0, 9, 12, 13⟩ [] htab (fun z hz9 => nomatch hz9) rfl (by decide) tw_5_106 (xw_of C).2.2.2.1 (fun H1 locs1 q9 hS g4 g5 g6 => ?_)
  refine lv_astore_n (i := 3) (lv' := [(3, .ref q9), (0, .ref x), (1, .int p0), (2, .ref o)]) hx hb dL_commit_12 rfl hl (by decide) rfl (fun ls hl => ?_)
  refine lv_iconst (v := (1 : Int32)) hx hb dL_commit_13 (by decide) ?_
  exact hx_ret C hS g4 g5 g6 dL_commit_14
theorem cdL_commit : Cd yL_commit 3 := ⟨by decide +kernel, by decide +kernel, by decide +kernel⟩
set_option maxRecDepth 100000 in
set_option maxHeartbeats 4000000 in
theorem hn_abort (N : Nat) (x : Nat) (h : Hp) (p0 : Int32) (hk0 : h.kd x = 12) (hJ : J_X9_abort N x h p0 = some (hz, ())) : Hn l yL_abort cL_abort 3 (some .int) [(0, 5, 8, 13)] 8 180 D cs h hz [.ref x, .int p0] 0 := by
  intro mc ms g1 g2
  refine je_anyH (by decide) (by simp [lg_sl, rf_cat, cat_i, cat_l, cat_r]) ?_
  intro p e s m args below meth c C hc htab w ls hl
  have hl : lv_has ls 3 [(0, .ref x), (1, .int p0)] := hl
  obtain ⟨hx, hb, hml, hown, hts, -⟩ := id C
  have hm := mo_X9_abort N x h p0 hJ
  refine lv_aload_n hx hb dL_abort_0 rfl (lv_at hl 0 rfl) ?_
  refine lv_iload_n hx hb dL_abort_1 rfl (lv_at hl 1 rfl) ?_
  refine jc_Vv (As := [.int p0]) (hz := hz) C w (cc_X9_abort N x h p0 hk0 hJ) hm (Mo.rf hz) ⟨g1, g2⟩ hk0 (by decide) rfl (fs := fs12 h x) rfl rfl ⟨tw_6_155, tw_6_152, tw_6_153, tw_6_154, tw_1_1⟩ cd_X9_abort ⟨by decide, by decide⟩ hl.1 (by first | exact Nat.le_of_ble_eq_true rfl | simp [rf_cat, cat_i, cat_l, cat_r]) rfl dL_abort_2 (fun H locs w1 => ?_)
  refine lv_goto (tgt := 11) hx hb dL_abort_5 (by decide) ?_
  refine lv_iconst (v := (0 : Int32)) hx hb dL_abort_11 (by decide) ?_
  exact jr_iret C w1 ⟨g1, g2⟩ dL_abort_12
set_option maxRecDepth 100000 in
set_option maxHeartbeats 4000000 in
theorem ht_abort_1 (hl0 : l.stackTraces = false) (N : Nat) (x : Nat) (h : Hp) (p0 : Int32) (hk0 : h.kd x = 12) (hJ : J_xX9_abort N x h p0 = some (hz, "java/lang/IllegalStateException")) : Ht l yL_abort cL_abort 3 (some .int) [(0, 5, 8, 13)] 8 180 D cs h hz [.ref x, .int p0] 1 := by
  intro mc ms g1 g2
  refine je_anyH (by decide) (by simp [lg_sl, rf_cat, cat_i, cat_l, cat_r]) ?_
  intro p e s m args below meth c C hc htab w ls hl
  have hl : lv_has ls 3 [(0, .ref x), (1, .int p0)] := hl
  obtain ⟨hx, hb, hml, hown, hts, -⟩ := id C
  have hm := mo_xX9_abort N x h p0 hJ
  refine lv_aload_n hx hb dL_abort_0 rfl (lv_at hl 0 rfl) ?_
  refine lv_iload_n hx hb dL_abort_1 rfl (lv_at hl 1 rfl) ?_
  refine jx_H (As := [.int p0]) C w (xc_X9_abort hl0 N x h p0 hk0 hJ) hm ⟨g1, g2⟩ hk0 (by decide) rfl (fs := fs12 h x) rfl rfl ⟨tw_6_155, tw_6_152, tw_6_153, tw_6_154, tw_1_1⟩ cd_X9_abort ⟨by decide, by decide⟩ hl.1 (by first | exact Nat.le_of_ble_eq_true rfl | simp [rf_cat, cat_i, cat_l, cat_r]) rfl dL_abort_2 [] ⟨0, 5, 8, 13⟩ [] htab (fun z hz9 => nomatch hz9) rfl (by decide) tw_5_106 (xw_of C).2.2.2.1 (fun H1 locs1 q9 hS g4 g5 g6 => ?_)
  refine lv_astore_n (i := 2) (lv' := [(2, .ref q9), (0, .ref x), (1, .int p0)]) hx hb dL_abort_8 rfl hl (by decide) rfl (fun ls hl => ?_)
  refine lv_iconst (v := (1 : Int32)) hx hb dL_abort_9 (by decide) ?_
  exact hx_ret C hS g4 g5 g6 dL_abort_10
theorem cdL_abort : Cd yL_abort 2 := ⟨by decide +kernel, by decide +kernel, by decide +kernel⟩
end LH
