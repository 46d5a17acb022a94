/-! ===== the cases of the law ===== -/
theorem g_liars {p : Program} {l : Launch} {e : Env} {s : State} {m : MethodId} {args : Array Value} {below : List Frame} {meth : Method} {c : Code} {H : Heap} {locs : List Loc} {cells slots : Nat} {Q0 : State → Prop} {D : va_G} {cy : Nat → ClassId} {A : Nat → Prop} {ls : Array Slot} {b L i v ox om : Nat} {xs : Nat → Int32} {w : va_W} (hc : cX p m meth c s args D cy A RL code 4 ret) (hX : va_X b L xs s s.heap) (hbl : b < s.heap.size) (hbA : ¬ A b) (hL : L ≤ 3072) (hl : lv_has ls 4 [(3, .int (nI i)), (2, .ref om), (1, .ref ox), (0, .ref b)]) (hi : i + 6 ≤ L) (hw : wV D A s.heap w H locs) (hR : Rel cy ox om v w) (hv : v < 1000) (hcs : cells + 14 ≤ 600000 ∧ slots + 4239 ≤ 7302250) (kk : ∀ (H1 : Heap) (locs1 : List Loc) (w' : va_W), wV D A s.heap w' H1 locs1 → Rel cy ox om (v + 1) w' → W p l e room_1 s m args below meth c H1 locs1 (cells + 14) (slots + 4239) Q0 (F0 m 1187 ls [])) : W p l e room_1 s m args below meth c H locs cells slots Q0 (F0 m 1036 ls []) := by
  have hx := hc.1.1
  have hb := hc.1.2.1
  refine lv_aload_n hx hb dL_law_1036 rfl (lv_at hl 2 rfl) ?_
  refine cllC (As := []) hc hw (o_liars hR (nodup_ix.mp hw.2.1).1 hv) lk_L_139 rfl (by decide) hl.1 hcs rfl rfl dL_law_1037 (fun r aM S wr' Q1 H1 locs1 e1 hw1 hP hQ => ?_)
  subst e1
  refine lv_aload_n hx hb dL_law_1040 rfl (lv_at hl 1 rfl) ?_
  refine cllM (As := []) hc hw1 (c_M_liars hP) (fun r' u h => ⟨u, rfl, h⟩) lk_L_142 rfl (by decide) (by decide) hl.1 hcs rfl rfl dL_law_1041 (fun r' S' H2 locs2 q hw2 => ?_)
  obtain ⟨e2, hR2⟩ := hQ r' S' q
  refine lv_icmp_eq hx hb dL_law_1044 (tgt := 1187) rfl (fun _ => ?_) (fun ne => absurd e2 ne)
  exact kk _ _ _ hw2 hR2
theorem g_draw {p : Program} {l : Launch} {e : Env} {s : State} {m : MethodId} {args : Array Value} {below : List Frame} {meth : Method} {c : Code} {H : Heap} {locs : List Loc} {cells slots : Nat} {Q0 : State → Prop} {D : va_G} {cy : Nat → ClassId} {A : Nat → Prop} {ls : Array Slot} {b L i v ox om : Nat} {xs : Nat → Int32} {w : va_W} (hc : cX p m meth c s args D cy A RL code 4 ret) (hX : va_X b L xs s s.heap) (hbl : b < s.heap.size) (hbA : ¬ A b) (hL : L ≤ 3072) (hl : lv_has ls 4 [(3, .int (nI i)), (2, .ref om), (1, .ref ox), (0, .ref b)]) (hi : i + 6 ≤ L) (hw : wV D A s.heap w H locs) (hR : Rel cy ox om v w) (hv : v < 1000) (hcs : cells + 14 ≤ 600000 ∧ slots + 4239 ≤ 7302250) (kk : ∀ (H1 : Heap) (locs1 : List Loc) (w' : va_W), wV D A s.heap w' H1 locs1 → Rel cy ox om (v + 1) w' → W p l e room_1 s m args below meth c H1 locs1 (cells + 14) (slots + 4239) Q0 (F0 m 1187 ls [])) : W p l e room_1 s m args below meth c H locs cells slots Q0 (F0 m 1049 ls []) := by
  have hx := hc.1.1
  have hb := hc.1.2.1
  refine lv_aload_n hx hb dL_law_1049 rfl (lv_at hl 2 rfl) ?_
  refine rdA (k := 1) hc hX hbl hbA hw.2.2 hl (by omega) hL rfl dL_law_1050 dL_law_1051 dL_law_1052 dL_law_1053 dL_law_1054 ?_
  refine cllC (As := [.int (xs (i + 1))]) hc hw (o_draw hR (nodup_ix.mp hw.2.1).1 hv) lk_L_143 rfl (by decide) hl.1 hcs rfl rfl dL_law_1055 (fun r aM S wr' Q1 H1 locs1 e1 hw1 hP hQ => ?_)
  subst e1
  refine lv_aload_n hx hb dL_law_1058 rfl (lv_at hl 1 rfl) ?_
  refine rdA (k := 1) hc hX hbl hbA hw1.2.2 hl (by omega) hL rfl dL_law_1059 dL_law_1060 dL_law_1061 dL_law_1062 dL_law_1063 ?_
  refine cllM (As := [.int (xs (i + 1))]) hc hw1 (c_M_draw hP) (fun r' u h => ⟨u, rfl, h⟩) lk_L_146 rfl (by decide) (by decide) hl.1 hcs rfl rfl dL_law_1064 (fun r' S' H2 locs2 q hw2 => ?_)
  obtain ⟨e2, hR2⟩ := hQ r' S' q
  refine lv_icmp_eq hx hb dL_law_1067 (tgt := 1187) rfl (fun _ => ?_) (fun ne => absurd e2 ne)
  exact kk _ _ _ hw2 hR2
theorem g_drawn {p : Program} {l : Launch} {e : Env} {s : State} {m : MethodId} {args : Array Value} {below : List Frame} {meth : Method} {c : Code} {H : Heap} {locs : List Loc} {cells slots : Nat} {Q0 : State → Prop} {D : va_G} {cy : Nat → ClassId} {A : Nat → Prop} {ls : Array Slot} {b L i v ox om : Nat} {xs : Nat → Int32} {w : va_W} (hc : cX p m meth c s args D cy A RL code 4 ret) (hX : va_X b L xs s s.heap) (hbl : b < s.heap.size) (hbA : ¬ A b) (hL : L ≤ 3072) (hl : lv_has ls 4 [(3, .int (nI i)), (2, .ref om), (1, .ref ox), (0, .ref b)]) (hi : i + 6 ≤ L) (hw : wV D A s.heap w H locs) (hR : Rel cy ox om v w) (hv : v < 1000) (hcs : cells + 14 ≤ 600000 ∧ slots + 4239 ≤ 7302250) (kk : ∀ (H1 : Heap) (locs1 : List Loc) (w' : va_W), wV D A s.heap w' H1 locs1 → Rel cy ox om (v + 1) w' → W p l e room_1 s m args below meth c H1 locs1 (cells + 14) (slots + 4239) Q0 (F0 m 1187 ls [])) : W p l e room_1 s m args below meth c H locs cells slots Q0 (F0 m 1072 ls []) := by
  have hx := hc.1.1
  have hb := hc.1.2.1
  refine lv_aload_n hx hb dL_law_1072 rfl (lv_at hl 2 rfl) ?_
  refine rdA (k := 1) hc hX hbl hbA hw.2.2 hl (by omega) hL rfl dL_law_1073 dL_law_1074 dL_law_1075 dL_law_1076 dL_law_1077 ?_
  refine rdA (k := 2) hc hX hbl hbA hw.2.2 hl (by omega) hL rfl dL_law_1078 dL_law_1079 dL_law_1080 dL_law_1081 dL_law_1082 ?_
  refine cllC (As := [.int (xs (i + 1)), .int (xs (i + 2))]) hc hw (o_drawn hR (nodup_ix.mp hw.2.1).1 hv) lk_L_147 rfl (by decide) hl.1 hcs rfl rfl dL_law_1083 (fun r aM S wr' Q1 H1 locs1 e1 hw1 hP hQ => ?_)
  subst e1
  refine lv_aload_n hx hb dL_law_1086 rfl (lv_at hl 1 rfl) ?_
  refine rdA (k := 1) hc hX hbl hbA hw1.2.2 hl (by omega) hL rfl dL_law_1087 dL_law_1088 dL_law_1089 dL_law_1090 dL_law_1091 ?_
  refine rdA (k := 2) hc hX hbl hbA hw1.2.2 hl (by omega) hL rfl dL_law_1092 dL_law_1093 dL_law_1094 dL_law_1095 dL_law_1096 ?_
  refine cllM (As := [.int (xs (i + 1)), .int (xs (i + 2))]) hc hw1 (c_M_drawn hP) (fun r' u h => ⟨S, rfl, h⟩) lk_L_150 rfl (by decide) (by decide) hl.1 hcs rfl rfl dL_law_1097 (fun r' S' H2 locs2 q hw2 => ?_)
  obtain ⟨e2, hR2⟩ := hQ r' S' q
  refine lv_icmp_eq hx hb dL_law_1100 (tgt := 1187) rfl (fun _ => ?_) (fun ne => absurd e2 ne)
  exact kk _ _ _ hw2 hR2
theorem g_image {p : Program} {l : Launch} {e : Env} {s : State} {m : MethodId} {args : Array Value} {below : List Frame} {meth : Method} {c : Code} {H : Heap} {locs : List Loc} {cells slots : Nat} {Q0 : State → Prop} {D : va_G} {cy : Nat → ClassId} {A : Nat → Prop} {ls : Array Slot} {b L i v ox om : Nat} {xs : Nat → Int32} {w : va_W} (hc : cX p m meth c s args D cy A RL code 4 ret) (hX : va_X b L xs s s.heap) (hbl : b < s.heap.size) (hbA : ¬ A b) (hL : L ≤ 3072) (hl : lv_has ls 4 [(3, .int (nI i)), (2, .ref om), (1, .ref ox), (0, .ref b)]) (hi : i + 6 ≤ L) (hw : wV D A s.heap w H locs) (hR : Rel cy ox om v w) (hv : v < 1000) (hcs : cells + 14 ≤ 600000 ∧ slots + 4239 ≤ 7302250) (kk : ∀ (H1 : Heap) (locs1 : List Loc) (w' : va_W), wV D A s.heap w' H1 locs1 → Rel cy ox om (v + 1) w' → W p l e room_1 s m args below meth c H1 locs1 (cells + 14) (slots + 4239) Q0 (F0 m 1187 ls [])) : W p l e room_1 s m args below meth c H locs cells slots Q0 (F0 m 1105 ls []) := by
  have hx := hc.1.1
  have hb := hc.1.2.1
  refine lv_aload_n hx hb dL_law_1105 rfl (lv_at hl 2 rfl) ?_
  refine rdA (k := 1) hc hX hbl hbA hw.2.2 hl (by omega) hL rfl dL_law_1106 dL_law_1107 dL_law_1108 dL_law_1109 dL_law_1110 ?_
  refine cllC (As := [.int (xs (i + 1))]) hc hw (o_image hR (nodup_ix.mp hw.2.1).1 hv) lk_L_151 rfl (by decide) hl.1 hcs rfl rfl dL_law_1111 (fun r aM S wr' Q1 H1 locs1 e1 hw1 hP hQ => ?_)
  subst e1
  refine lv_aload_n hx hb dL_law_1114 rfl (lv_at hl 1 rfl) ?_
  refine rdA (k := 1) hc hX hbl hbA hw1.2.2 hl (by omega) hL rfl dL_law_1115 dL_law_1116 dL_law_1117 dL_law_1118 dL_law_1119 ?_
  refine cllM (As := [.int (xs (i + 1))]) hc hw1 (c_M_image hP) (fun r' u h => ⟨u, rfl, h⟩) lk_L_154 rfl (by decide) (by decide) hl.1 hcs rfl rfl dL_law_1120 (fun r' S' H2 locs2 q hw2 => ?_)
  obtain ⟨e2, hR2⟩ := hQ r' S' q
  refine lv_icmp_eq hx hb dL_law_1123 (tgt := 1187) rfl (fun _ => ?_) (fun ne => absurd e2 ne)
  exact kk _ _ _ hw2 hR2
theorem g_back {p : Program} {l : Launch} {e : Env} {s : State} {m : MethodId} {args : Array Value} {below : List Frame} {meth : Method} {c : Code} {H : Heap} {locs : List Loc} {cells slots : Nat} {Q0 : State → Prop} {D : va_G} {cy : Nat → ClassId} {A : Nat → Prop} {ls : Array Slot} {b L i v ox om : Nat} {xs : Nat → Int32} {w : va_W} (hc : cX p m meth c s args D cy A RL code 4 ret) (hX : va_X b L xs s s.heap) (hbl : b < s.heap.size) (hbA : ¬ A b) (hL : L ≤ 3072) (hl : lv_has ls 4 [(3, .int (nI i)), (2, .ref om), (1, .ref ox), (0, .ref b)]) (hi : i + 6 ≤ L) (hw : wV D A s.heap w H locs) (hR : Rel cy ox om v w) (hv : v < 1000) (hcs : cells + 14 ≤ 600000 ∧ slots + 4239 ≤ 7302250) (kk : ∀ (H1 : Heap) (locs1 : List Loc) (w' : va_W), wV D A s.heap w' H1 locs1 → Rel cy ox om (v + 1) w' → W p l e room_1 s m args below meth c H1 locs1 (cells + 14) (slots + 4239) Q0 (F0 m 1187 ls [])) : W p l e room_1 s m args below meth c H locs cells slots Q0 (F0 m 1128 ls []) := by
  have hx := hc.1.1
  have hb := hc.1.2.1
  refine lv_aload_n hx hb dL_law_1128 rfl (lv_at hl 2 rfl) ?_
  refine rdA (k := 1) hc hX hbl hbA hw.2.2 hl (by omega) hL rfl dL_law_1129 dL_law_1130 dL_law_1131 dL_law_1132 dL_law_1133 ?_
  refine cllC (As := [.int (xs (i + 1))]) hc hw (o_back hR (nodup_ix.mp hw.2.1).1 hv) lk_L_155 rfl (by decide) hl.1 hcs rfl rfl dL_law_1134 (fun r aM S wr' Q1 H1 locs1 e1 hw1 hP hQ => ?_)
  subst e1
  refine lv_aload_n hx hb dL_law_1137 rfl (lv_at hl 1 rfl) ?_
  refine rdA (k := 1) hc hX hbl hbA hw1.2.2 hl (by omega) hL rfl dL_law_1138 dL_law_1139 dL_law_1140 dL_law_1141 dL_law_1142 ?_
  refine cllM (As := [.int (xs (i + 1))]) hc hw1 (c_M_back hP) (fun r' u h => ⟨u, rfl, h⟩) lk_L_158 rfl (by decide) (by decide) hl.1 hcs rfl rfl dL_law_1143 (fun r' S' H2 locs2 q hw2 => ?_)
  obtain ⟨e2, hR2⟩ := hQ r' S' q
  refine lv_icmp_eq hx hb dL_law_1146 (tgt := 1187) rfl (fun _ => ?_) (fun ne => absurd e2 ne)
  exact kk _ _ _ hw2 hR2
theorem g_count {p : Program} {l : Launch} {e : Env} {s : State} {m : MethodId} {args : Array Value} {below : List Frame} {meth : Method} {c : Code} {H : Heap} {locs : List Loc} {cells slots : Nat} {Q0 : State → Prop} {D : va_G} {cy : Nat → ClassId} {A : Nat → Prop} {ls : Array Slot} {b L i v ox om : Nat} {xs : Nat → Int32} {w : va_W} (hc : cX p m meth c s args D cy A RL code 4 ret) (hX : va_X b L xs s s.heap) (hbl : b < s.heap.size) (hbA : ¬ A b) (hL : L ≤ 3072) (hl : lv_has ls 4 [(3, .int (nI i)), (2, .ref om), (1, .ref ox), (0, .ref b)]) (hi : i + 6 ≤ L) (hw : wV D A s.heap w H locs) (hR : Rel cy ox om v w) (hv : v < 1000) (hcs : cells + 14 ≤ 600000 ∧ slots + 4239 ≤ 7302250) (kk : ∀ (H1 : Heap) (locs1 : List Loc) (w' : va_W), wV D A s.heap w' H1 locs1 → Rel cy ox om (v + 1) w' → W p l e room_1 s m args below meth c H1 locs1 (cells + 14) (slots + 4239) Q0 (F0 m 1187 ls [])) : W p l e room_1 s m args below meth c H locs cells slots Q0 (F0 m 1151 ls []) := by
  have hx := hc.1.1
  have hb := hc.1.2.1
  refine lv_aload_n hx hb dL_law_1151 rfl (lv_at hl 2 rfl) ?_
  refine rdA (k := 1) hc hX hbl hbA hw.2.2 hl (by omega) hL rfl dL_law_1152 dL_law_1153 dL_law_1154 dL_law_1155 dL_law_1156 ?_
  refine cllC (As := [.int (xs (i + 1))]) hc hw (o_count hR (nodup_ix.mp hw.2.1).1 hv) lk_L_159 rfl (by decide) hl.1 hcs rfl rfl dL_law_1157 (fun r aM S wr' Q1 H1 locs1 e1 hw1 hP hQ => ?_)
  subst e1
  refine lv_aload_n hx hb dL_law_1160 rfl (lv_at hl 1 rfl) ?_
  refine rdA (k := 1) hc hX hbl hbA hw1.2.2 hl (by omega) hL rfl dL_law_1161 dL_law_1162 dL_law_1163 dL_law_1164 dL_law_1165 ?_
  refine cllM (As := [.int (xs (i + 1))]) hc hw1 (c_M_count hP) (fun r' u h => ⟨S, rfl, h⟩) lk_L_162 rfl (by decide) (by decide) hl.1 hcs rfl rfl dL_law_1166 (fun r' S' H2 locs2 q hw2 => ?_)
  obtain ⟨e2, hR2⟩ := hQ r' S' q
  refine lv_icmp_eq hx hb dL_law_1169 (tgt := 1187) rfl (fun _ => ?_) (fun ne => absurd e2 ne)
  exact kk _ _ _ hw2 hR2
theorem g_status {p : Program} {l : Launch} {e : Env} {s : State} {m : MethodId} {args : Array Value} {below : List Frame} {meth : Method} {c : Code} {H : Heap} {locs : List Loc} {cells slots : Nat} {Q0 : State → Prop} {D : va_G} {cy : Nat → ClassId} {A : Nat → Prop} {ls : Array Slot} {b L i v ox om : Nat} {xs : Nat → Int32} {w : va_W} (hc : cX p m meth c s args D cy A RL code 4 ret) (hX : va_X b L xs s s.heap) (hbl : b < s.heap.size) (hbA : ¬ A b) (hL : L ≤ 3072) (hl : lv_has ls 4 [(3, .int (nI i)), (2, .ref om), (1, .ref ox), (0, .ref b)]) (hi : i + 6 ≤ L) (hw : wV D A s.heap w H locs) (hR : Rel cy ox om v w) (hv : v < 1000) (hcs : cells + 14 ≤ 600000 ∧ slots + 4239 ≤ 7302250) (kk : ∀ (H1 : Heap) (locs1 : List Loc) (w' : va_W), wV D A s.heap w' H1 locs1 → Rel cy ox om (v + 1) w' → W p l e room_1 s m args below meth c H1 locs1 (cells + 14) (slots + 4239) Q0 (F0 m 1187 ls [])) : W p l e room_1 s m args below meth c H locs cells slots Q0 (F0 m 1174 ls []) := by
  have hx := hc.1.1
  have hb := hc.1.2.1
  refine lv_aload_n hx hb dL_law_1174 rfl (lv_at hl 2 rfl) ?_
  refine cllC (As := []) hc hw (o_status hR (nodup_ix.mp hw.2.1).1 hv) lk_L_163 rfl (by decide) hl.1 hcs rfl rfl dL_law_1175 (fun r aM S wr' Q1 H1 locs1 e1 hw1 hP hQ => ?_)
  subst e1
  refine lv_aload_n hx hb dL_law_1178 rfl (lv_at hl 1 rfl) ?_
  refine cllM (As := []) hc hw1 (c_M_status hP) (fun r' u h => ⟨S, rfl, h⟩) lk_L_166 rfl (by decide) (by decide) hl.1 hcs rfl rfl dL_law_1179 (fun r' S' H2 locs2 q hw2 => ?_)
  obtain ⟨e2, hR2⟩ := hQ r' S' q
  refine lv_icmp_eq hx hb dL_law_1182 (tgt := 1187) rfl (fun _ => ?_) (fun ne => absurd e2 ne)
  exact kk _ _ _ hw2 hR2
