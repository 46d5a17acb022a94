/-! ===== the cases of the law ===== -/
theorem g_duel {p : Program} {l : Launch} {e : Env} {s : State} {m : MethodId} {args : Array Value} {below : List Frame} {meth : Method} {c : Code} {H : Heap} {locs : List Loc} {cells slots : Nat} {Q0 : State → Prop} {D : va_G} {cy : Nat → ClassId} {A : Nat → Prop} {ls : Array Slot} {b L i v ox om : Nat} {xs : Nat → Int32} {w : va_W} (hc : cX p m meth c s args D cy A RL code 4 ret) (hX : va_X b L xs s s.heap) (hbl : b < s.heap.size) (hbA : ¬ A b) (hL : L ≤ 3072) (hl : lv_has ls 4 [(3, .int (nI i)), (2, .ref om), (1, .ref ox), (0, .ref b)]) (hi : i + 6 ≤ L) (hw : wV D A s.heap w H locs) (hR : Rel cy ox om v w) (hv : v < 1000) (hcs : cells + 14 ≤ 600000 ∧ slots + 4239 ≤ 7302250) (kk : ∀ (H1 : Heap) (locs1 : List Loc) (w' : va_W), wV D A s.heap w' H1 locs1 → Rel cy ox om (v + 1) w' → W p l e room_1 s m args below meth c H1 locs1 (cells + 14) (slots + 4239) Q0 (F0 m 1187 ls [])) : W p l e room_1 s m args below meth c H locs cells slots Q0 (F0 m 766 ls []) := by
  have hx := hc.1.1
  have hb := hc.1.2.1
  refine lv_aload_n hx hb dL_law_766 rfl (lv_at hl 2 rfl) ?_
  refine rdA (k := 1) hc hX hbl hbA hw.2.2 hl (by omega) hL rfl dL_law_767 dL_law_768 dL_law_769 dL_law_770 dL_law_771 ?_
  refine cllC (As := [.int (xs (i + 1))]) hc hw (o_duel hR (nodup_ix.mp hw.2.1).1 hv) lk_L_99 rfl (by decide) hl.1 hcs rfl rfl dL_law_772 (fun r aM S wr' Q1 H1 locs1 e1 hw1 hP hQ => ?_)
  subst e1
  refine lv_aload_n hx hb dL_law_775 rfl (lv_at hl 1 rfl) ?_
  refine rdA (k := 1) hc hX hbl hbA hw1.2.2 hl (by omega) hL rfl dL_law_776 dL_law_777 dL_law_778 dL_law_779 dL_law_780 ?_
  refine cllM (As := [.int (xs (i + 1))]) hc hw1 (c_M_duel hP) (fun r' u h => ⟨u, rfl, h⟩) lk_L_102 rfl (by decide) (by decide) hl.1 hcs rfl rfl dL_law_781 (fun r' S' H2 locs2 q hw2 => ?_)
  obtain ⟨e2, hR2⟩ := hQ r' S' q
  refine lv_icmp_eq hx hb dL_law_784 (tgt := 1187) rfl (fun _ => ?_) (fun ne => absurd e2 ne)
  exact kk _ _ _ hw2 hR2
theorem g_winter {p : Program} {l : Launch} {e : Env} {s : State} {m : MethodId} {args : Array Value} {below : List Frame} {meth : Method} {c : Code} {H : Heap} {locs : List Loc} {cells slots : Nat} {Q0 : State → Prop} {D : va_G} {cy : Nat → ClassId} {A : Nat → Prop} {ls : Array Slot} {b L i v ox om : Nat} {xs : Nat → Int32} {w : va_W} (hc : cX p m meth c s args D cy A RL code 4 ret) (hX : va_X b L xs s s.heap) (hbl : b < s.heap.size) (hbA : ¬ A b) (hL : L ≤ 3072) (hl : lv_has ls 4 [(3, .int (nI i)), (2, .ref om), (1, .ref ox), (0, .ref b)]) (hi : i + 6 ≤ L) (hw : wV D A s.heap w H locs) (hR : Rel cy ox om v w) (hv : v < 1000) (hcs : cells + 14 ≤ 600000 ∧ slots + 4239 ≤ 7302250) (kk : ∀ (H1 : Heap) (locs1 : List Loc) (w' : va_W), wV D A s.heap w' H1 locs1 → Rel cy ox om (v + 1) w' → W p l e room_1 s m args below meth c H1 locs1 (cells + 14) (slots + 4239) Q0 (F0 m 1187 ls [])) : W p l e room_1 s m args below meth c H locs cells slots Q0 (F0 m 789 ls []) := by
  have hx := hc.1.1
  have hb := hc.1.2.1
  refine lv_aload_n hx hb dL_law_789 rfl (lv_at hl 2 rfl) ?_
  refine rdA (k := 1) hc hX hbl hbA hw.2.2 hl (by omega) hL rfl dL_law_790 dL_law_791 dL_law_792 dL_law_793 dL_law_794 ?_
  refine rdA (k := 2) hc hX hbl hbA hw.2.2 hl (by omega) hL rfl dL_law_795 dL_law_796 dL_law_797 dL_law_798 dL_law_799 ?_
  refine cllC (As := [.int (xs (i + 1)), .int (xs (i + 2))]) hc hw (o_winter hR (nodup_ix.mp hw.2.1).1 hv) lk_L_103 rfl (by decide) hl.1 hcs rfl rfl dL_law_800 (fun r aM S wr' Q1 H1 locs1 e1 hw1 hP hQ => ?_)
  subst e1
  refine lv_aload_n hx hb dL_law_803 rfl (lv_at hl 1 rfl) ?_
  refine rdA (k := 1) hc hX hbl hbA hw1.2.2 hl (by omega) hL rfl dL_law_804 dL_law_805 dL_law_806 dL_law_807 dL_law_808 ?_
  refine rdA (k := 2) hc hX hbl hbA hw1.2.2 hl (by omega) hL rfl dL_law_809 dL_law_810 dL_law_811 dL_law_812 dL_law_813 ?_
  refine cllM (As := [.int (xs (i + 1)), .int (xs (i + 2))]) hc hw1 (c_M_winter hP) (fun r' u h => ⟨u, rfl, h⟩) lk_L_106 rfl (by decide) (by decide) hl.1 hcs rfl rfl dL_law_814 (fun r' S' H2 locs2 q hw2 => ?_)
  obtain ⟨e2, hR2⟩ := hQ r' S' q
  refine lv_icmp_eq hx hb dL_law_817 (tgt := 1187) rfl (fun _ => ?_) (fun ne => absurd e2 ne)
  exact kk _ _ _ hw2 hR2
theorem g_learn {p : Program} {l : Launch} {e : Env} {s : State} {m : MethodId} {args : Array Value} {below : List Frame} {meth : Method} {c : Code} {H : Heap} {locs : List Loc} {cells slots : Nat} {Q0 : State → Prop} {D : va_G} {cy : Nat → ClassId} {A : Nat → Prop} {ls : Array Slot} {b L i v ox om : Nat} {xs : Nat → Int32} {w : va_W} (hc : cX p m meth c s args D cy A RL code 4 ret) (hX : va_X b L xs s s.heap) (hbl : b < s.heap.size) (hbA : ¬ A b) (hL : L ≤ 3072) (hl : lv_has ls 4 [(3, .int (nI i)), (2, .ref om), (1, .ref ox), (0, .ref b)]) (hi : i + 6 ≤ L) (hw : wV D A s.heap w H locs) (hR : Rel cy ox om v w) (hv : v < 1000) (hcs : cells + 14 ≤ 600000 ∧ slots + 4239 ≤ 7302250) (kk : ∀ (H1 : Heap) (locs1 : List Loc) (w' : va_W), wV D A s.heap w' H1 locs1 → Rel cy ox om (v + 1) w' → W p l e room_1 s m args below meth c H1 locs1 (cells + 14) (slots + 4239) Q0 (F0 m 1187 ls [])) : W p l e room_1 s m args below meth c H locs cells slots Q0 (F0 m 822 ls []) := by
  have hx := hc.1.1
  have hb := hc.1.2.1
  refine lv_aload_n hx hb dL_law_822 rfl (lv_at hl 2 rfl) ?_
  refine rdA (k := 1) hc hX hbl hbA hw.2.2 hl (by omega) hL rfl dL_law_823 dL_law_824 dL_law_825 dL_law_826 dL_law_827 ?_
  refine rdA (k := 2) hc hX hbl hbA hw.2.2 hl (by omega) hL rfl dL_law_828 dL_law_829 dL_law_830 dL_law_831 dL_law_832 ?_
  refine cllC (As := [.int (xs (i + 1)), .int (xs (i + 2))]) hc hw (o_learn hR (nodup_ix.mp hw.2.1).1 hv) lk_L_107 rfl (by decide) hl.1 hcs rfl rfl dL_law_833 (fun r aM S wr' Q1 H1 locs1 e1 hw1 hP hQ => ?_)
  subst e1
  refine lv_aload_n hx hb dL_law_836 rfl (lv_at hl 1 rfl) ?_
  refine rdA (k := 1) hc hX hbl hbA hw1.2.2 hl (by omega) hL rfl dL_law_837 dL_law_838 dL_law_839 dL_law_840 dL_law_841 ?_
  refine rdA (k := 2) hc hX hbl hbA hw1.2.2 hl (by omega) hL rfl dL_law_842 dL_law_843 dL_law_844 dL_law_845 dL_law_846 ?_
  refine cllM (As := [.int (xs (i + 1)), .int (xs (i + 2))]) hc hw1 (c_M_learn hP) (fun r' u h => ⟨u, rfl, h⟩) lk_L_110 rfl (by decide) (by decide) hl.1 hcs rfl rfl dL_law_847 (fun r' S' H2 locs2 q hw2 => ?_)
  obtain ⟨e2, hR2⟩ := hQ r' S' q
  refine lv_icmp_eq hx hb dL_law_850 (tgt := 1187) rfl (fun _ => ?_) (fun ne => absurd e2 ne)
  exact kk _ _ _ hw2 hR2
theorem g_mention {p : Program} {l : Launch} {e : Env} {s : State} {m : MethodId} {args : Array Value} {below : List Frame} {meth : Method} {c : Code} {H : Heap} {locs : List Loc} {cells slots : Nat} {Q0 : State → Prop} {D : va_G} {cy : Nat → ClassId} {A : Nat → Prop} {ls : Array Slot} {b L i v ox om : Nat} {xs : Nat → Int32} {w : va_W} (hc : cX p m meth c s args D cy A RL code 4 ret) (hX : va_X b L xs s s.heap) (hbl : b < s.heap.size) (hbA : ¬ A b) (hL : L ≤ 3072) (hl : lv_has ls 4 [(3, .int (nI i)), (2, .ref om), (1, .ref ox), (0, .ref b)]) (hi : i + 6 ≤ L) (hw : wV D A s.heap w H locs) (hR : Rel cy ox om v w) (hv : v < 1000) (hcs : cells + 14 ≤ 600000 ∧ slots + 4239 ≤ 7302250) (kk : ∀ (H1 : Heap) (locs1 : List Loc) (w' : va_W), wV D A s.heap w' H1 locs1 → Rel cy ox om (v + 1) w' → W p l e room_1 s m args below meth c H1 locs1 (cells + 14) (slots + 4239) Q0 (F0 m 1187 ls [])) : W p l e room_1 s m args below meth c H locs cells slots Q0 (F0 m 855 ls []) := by
  have hx := hc.1.1
  have hb := hc.1.2.1
  refine lv_aload_n hx hb dL_law_855 rfl (lv_at hl 2 rfl) ?_
  refine rdA (k := 1) hc hX hbl hbA hw.2.2 hl (by omega) hL rfl dL_law_856 dL_law_857 dL_law_858 dL_law_859 dL_law_860 ?_
  refine rdA (k := 2) hc hX hbl hbA hw.2.2 hl (by omega) hL rfl dL_law_861 dL_law_862 dL_law_863 dL_law_864 dL_law_865 ?_
  refine rdA (k := 3) hc hX hbl hbA hw.2.2 hl (by omega) hL rfl dL_law_866 dL_law_867 dL_law_868 dL_law_869 dL_law_870 ?_
  refine cllC (As := [.int (xs (i + 1)), .int (xs (i + 2)), .int (xs (i + 3))]) hc hw (o_mention hR (nodup_ix.mp hw.2.1).1 hv) lk_L_111 rfl (by decide) hl.1 hcs rfl rfl dL_law_871 (fun r aM S wr' Q1 H1 locs1 e1 hw1 hP hQ => ?_)
  subst e1
  refine lv_aload_n hx hb dL_law_874 rfl (lv_at hl 1 rfl) ?_
  refine rdA (k := 1) hc hX hbl hbA hw1.2.2 hl (by omega) hL rfl dL_law_875 dL_law_876 dL_law_877 dL_law_878 dL_law_879 ?_
  refine rdA (k := 2) hc hX hbl hbA hw1.2.2 hl (by omega) hL rfl dL_law_880 dL_law_881 dL_law_882 dL_law_883 dL_law_884 ?_
  refine rdA (k := 3) hc hX hbl hbA hw1.2.2 hl (by omega) hL rfl dL_law_885 dL_law_886 dL_law_887 dL_law_888 dL_law_889 ?_
  refine cllM (As := [.int (xs (i + 1)), .int (xs (i + 2)), .int (xs (i + 3))]) hc hw1 (c_M_mention hP) (fun r' u h => ⟨u, rfl, h⟩) lk_L_114 rfl (by decide) (by decide) hl.1 hcs rfl rfl dL_law_890 (fun r' S' H2 locs2 q hw2 => ?_)
  obtain ⟨e2, hR2⟩ := hQ r' S' q
  refine lv_icmp_eq hx hb dL_law_893 (tgt := 1187) rfl (fun _ => ?_) (fun ne => absurd e2 ne)
  exact kk _ _ _ hw2 hR2
theorem g_forget {p : Program} {l : Launch} {e : Env} {s : State} {m : MethodId} {args : Array Value} {below : List Frame} {meth : Method} {c : Code} {H : Heap} {locs : List Loc} {cells slots : Nat} {Q0 : State → Prop} {D : va_G} {cy : Nat → ClassId} {A : Nat → Prop} {ls : Array Slot} {b L i v ox om : Nat} {xs : Nat → Int32} {w : va_W} (hc : cX p m meth c s args D cy A RL code 4 ret) (hX : va_X b L xs s s.heap) (hbl : b < s.heap.size) (hbA : ¬ A b) (hL : L ≤ 3072) (hl : lv_has ls 4 [(3, .int (nI i)), (2, .ref om), (1, .ref ox), (0, .ref b)]) (hi : i + 6 ≤ L) (hw : wV D A s.heap w H locs) (hR : Rel cy ox om v w) (hv : v < 1000) (hcs : cells + 14 ≤ 600000 ∧ slots + 4239 ≤ 7302250) (kk : ∀ (H1 : Heap) (locs1 : List Loc) (w' : va_W), wV D A s.heap w' H1 locs1 → Rel cy ox om (v + 1) w' → W p l e room_1 s m args below meth c H1 locs1 (cells + 14) (slots + 4239) Q0 (F0 m 1187 ls [])) : W p l e room_1 s m args below meth c H locs cells slots Q0 (F0 m 898 ls []) := by
  have hx := hc.1.1
  have hb := hc.1.2.1
  refine lv_aload_n hx hb dL_law_898 rfl (lv_at hl 2 rfl) ?_
  refine cllC (As := []) hc hw (o_forget hR (nodup_ix.mp hw.2.1).1 hv) lk_L_115 rfl (by decide) hl.1 hcs rfl rfl dL_law_899 (fun r aM S wr' Q1 H1 locs1 e1 hw1 hP hQ => ?_)
  subst e1
  refine lv_aload_n hx hb dL_law_902 rfl (lv_at hl 1 rfl) ?_
  refine cllM (As := []) hc hw1 (c_M_forget hP) (fun r' u h => ⟨u, rfl, h⟩) lk_L_118 rfl (by decide) (by decide) hl.1 hcs rfl rfl dL_law_903 (fun r' S' H2 locs2 q hw2 => ?_)
  obtain ⟨e2, hR2⟩ := hQ r' S' q
  refine lv_icmp_eq hx hb dL_law_906 (tgt := 1187) rfl (fun _ => ?_) (fun ne => absurd e2 ne)
  exact kk _ _ _ hw2 hR2
theorem g_dated {p : Program} {l : Launch} {e : Env} {s : State} {m : MethodId} {args : Array Value} {below : List Frame} {meth : Method} {c : Code} {H : Heap} {locs : List Loc} {cells slots : Nat} {Q0 : State → Prop} {D : va_G} {cy : Nat → ClassId} {A : Nat → Prop} {ls : Array Slot} {b L i v ox om : Nat} {xs : Nat → Int32} {w : va_W} (hc : cX p m meth c s args D cy A RL code 4 ret) (hX : va_X b L xs s s.heap) (hbl : b < s.heap.size) (hbA : ¬ A b) (hL : L ≤ 3072) (hl : lv_has ls 4 [(3, .int (nI i)), (2, .ref om), (1, .ref ox), (0, .ref b)]) (hi : i + 6 ≤ L) (hw : wV D A s.heap w H locs) (hR : Rel cy ox om v w) (hv : v < 1000) (hcs : cells + 14 ≤ 600000 ∧ slots + 4239 ≤ 7302250) (kk : ∀ (H1 : Heap) (locs1 : List Loc) (w' : va_W), wV D A s.heap w' H1 locs1 → Rel cy ox om (v + 1) w' → W p l e room_1 s m args below meth c H1 locs1 (cells + 14) (slots + 4239) Q0 (F0 m 1187 ls [])) : W p l e room_1 s m args below meth c H locs cells slots Q0 (F0 m 911 ls []) := by
  have hx := hc.1.1
  have hb := hc.1.2.1
  refine lv_aload_n hx hb dL_law_911 rfl (lv_at hl 2 rfl) ?_
  refine rdA (k := 1) hc hX hbl hbA hw.2.2 hl (by omega) hL rfl dL_law_912 dL_law_913 dL_law_914 dL_law_915 dL_law_916 ?_
  refine rdA (k := 2) hc hX hbl hbA hw.2.2 hl (by omega) hL rfl dL_law_917 dL_law_918 dL_law_919 dL_law_920 dL_law_921 ?_
  refine cllC (As := [.int (xs (i + 1)), .int (xs (i + 2))]) hc hw (o_dated hR (nodup_ix.mp hw.2.1).1 hv) lk_L_119 rfl (by decide) hl.1 hcs rfl rfl dL_law_922 (fun r aM S wr' Q1 H1 locs1 e1 hw1 hP hQ => ?_)
  subst e1
  refine lv_aload_n hx hb dL_law_925 rfl (lv_at hl 1 rfl) ?_
  refine rdA (k := 1) hc hX hbl hbA hw1.2.2 hl (by omega) hL rfl dL_law_926 dL_law_927 dL_law_928 dL_law_929 dL_law_930 ?_
  refine rdA (k := 2) hc hX hbl hbA hw1.2.2 hl (by omega) hL rfl dL_law_931 dL_law_932 dL_law_933 dL_law_934 dL_law_935 ?_
  refine cllM (As := [.int (xs (i + 1)), .int (xs (i + 2))]) hc hw1 (c_M_dated hP) (fun r' u h => ⟨u, rfl, h⟩) lk_L_122 rfl (by decide) (by decide) hl.1 hcs rfl rfl dL_law_936 (fun r' S' H2 locs2 q hw2 => ?_)
  obtain ⟨e2, hR2⟩ := hQ r' S' q
  refine lv_icmp_eq hx hb dL_law_939 (tgt := 1187) rfl (fun _ => ?_) (fun ne => absurd e2 ne)
  exact kk _ _ _ hw2 hR2
theorem g_doubt {p : Program} {l : Launch} {e : Env} {s : State} {m : MethodId} {args : Array Value} {below : List Frame} {meth : Method} {c : Code} {H : Heap} {locs : List Loc} {cells slots : Nat} {Q0 : State → Prop} {D : va_G} {cy : Nat → ClassId} {A : Nat → Prop} {ls : Array Slot} {b L i v ox om : Nat} {xs : Nat → Int32} {w : va_W} (hc : cX p m meth c s args D cy A RL code 4 ret) (hX : va_X b L xs s s.heap) (hbl : b < s.heap.size) (hbA : ¬ A b) (hL : L ≤ 3072) (hl : lv_has ls 4 [(3, .int (nI i)), (2, .ref om), (1, .ref ox), (0, .ref b)]) (hi : i + 6 ≤ L) (hw : wV D A s.heap w H locs) (hR : Rel cy ox om v w) (hv : v < 1000) (hcs : cells + 14 ≤ 600000 ∧ slots + 4239 ≤ 7302250) (kk : ∀ (H1 : Heap) (locs1 : List Loc) (w' : va_W), wV D A s.heap w' H1 locs1 → Rel cy ox om (v + 1) w' → W p l e room_1 s m args below meth c H1 locs1 (cells + 14) (slots + 4239) Q0 (F0 m 1187 ls [])) : W p l e room_1 s m args below meth c H locs cells slots Q0 (F0 m 944 ls []) := by
  have hx := hc.1.1
  have hb := hc.1.2.1
  refine lv_aload_n hx hb dL_law_944 rfl (lv_at hl 2 rfl) ?_
  refine rdA (k := 1) hc hX hbl hbA hw.2.2 hl (by omega) hL rfl dL_law_945 dL_law_946 dL_law_947 dL_law_948 dL_law_949 ?_
  refine cllC (As := [.int (xs (i + 1))]) hc hw (o_doubt hR (nodup_ix.mp hw.2.1).1 hv) lk_L_123 rfl (by decide) hl.1 hcs rfl rfl dL_law_950 (fun r aM S wr' Q1 H1 locs1 e1 hw1 hP hQ => ?_)
  subst e1
  refine lv_aload_n hx hb dL_law_953 rfl (lv_at hl 1 rfl) ?_
  refine rdA (k := 1) hc hX hbl hbA hw1.2.2 hl (by omega) hL rfl dL_law_954 dL_law_955 dL_law_956 dL_law_957 dL_law_958 ?_
  refine cllM (As := [.int (xs (i + 1))]) hc hw1 (c_M_doubt hP) (fun r' u h => ⟨u, rfl, h⟩) lk_L_126 rfl (by decide) (by decide) hl.1 hcs rfl rfl dL_law_959 (fun r' S' H2 locs2 q hw2 => ?_)
  obtain ⟨e2, hR2⟩ := hQ r' S' q
  refine lv_icmp_eq hx hb dL_law_962 (tgt := 1187) rfl (fun _ => ?_) (fun ne => absurd e2 ne)
  exact kk _ _ _ hw2 hR2
theorem g_claim {p : Program} {l : Launch} {e : Env} {s : State} {m : MethodId} {args : Array Value} {below : List Frame} {meth : Method} {c : Code} {H : Heap} {locs : List Loc} {cells slots : Nat} {Q0 : State → Prop} {D : va_G} {cy : Nat → ClassId} {A : Nat → Prop} {ls : Array Slot} {b L i v ox om : Nat} {xs : Nat → Int32} {w : va_W} (hc : cX p m meth c s args D cy A RL code 4 ret) (hX : va_X b L xs s s.heap) (hbl : b < s.heap.size) (hbA : ¬ A b) (hL : L ≤ 3072) (hl : lv_has ls 4 [(3, .int (nI i)), (2, .ref om), (1, .ref ox), (0, .ref b)]) (hi : i + 6 ≤ L) (hw : wV D A s.heap w H locs) (hR : Rel cy ox om v w) (hv : v < 1000) (hcs : cells + 14 ≤ 600000 ∧ slots + 4239 ≤ 7302250) (kk : ∀ (H1 : Heap) (locs1 : List Loc) (w' : va_W), wV D A s.heap w' H1 locs1 → Rel cy ox om (v + 1) w' → W p l e room_1 s m args below meth c H1 locs1 (cells + 14) (slots + 4239) Q0 (F0 m 1187 ls [])) : W p l e room_1 s m args below meth c H locs cells slots Q0 (F0 m 967 ls []) := by
  have hx := hc.1.1
  have hb := hc.1.2.1
  refine lv_aload_n hx hb dL_law_967 rfl (lv_at hl 2 rfl) ?_
  refine rdA (k := 1) hc hX hbl hbA hw.2.2 hl (by omega) hL rfl dL_law_968 dL_law_969 dL_law_970 dL_law_971 dL_law_972 ?_
  refine rdA (k := 2) hc hX hbl hbA hw.2.2 hl (by omega) hL rfl dL_law_973 dL_law_974 dL_law_975 dL_law_976 dL_law_977 ?_
  refine rdA (k := 3) hc hX hbl hbA hw.2.2 hl (by omega) hL rfl dL_law_978 dL_law_979 dL_law_980 dL_law_981 dL_law_982 ?_
  refine cllC (As := [.int (xs (i + 1)), .int (xs (i + 2)), .int (xs (i + 3))]) hc hw (o_claim hR (nodup_ix.mp hw.2.1).1 hv) lk_L_127 rfl (by decide) hl.1 hcs rfl rfl dL_law_983 (fun r aM S wr' Q1 H1 locs1 e1 hw1 hP hQ => ?_)
  subst e1
  refine lv_aload_n hx hb dL_law_986 rfl (lv_at hl 1 rfl) ?_
  refine rdA (k := 1) hc hX hbl hbA hw1.2.2 hl (by omega) hL rfl dL_law_987 dL_law_988 dL_law_989 dL_law_990 dL_law_991 ?_
  refine rdA (k := 2) hc hX hbl hbA hw1.2.2 hl (by omega) hL rfl dL_law_992 dL_law_993 dL_law_994 dL_law_995 dL_law_996 ?_
  refine rdA (k := 3) hc hX hbl hbA hw1.2.2 hl (by omega) hL rfl dL_law_997 dL_law_998 dL_law_999 dL_law_1000 dL_law_1001 ?_
  refine cllM (As := [.int (xs (i + 1)), .int (xs (i + 2)), .int (xs (i + 3))]) hc hw1 (c_M_claim hP) (fun r' u h => ⟨u, rfl, h⟩) lk_L_130 rfl (by decide) (by decide) hl.1 hcs rfl rfl dL_law_1002 (fun r' S' H2 locs2 q hw2 => ?_)
  obtain ⟨e2, hR2⟩ := hQ r' S' q
  refine lv_icmp_eq hx hb dL_law_1005 (tgt := 1187) rfl (fun _ => ?_) (fun ne => absurd e2 ne)
  exact kk _ _ _ hw2 hR2
theorem g_clear {p : Program} {l : Launch} {e : Env} {s : State} {m : MethodId} {args : Array Value} {below : List Frame} {meth : Method} {c : Code} {H : Heap} {locs : List Loc} {cells slots : Nat} {Q0 : State → Prop} {D : va_G} {cy : Nat → ClassId} {A : Nat → Prop} {ls : Array Slot} {b L i v ox om : Nat} {xs : Nat → Int32} {w : va_W} (hc : cX p m meth c s args D cy A RL code 4 ret) (hX : va_X b L xs s s.heap) (hbl : b < s.heap.size) (hbA : ¬ A b) (hL : L ≤ 3072) (hl : lv_has ls 4 [(3, .int (nI i)), (2, .ref om), (1, .ref ox), (0, .ref b)]) (hi : i + 6 ≤ L) (hw : wV D A s.heap w H locs) (hR : Rel cy ox om v w) (hv : v < 1000) (hcs : cells + 14 ≤ 600000 ∧ slots + 4239 ≤ 7302250) (kk : ∀ (H1 : Heap) (locs1 : List Loc) (w' : va_W), wV D A s.heap w' H1 locs1 → Rel cy ox om (v + 1) w' → W p l e room_1 s m args below meth c H1 locs1 (cells + 14) (slots + 4239) Q0 (F0 m 1187 ls [])) : W p l e room_1 s m args below meth c H locs cells slots Q0 (F0 m 1010 ls []) := by
  have hx := hc.1.1
  have hb := hc.1.2.1
  refine lv_aload_n hx hb dL_law_1010 rfl (lv_at hl 2 rfl) ?_
  refine cllC (As := []) hc hw (o_clear hR (nodup_ix.mp hw.2.1).1 hv) lk_L_131 rfl (by decide) hl.1 hcs rfl rfl dL_law_1011 (fun r aM S wr' Q1 H1 locs1 e1 hw1 hP hQ => ?_)
  subst e1
  refine lv_aload_n hx hb dL_law_1014 rfl (lv_at hl 1 rfl) ?_
  refine cllM (As := []) hc hw1 (c_M_clear hP) (fun r' u h => ⟨u, rfl, h⟩) lk_L_134 rfl (by decide) (by decide) hl.1 hcs rfl rfl dL_law_1015 (fun r' S' H2 locs2 q hw2 => ?_)
  obtain ⟨e2, hR2⟩ := hQ r' S' q
  refine lv_icmp_eq hx hb dL_law_1018 (tgt := 1187) rfl (fun _ => ?_) (fun ne => absurd e2 ne)
  exact kk _ _ _ hw2 hR2
theorem g_wrong {p : Program} {l : Launch} {e : Env} {s : State} {m : MethodId} {args : Array Value} {below : List Frame} {meth : Method} {c : Code} {H : Heap} {locs : List Loc} {cells slots : Nat} {Q0 : State → Prop} {D : va_G} {cy : Nat → ClassId} {A : Nat → Prop} {ls : Array Slot} {b L i v ox om : Nat} {xs : Nat → Int32} {w : va_W} (hc : cX p m meth c s args D cy A RL code 4 ret) (hX : va_X b L xs s s.heap) (hbl : b < s.heap.size) (hbA : ¬ A b) (hL : L ≤ 3072) (hl : lv_has ls 4 [(3, .int (nI i)), (2, .ref om), (1, .ref ox), (0, .ref b)]) (hi : i + 6 ≤ L) (hw : wV D A s.heap w H locs) (hR : Rel cy ox om v w) (hv : v < 1000) (hcs : cells + 14 ≤ 600000 ∧ slots + 4239 ≤ 7302250) (kk : ∀ (H1 : Heap) (locs1 : List Loc) (w' : va_W), wV D A s.heap w' H1 locs1 → Rel cy ox om (v + 1) w' → W p l e room_1 s m args below meth c H1 locs1 (cells + 14) (slots + 4239) Q0 (F0 m 1187 ls [])) : W p l e room_1 s m args below meth c H locs cells slots Q0 (F0 m 1023 ls []) := by
  have hx := hc.1.1
  have hb := hc.1.2.1
  refine lv_aload_n hx hb dL_law_1023 rfl (lv_at hl 2 rfl) ?_
  refine cllC (As := []) hc hw (o_wrong hR (nodup_ix.mp hw.2.1).1 hv) lk_L_135 rfl (by decide) hl.1 hcs rfl rfl dL_law_1024 (fun r aM S wr' Q1 H1 locs1 e1 hw1 hP hQ => ?_)
  subst e1
  refine lv_aload_n hx hb dL_law_1027 rfl (lv_at hl 1 rfl) ?_
  refine cllM (As := []) hc hw1 (c_M_wrong hP) (fun r' u h => ⟨u, rfl, h⟩) lk_L_138 rfl (by decide) (by decide) hl.1 hcs rfl rfl dL_law_1028 (fun r' S' H2 locs2 q hw2 => ?_)
  obtain ⟨e2, hR2⟩ := hQ r' S' q
  refine lv_icmp_eq hx hb dL_law_1031 (tgt := 1187) rfl (fun _ => ?_) (fun ne => absurd e2 ne)
  exact kk _ _ _ hw2 hR2
