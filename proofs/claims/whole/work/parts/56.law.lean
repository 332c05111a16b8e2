/-! ===== the law's loop ===== -/
section RowsK
variable {ρ : Type} {Γ : gX ρ} {cc : ByteArray} {nL : Nat} {own : String} {ret : Option FieldType} {fr lo : Nat} {pc : Nat} {L : List (Option Value)} {st rest : List Value} {σ : gSt}
variable {y : MethodName} {bytes : ByteArray} {maxL n idx f' l' : Nat} {ret' : Option FieldType}
/-- calls whose end is known -/
theorem x_ViK (h : gOk Γ cc nL own ret fr lo) (hm : gMt y bytes maxL ret' n) (hi : gMi y) (hlk : Cond.methodLink own idx y ∈ gTb) {ci k : Nat} (hk : isO k ci) (hci : ci < 11) (hcl : y.cls = gR ci) {av : (Nat → Nat) → List Value} {o : Option (Int32 × gSt)} {a : Int32} {τ : gSt} {u : Option ρ} (ct : gCt y bytes maxL ret' f' l' gQi (fun ad => .ref (ad k) :: av ad) σ o) (ho : o = some (a, τ)) (hst : st = (av (gAd Γ.1)).reverse ++ .ref (gAd Γ.1 k) :: rest) (hn : (av (gAd Γ.1)).length = n) (hca : gCa st rest fr lo f' l' maxL nL L) (hd : decode cc pc = .ok (.invokevirtual idx, 3)) (kk : At Γ (pc + 3) L (.int a :: rest) τ u) : At Γ pc L st σ u := by
  intro r hr H locs ls hP hS hL
  refine va_calli (a := ((fun ad => .ref (ad k) :: av ad) (gAd Γ.1)).toArray) (free := gA Γ.1) (A1 := gA Γ.1) (gRunV h hm hi hlk hk hci hcl hst hn hca hd (ct Γ.2.1.2.1 Γ.1 (a, τ) ho) hP hL) hS (fun _ _ q => q) (fun _ q => q) (fun v w t H1 locs1 ht hvm hw hB h1 h2 hS1 => ?_)
  subst hw
  rw [ht] at hB
  exact kk r hr H1 locs1 ls hB hS1 hL
theorem x_VpK (h : gOk Γ cc nL own ret fr lo) (hm : gMt y bytes maxL ret' n) (hi : gMi y) (hlk : Cond.methodLink own idx y ∈ gTb) {ci k : Nat} (hk : isO k ci) (hci : ci < 11) (hcl : y.cls = gR ci) {av : (Nat → Nat) → List Value} {o : Option Int32} {a : Int32} {u : Option ρ} (ct : gCt y bytes maxL ret' f' l' (gQp σ) (fun ad => .ref (ad k) :: av ad) σ o) (ho : o = some a) (hst : st = (av (gAd Γ.1)).reverse ++ .ref (gAd Γ.1 k) :: rest) (hn : (av (gAd Γ.1)).length = n) (hca : gCa st rest fr lo f' l' maxL nL L) (hd : decode cc pc = .ok (.invokevirtual idx, 3)) (kk : At Γ (pc + 3) L (.int a :: rest) σ u) : At Γ pc L st σ u := by
  intro r hr H locs ls hP hS hL
  refine va_calli (a := ((fun ad => .ref (ad k) :: av ad) (gAd Γ.1)).toArray) (free := gA Γ.1) (A1 := gA Γ.1) (gRunV h hm hi hlk hk hci hcl hst hn hca hd (ct Γ.2.1.2.1 Γ.1 a ho) hP hL) hS (fun _ _ q => q) (fun _ q => q) (fun v w t H1 locs1 ht hvm hw hB h1 h2 hS1 => ?_)
  subst hw
  rw [ht] at hB
  exact kk r hr H1 locs1 ls hB hS1 hL
theorem x_tswK (h : gOk Γ cc nL own ret fr lo) {x : Int32} (n : Int) {dflt lo' hi' : Int} {offs : Array Int} {len : Nat} {off : Int} {tgt : Nat} {u : Option ρ} (hd : decode cc pc = .ok (.tableswitch dflt lo' hi' offs, len)) (hv : x.toInt = n) (h1 : lo' ≤ n) (h2 : n ≤ hi') (ho : offs[(n - lo').toNat]? = some off) (ht : (pc : Int) + off = (tgt : Int)) (kt : At Γ tgt L st σ u) : At Γ pc L (.int x :: st) σ u :=
  fun r hr H locs ls hP hS hL => lv_tableIn h.1 h.2.1 hd (by omega) (by omega) (by rw [hv]; exact ho) ht (kt r hr H locs ls hP hS hL)
end RowsK
theorem isO_0 : isO 0 9 := ⟨by decide, by decide +kernel⟩
theorem isO_94 : isO 94 10 := ⟨by decide, by decide +kernel⟩
theorem i_X10_clearText : gMi yX10_clearText := ⟨gM 1285 (by decide +kernel) rfl, gM 1286 (by decide +kernel) rfl⟩
theorem i_X10_count : gMi yX10_count := ⟨gM 1254 (by decide +kernel) rfl, gM 1255 (by decide +kernel) rfl⟩
theorem i_X10_doubtful : gMi yX10_doubtful := ⟨gM 1250 (by decide +kernel) rfl, gM 1251 (by decide +kernel) rfl⟩
theorem i_X10_during : gMi yX10_during := ⟨gM 1214 (by decide +kernel) rfl, gM 1215 (by decide +kernel) rfl⟩
theorem i_X10_fault : gMi yX10_fault := ⟨gM 1289 (by decide +kernel) rfl, gM 1290 (by decide +kernel) rfl⟩
theorem i_X10_interrupts : gMi yX10_interrupts := ⟨gM 1222 (by decide +kernel) rfl, gM 1223 (by decide +kernel) rfl⟩
theorem i_X10_join : gMi yX10_join := ⟨gM 1122 (by decide +kernel) rfl, gM 1123 (by decide +kernel) rfl⟩
theorem i_X10_nearest : gMi yX10_nearest := ⟨gM 1226 (by decide +kernel) rfl, gM 1227 (by decide +kernel) rfl⟩
theorem i_X10_part : gMi yX10_part := ⟨gM 1069 (by decide +kernel) rfl, gM 1070 (by decide +kernel) rfl⟩
theorem i_X10_play : gMi yX10_play := ⟨gM 1328 (by decide +kernel) rfl, gM 1329 (by decide +kernel) rfl⟩
theorem i_X10_remove : gMi yX10_remove := ⟨gM 1073 (by decide +kernel) rfl, gM 1074 (by decide +kernel) rfl⟩
theorem i_X10_set : gMi yX10_set := ⟨gM 1126 (by decide +kernel) rfl, gM 1127 (by decide +kernel) rfl⟩
theorem i_X10_silence : gMi yX10_silence := ⟨gM 1242 (by decide +kernel) rfl, gM 1243 (by decide +kernel) rfl⟩
theorem i_X10_speakerOf : gMi yX10_speakerOf := ⟨gM 1183 (by decide +kernel) rfl, gM 1184 (by decide +kernel) rfl⟩
theorem i_X10_termAt : gMi yX10_termAt := ⟨gM 1159 (by decide +kernel) rfl, gM 1160 (by decide +kernel) rfl⟩
theorem i_X10_termOf : gMi yX10_termOf := ⟨gM 1163 (by decide +kernel) rfl, gM 1164 (by decide +kernel) rfl⟩
theorem i_X10_together : gMi yX10_together := ⟨gM 1234 (by decide +kernel) rfl, gM 1235 (by decide +kernel) rfl⟩
theorem i_X10_turnOf : gMi yX10_turnOf := ⟨gM 1130 (by decide +kernel) rfl, gM 1131 (by decide +kernel) rfl⟩
theorem i_X10_type : gMi yX10_type := ⟨gM 1281 (by decide +kernel) rfl, gM 1282 (by decide +kernel) rfl⟩
theorem i_X10_uncorrect : gMi yX10_uncorrect := ⟨gM 1098 (by decide +kernel) rfl, gM 1099 (by decide +kernel) rfl⟩
theorem i_X10_undo : gMi yX10_undo := ⟨gM 1277 (by decide +kernel) rfl, gM 1278 (by decide +kernel) rfl⟩
theorem i_X10_would : gMi yX10_would := ⟨gM 1230 (by decide +kernel) rfl, gM 1231 (by decide +kernel) rfl⟩
theorem i_X9_clearText : gMi yX9_clearText := ⟨gM 886 (by decide +kernel) rfl, gM 887 (by decide +kernel) rfl⟩
theorem i_X9_correct : gMi yX9_correct := ⟨gM 453 (by decide +kernel) rfl, gM 454 (by decide +kernel) rfl⟩
theorem i_X9_count : gMi yX9_count := ⟨gM 807 (by decide +kernel) rfl, gM 808 (by decide +kernel) rfl⟩
theorem i_X9_doubtful : gMi yX9_doubtful := ⟨gM 798 (by decide +kernel) rfl, gM 799 (by decide +kernel) rfl⟩
theorem i_X9_during : gMi yX9_during := ⟨gM 722 (by decide +kernel) rfl, gM 723 (by decide +kernel) rfl⟩
theorem i_X9_fault : gMi yX9_fault := ⟨gM 894 (by decide +kernel) rfl, gM 895 (by decide +kernel) rfl⟩
theorem i_X9_give : gMi yX9_give := ⟨gM 520 (by decide +kernel) rfl, gM 521 (by decide +kernel) rfl⟩
theorem i_X9_interrupts : gMi yX9_interrupts := ⟨gM 742 (by decide +kernel) rfl, gM 743 (by decide +kernel) rfl⟩
theorem i_X9_join : gMi yX9_join := ⟨gM 549 (by decide +kernel) rfl, gM 550 (by decide +kernel) rfl⟩
theorem i_X9_nearest : gMi yX9_nearest := ⟨gM 750 (by decide +kernel) rfl, gM 751 (by decide +kernel) rfl⟩
theorem i_X9_part : gMi yX9_part := ⟨gM 400 (by decide +kernel) rfl, gM 401 (by decide +kernel) rfl⟩
theorem i_X9_play : gMi yX9_play := ⟨gM 959 (by decide +kernel) rfl, gM 960 (by decide +kernel) rfl⟩
theorem i_X9_remove : gMi yX9_remove := ⟨gM 437 (by decide +kernel) rfl, gM 438 (by decide +kernel) rfl⟩
theorem i_X9_say : gMi yX9_say := ⟨gM 369 (by decide +kernel) rfl, gM 370 (by decide +kernel) rfl⟩
theorem i_X9_set : gMi yX9_set := ⟨gM 567 (by decide +kernel) rfl, gM 568 (by decide +kernel) rfl⟩
theorem i_X9_silence : gMi yX9_silence := ⟨gM 786 (by decide +kernel) rfl, gM 787 (by decide +kernel) rfl⟩
theorem i_X9_speaker : gMi yX9_speaker := ⟨gM 503 (by decide +kernel) rfl, gM 504 (by decide +kernel) rfl⟩
theorem i_X9_speakerOf : gMi yX9_speakerOf := ⟨gM 678 (by decide +kernel) rfl, gM 679 (by decide +kernel) rfl⟩
theorem i_X9_termAt : gMi yX9_termAt := ⟨gM 623 (by decide +kernel) rfl, gM 624 (by decide +kernel) rfl⟩
theorem i_X9_termOf : gMi yX9_termOf := ⟨gM 634 (by decide +kernel) rfl, gM 635 (by decide +kernel) rfl⟩
theorem i_X9_together : gMi yX9_together := ⟨gM 770 (by decide +kernel) rfl, gM 771 (by decide +kernel) rfl⟩
theorem i_X9_turn : gMi yX9_turn := ⟨gM 281 (by decide +kernel) rfl, gM 282 (by decide +kernel) rfl⟩
theorem i_X9_turnOf : gMi yX9_turnOf := ⟨gM 575 (by decide +kernel) rfl, gM 576 (by decide +kernel) rfl⟩
theorem i_X9_type : gMi yX9_type := ⟨gM 870 (by decide +kernel) rfl, gM 871 (by decide +kernel) rfl⟩
theorem i_X9_uncorrect : gMi yX9_uncorrect := ⟨gM 493 (by decide +kernel) rfl, gM 494 (by decide +kernel) rfl⟩
theorem i_X9_undo : gMi yX9_undo := ⟨gM 857 (by decide +kernel) rfl, gM 858 (by decide +kernel) rfl⟩
theorem i_X9_would : gMi yX9_would := ⟨gM 760 (by decide +kernel) rfl, gM 761 (by decide +kernel) rfl⟩
theorem kl_L_100 : Cond.methodLink RL 100 yX9_count ∈ gTb := gM 806 (by decide +kernel) rfl
theorem kl_L_103 : Cond.methodLink RL 103 yX10_count ∈ gTb := gM 1253 (by decide +kernel) rfl
theorem kl_L_104 : Cond.methodLink RL 104 yX9_undo ∈ gTb := gM 856 (by decide +kernel) rfl
theorem kl_L_108 : Cond.methodLink RL 108 yX10_undo ∈ gTb := gM 1276 (by decide +kernel) rfl
theorem kl_L_109 : Cond.methodLink RL 109 yX9_type ∈ gTb := gM 869 (by decide +kernel) rfl
theorem kl_L_112 : Cond.methodLink RL 112 yX10_type ∈ gTb := gM 1280 (by decide +kernel) rfl
theorem kl_L_113 : Cond.methodLink RL 113 yX9_clearText ∈ gTb := gM 885 (by decide +kernel) rfl
theorem kl_L_116 : Cond.methodLink RL 116 yX10_clearText ∈ gTb := gM 1284 (by decide +kernel) rfl
theorem kl_L_117 : Cond.methodLink RL 117 yX9_fault ∈ gTb := gM 893 (by decide +kernel) rfl
theorem kl_L_120 : Cond.methodLink RL 120 yX10_fault ∈ gTb := gM 1288 (by decide +kernel) rfl
theorem kl_L_121 : Cond.methodLink RL 121 yX9_play ∈ gTb := gM 958 (by decide +kernel) rfl
theorem kl_L_124 : Cond.methodLink RL 124 yX10_play ∈ gTb := gM 1327 (by decide +kernel) rfl
theorem kl_L_13 : Cond.methodLink RL 13 yX9_turn ∈ gTb := gM 280 (by decide +kernel) rfl
theorem kl_L_17 : Cond.methodLink RL 17 yX10_turn ∈ gTb := gM 1025 (by decide +kernel) rfl
theorem kl_L_18 : Cond.methodLink RL 18 yX9_say ∈ gTb := gM 368 (by decide +kernel) rfl
theorem kl_L_22 : Cond.methodLink RL 22 yX10_say ∈ gTb := gM 1057 (by decide +kernel) rfl
theorem kl_L_23 : Cond.methodLink RL 23 yX9_part ∈ gTb := gM 399 (by decide +kernel) rfl
theorem kl_L_26 : Cond.methodLink RL 26 yX10_part ∈ gTb := gM 1068 (by decide +kernel) rfl
theorem kl_L_27 : Cond.methodLink RL 27 yX9_remove ∈ gTb := gM 436 (by decide +kernel) rfl
theorem kl_L_31 : Cond.methodLink RL 31 yX10_remove ∈ gTb := gM 1072 (by decide +kernel) rfl
theorem kl_L_32 : Cond.methodLink RL 32 yX9_correct ∈ gTb := gM 452 (by decide +kernel) rfl
theorem kl_L_35 : Cond.methodLink RL 35 yX10_correct ∈ gTb := gM 1076 (by decide +kernel) rfl
theorem kl_L_36 : Cond.methodLink RL 36 yX9_uncorrect ∈ gTb := gM 492 (by decide +kernel) rfl
theorem kl_L_39 : Cond.methodLink RL 39 yX10_uncorrect ∈ gTb := gM 1097 (by decide +kernel) rfl
theorem kl_L_40 : Cond.methodLink RL 40 yX9_speaker ∈ gTb := gM 502 (by decide +kernel) rfl
theorem kl_L_43 : Cond.methodLink RL 43 yX10_speaker ∈ gTb := gM 1101 (by decide +kernel) rfl
theorem kl_L_44 : Cond.methodLink RL 44 yX9_give ∈ gTb := gM 519 (by decide +kernel) rfl
theorem kl_L_47 : Cond.methodLink RL 47 yX10_give ∈ gTb := gM 1105 (by decide +kernel) rfl
theorem kl_L_48 : Cond.methodLink RL 48 yX9_join ∈ gTb := gM 548 (by decide +kernel) rfl
theorem kl_L_51 : Cond.methodLink RL 51 yX10_join ∈ gTb := gM 1121 (by decide +kernel) rfl
theorem kl_L_52 : Cond.methodLink RL 52 yX9_set ∈ gTb := gM 566 (by decide +kernel) rfl
theorem kl_L_55 : Cond.methodLink RL 55 yX10_set ∈ gTb := gM 1125 (by decide +kernel) rfl
theorem kl_L_56 : Cond.methodLink RL 56 yX9_turnOf ∈ gTb := gM 574 (by decide +kernel) rfl
theorem kl_L_59 : Cond.methodLink RL 59 yX10_turnOf ∈ gTb := gM 1129 (by decide +kernel) rfl
theorem kl_L_60 : Cond.methodLink RL 60 yX9_termAt ∈ gTb := gM 622 (by decide +kernel) rfl
theorem kl_L_63 : Cond.methodLink RL 63 yX10_termAt ∈ gTb := gM 1158 (by decide +kernel) rfl
theorem kl_L_64 : Cond.methodLink RL 64 yX9_termOf ∈ gTb := gM 633 (by decide +kernel) rfl
theorem kl_L_67 : Cond.methodLink RL 67 yX10_termOf ∈ gTb := gM 1162 (by decide +kernel) rfl
theorem kl_L_68 : Cond.methodLink RL 68 yX9_speakerOf ∈ gTb := gM 677 (by decide +kernel) rfl
theorem kl_L_71 : Cond.methodLink RL 71 yX10_speakerOf ∈ gTb := gM 1182 (by decide +kernel) rfl
theorem kl_L_72 : Cond.methodLink RL 72 yX9_during ∈ gTb := gM 721 (by decide +kernel) rfl
theorem kl_L_75 : Cond.methodLink RL 75 yX10_during ∈ gTb := gM 1213 (by decide +kernel) rfl
theorem kl_L_76 : Cond.methodLink RL 76 yX9_interrupts ∈ gTb := gM 741 (by decide +kernel) rfl
theorem kl_L_79 : Cond.methodLink RL 79 yX10_interrupts ∈ gTb := gM 1221 (by decide +kernel) rfl
theorem kl_L_80 : Cond.methodLink RL 80 yX9_nearest ∈ gTb := gM 749 (by decide +kernel) rfl
theorem kl_L_83 : Cond.methodLink RL 83 yX10_nearest ∈ gTb := gM 1225 (by decide +kernel) rfl
theorem kl_L_84 : Cond.methodLink RL 84 yX9_would ∈ gTb := gM 759 (by decide +kernel) rfl
theorem kl_L_87 : Cond.methodLink RL 87 yX10_would ∈ gTb := gM 1229 (by decide +kernel) rfl
theorem kl_L_88 : Cond.methodLink RL 88 yX9_together ∈ gTb := gM 769 (by decide +kernel) rfl
theorem kl_L_91 : Cond.methodLink RL 91 yX10_together ∈ gTb := gM 1233 (by decide +kernel) rfl
theorem kl_L_92 : Cond.methodLink RL 92 yX9_silence ∈ gTb := gM 785 (by decide +kernel) rfl
theorem kl_L_95 : Cond.methodLink RL 95 yX10_silence ∈ gTb := gM 1241 (by decide +kernel) rfl
theorem kl_L_96 : Cond.methodLink RL 96 yX9_doubtful ∈ gTb := gM 797 (by decide +kernel) rfl
theorem kl_L_99 : Cond.methodLink RL 99 yX10_doubtful ∈ gTb := gM 1249 (by decide +kernel) rfl
theorem m_X10_clearText : gMt yX10_clearText cX10_clearText 2 (some .int) 0 := ⟨gM 1287 (by decide +kernel) rfl, gM 70 (by decide +kernel) rfl, ⟨by decide +kernel, by decide +kernel⟩, by decide +kernel⟩
theorem m_X10_count : gMt yX10_count cX10_count 2 (some .int) 1 := ⟨gM 1256 (by decide +kernel) rfl, gM 70 (by decide +kernel) rfl, ⟨by decide +kernel, by decide +kernel⟩, by decide +kernel⟩
theorem m_X10_doubtful : gMt yX10_doubtful cX10_doubtful 6 (some .int) 1 := ⟨gM 1252 (by decide +kernel) rfl, gM 70 (by decide +kernel) rfl, ⟨by decide +kernel, by decide +kernel⟩, by decide +kernel⟩
theorem m_X10_during : gMt yX10_during cX10_during 3 (some .int) 2 := ⟨gM 1216 (by decide +kernel) rfl, gM 70 (by decide +kernel) rfl, ⟨by decide +kernel, by decide +kernel⟩, by decide +kernel⟩
theorem m_X10_fault : gMt yX10_fault cX10_fault 3 (some .int) 1 := ⟨gM 1291 (by decide +kernel) rfl, gM 70 (by decide +kernel) rfl, ⟨by decide +kernel, by decide +kernel⟩, by decide +kernel⟩
theorem m_X10_interrupts : gMt yX10_interrupts cX10_interrupts 3 (some .int) 2 := ⟨gM 1224 (by decide +kernel) rfl, gM 70 (by decide +kernel) rfl, ⟨by decide +kernel, by decide +kernel⟩, by decide +kernel⟩
theorem m_X10_join : gMt yX10_join cX10_join 4 (some .int) 2 := ⟨gM 1124 (by decide +kernel) rfl, gM 70 (by decide +kernel) rfl, ⟨by decide +kernel, by decide +kernel⟩, by decide +kernel⟩
theorem m_X10_nearest : gMt yX10_nearest cX10_nearest 2 (some .int) 1 := ⟨gM 1228 (by decide +kernel) rfl, gM 70 (by decide +kernel) rfl, ⟨by decide +kernel, by decide +kernel⟩, by decide +kernel⟩
theorem m_X10_part : gMt yX10_part cX10_part 6 (some .int) 3 := ⟨gM 1071 (by decide +kernel) rfl, gM 70 (by decide +kernel) rfl, ⟨by decide +kernel, by decide +kernel⟩, by decide +kernel⟩
theorem m_X10_play : gMt yX10_play cX10_play 2 (some .int) 0 := ⟨gM 1330 (by decide +kernel) rfl, gM 70 (by decide +kernel) rfl, ⟨by decide +kernel, by decide +kernel⟩, by decide +kernel⟩
theorem m_X10_remove : gMt yX10_remove cX10_remove 3 (some .int) 1 := ⟨gM 1075 (by decide +kernel) rfl, gM 70 (by decide +kernel) rfl, ⟨by decide +kernel, by decide +kernel⟩, by decide +kernel⟩
theorem m_X10_set : gMt yX10_set cX10_set 4 (some .int) 2 := ⟨gM 1128 (by decide +kernel) rfl, gM 70 (by decide +kernel) rfl, ⟨by decide +kernel, by decide +kernel⟩, by decide +kernel⟩
theorem m_X10_silence : gMt yX10_silence cX10_silence 7 (some .int) 1 := ⟨gM 1244 (by decide +kernel) rfl, gM 70 (by decide +kernel) rfl, ⟨by decide +kernel, by decide +kernel⟩, by decide +kernel⟩
theorem m_X10_speakerOf : gMt yX10_speakerOf cX10_speakerOf 3 (some .int) 2 := ⟨gM 1185 (by decide +kernel) rfl, gM 70 (by decide +kernel) rfl, ⟨by decide +kernel, by decide +kernel⟩, by decide +kernel⟩
theorem m_X10_termAt : gMt yX10_termAt cX10_termAt 5 (some .int) 3 := ⟨gM 1161 (by decide +kernel) rfl, gM 70 (by decide +kernel) rfl, ⟨by decide +kernel, by decide +kernel⟩, by decide +kernel⟩
theorem m_X10_termOf : gMt yX10_termOf cX10_termOf 3 (some .int) 2 := ⟨gM 1165 (by decide +kernel) rfl, gM 70 (by decide +kernel) rfl, ⟨by decide +kernel, by decide +kernel⟩, by decide +kernel⟩
theorem m_X10_together : gMt yX10_together cX10_together 8 (some .int) 1 := ⟨gM 1236 (by decide +kernel) rfl, gM 70 (by decide +kernel) rfl, ⟨by decide +kernel, by decide +kernel⟩, by decide +kernel⟩
theorem m_X10_turnOf : gMt yX10_turnOf cX10_turnOf 3 (some .int) 2 := ⟨gM 1132 (by decide +kernel) rfl, gM 70 (by decide +kernel) rfl, ⟨by decide +kernel, by decide +kernel⟩, by decide +kernel⟩
theorem m_X10_type : gMt yX10_type cX10_type 2 (some .int) 1 := ⟨gM 1283 (by decide +kernel) rfl, gM 70 (by decide +kernel) rfl, ⟨by decide +kernel, by decide +kernel⟩, by decide +kernel⟩
theorem m_X10_uncorrect : gMt yX10_uncorrect cX10_uncorrect 2 (some .int) 1 := ⟨gM 1100 (by decide +kernel) rfl, gM 70 (by decide +kernel) rfl, ⟨by decide +kernel, by decide +kernel⟩, by decide +kernel⟩
theorem m_X10_undo : gMt yX10_undo cX10_undo 2 (some .int) 0 := ⟨gM 1279 (by decide +kernel) rfl, gM 70 (by decide +kernel) rfl, ⟨by decide +kernel, by decide +kernel⟩, by decide +kernel⟩
theorem m_X10_would : gMt yX10_would cX10_would 4 (some .int) 2 := ⟨gM 1232 (by decide +kernel) rfl, gM 70 (by decide +kernel) rfl, ⟨by decide +kernel, by decide +kernel⟩, by decide +kernel⟩
theorem m_X9_clearText : gMt yX9_clearText cX9_clearText 1 (some .int) 0 := ⟨gM 888 (by decide +kernel) rfl, gM 59 (by decide +kernel) rfl, ⟨by decide +kernel, by decide +kernel⟩, by decide +kernel⟩
theorem m_X9_correct : gMt yX9_correct cX9_correct 3 (some .int) 2 := ⟨gM 455 (by decide +kernel) rfl, gM 59 (by decide +kernel) rfl, ⟨by decide +kernel, by decide +kernel⟩, by decide +kernel⟩
theorem m_X9_count : gMt yX9_count cX9_count 2 (some .int) 1 := ⟨gM 809 (by decide +kernel) rfl, gM 59 (by decide +kernel) rfl, ⟨by decide +kernel, by decide +kernel⟩, by decide +kernel⟩
theorem m_X9_doubtful : gMt yX9_doubtful cX9_doubtful 2 (some .int) 1 := ⟨gM 800 (by decide +kernel) rfl, gM 59 (by decide +kernel) rfl, ⟨by decide +kernel, by decide +kernel⟩, by decide +kernel⟩
theorem m_X9_during : gMt yX9_during cX9_during 3 (some .int) 2 := ⟨gM 724 (by decide +kernel) rfl, gM 59 (by decide +kernel) rfl, ⟨by decide +kernel, by decide +kernel⟩, by decide +kernel⟩
theorem m_X9_fault : gMt yX9_fault cX9_fault 2 (some .int) 1 := ⟨gM 896 (by decide +kernel) rfl, gM 59 (by decide +kernel) rfl, ⟨by decide +kernel, by decide +kernel⟩, by decide +kernel⟩
theorem m_X9_give : gMt yX9_give cX9_give 3 (some .int) 2 := ⟨gM 522 (by decide +kernel) rfl, gM 59 (by decide +kernel) rfl, ⟨by decide +kernel, by decide +kernel⟩, by decide +kernel⟩
theorem m_X9_interrupts : gMt yX9_interrupts cX9_interrupts 3 (some .int) 2 := ⟨gM 744 (by decide +kernel) rfl, gM 59 (by decide +kernel) rfl, ⟨by decide +kernel, by decide +kernel⟩, by decide +kernel⟩
theorem m_X9_join : gMt yX9_join cX9_join 3 (some .int) 2 := ⟨gM 551 (by decide +kernel) rfl, gM 59 (by decide +kernel) rfl, ⟨by decide +kernel, by decide +kernel⟩, by decide +kernel⟩
theorem m_X9_nearest : gMt yX9_nearest cX9_nearest 2 (some .int) 1 := ⟨gM 752 (by decide +kernel) rfl, gM 59 (by decide +kernel) rfl, ⟨by decide +kernel, by decide +kernel⟩, by decide +kernel⟩
theorem m_X9_part : gMt yX9_part cX9_part 4 (some .int) 3 := ⟨gM 402 (by decide +kernel) rfl, gM 59 (by decide +kernel) rfl, ⟨by decide +kernel, by decide +kernel⟩, by decide +kernel⟩
theorem m_X9_play : gMt yX9_play cX9_play 1 (some .int) 0 := ⟨gM 961 (by decide +kernel) rfl, gM 59 (by decide +kernel) rfl, ⟨by decide +kernel, by decide +kernel⟩, by decide +kernel⟩
theorem m_X9_remove : gMt yX9_remove cX9_remove 2 (some .int) 1 := ⟨gM 439 (by decide +kernel) rfl, gM 59 (by decide +kernel) rfl, ⟨by decide +kernel, by decide +kernel⟩, by decide +kernel⟩
theorem m_X9_say : gMt yX9_say cX9_say 3 (some .int) 2 := ⟨gM 371 (by decide +kernel) rfl, gM 59 (by decide +kernel) rfl, ⟨by decide +kernel, by decide +kernel⟩, by decide +kernel⟩
theorem m_X9_set : gMt yX9_set cX9_set 3 (some .int) 2 := ⟨gM 569 (by decide +kernel) rfl, gM 59 (by decide +kernel) rfl, ⟨by decide +kernel, by decide +kernel⟩, by decide +kernel⟩
theorem m_X9_silence : gMt yX9_silence cX9_silence 2 (some .int) 1 := ⟨gM 788 (by decide +kernel) rfl, gM 59 (by decide +kernel) rfl, ⟨by decide +kernel, by decide +kernel⟩, by decide +kernel⟩
theorem m_X9_speaker : gMt yX9_speaker cX9_speaker 2 (some .int) 1 := ⟨gM 505 (by decide +kernel) rfl, gM 59 (by decide +kernel) rfl, ⟨by decide +kernel, by decide +kernel⟩, by decide +kernel⟩
theorem m_X9_speakerOf : gMt yX9_speakerOf cX9_speakerOf 3 (some .int) 2 := ⟨gM 680 (by decide +kernel) rfl, gM 59 (by decide +kernel) rfl, ⟨by decide +kernel, by decide +kernel⟩, by decide +kernel⟩
theorem m_X9_termAt : gMt yX9_termAt cX9_termAt 4 (some .int) 3 := ⟨gM 625 (by decide +kernel) rfl, gM 59 (by decide +kernel) rfl, ⟨by decide +kernel, by decide +kernel⟩, by decide +kernel⟩
theorem m_X9_termOf : gMt yX9_termOf cX9_termOf 3 (some .int) 2 := ⟨gM 636 (by decide +kernel) rfl, gM 59 (by decide +kernel) rfl, ⟨by decide +kernel, by decide +kernel⟩, by decide +kernel⟩
theorem m_X9_together : gMt yX9_together cX9_together 2 (some .int) 1 := ⟨gM 772 (by decide +kernel) rfl, gM 59 (by decide +kernel) rfl, ⟨by decide +kernel, by decide +kernel⟩, by decide +kernel⟩
theorem m_X9_turn : gMt yX9_turn cX9_turn 4 (some .int) 3 := ⟨gM 283 (by decide +kernel) rfl, gM 59 (by decide +kernel) rfl, ⟨by decide +kernel, by decide +kernel⟩, by decide +kernel⟩
theorem m_X9_turnOf : gMt yX9_turnOf cX9_turnOf 3 (some .int) 2 := ⟨gM 577 (by decide +kernel) rfl, gM 59 (by decide +kernel) rfl, ⟨by decide +kernel, by decide +kernel⟩, by decide +kernel⟩
theorem m_X9_type : gMt yX9_type cX9_type 2 (some .int) 1 := ⟨gM 872 (by decide +kernel) rfl, gM 59 (by decide +kernel) rfl, ⟨by decide +kernel, by decide +kernel⟩, by decide +kernel⟩
theorem m_X9_uncorrect : gMt yX9_uncorrect cX9_uncorrect 2 (some .int) 1 := ⟨gM 495 (by decide +kernel) rfl, gM 59 (by decide +kernel) rfl, ⟨by decide +kernel, by decide +kernel⟩, by decide +kernel⟩
theorem m_X9_undo : gMt yX9_undo cX9_undo 1 (some .int) 0 := ⟨gM 859 (by decide +kernel) rfl, gM 59 (by decide +kernel) rfl, ⟨by decide +kernel, by decide +kernel⟩, by decide +kernel⟩
theorem m_X9_would : gMt yX9_would cX9_would 3 (some .int) 2 := ⟨gM 762 (by decide +kernel) rfl, gM 59 (by decide +kernel) rfl, ⟨by decide +kernel, by decide +kernel⟩, by decide +kernel⟩
/-- what stands all through the law: the script is read only -/
def gLaw (Γ : gX Unit) (b N : Nat) (xs : Nat → Int32) : Prop := gOk Γ code 4 RL ret 9 316 ∧ va_X b N xs Γ.2.1.2.2.2.2 Γ.2.1.2.2.2.2.heap ∧ b < Γ.2.1.2.2.2.2.heap.size ∧ gH0 Γ.1 = Γ.2.1.2.2.2.2.heap.size ∧ N ≤ 2048
abbrev lL (Γ : gX Unit) (b i : Nat) : List (Option Value) := [some (.ref b), some (.ref (gAd Γ.1 0)), some (.ref (gAd Γ.1 94)), some (.int (nI i))]
def sc (xs : Nat → Int32) (i j : Nat) : Int32 := xs (nI i + nI j).toNatClampNeg
section Law
variable {Γ : gX Unit} {b N i pc : Nat} {xs : Nat → Int32} {L : List (Option Value)} {st : List Value} {σ : gSt} {u : Option Unit} {fu : Nat}
theorem x_scr (g : gLaw Γ b N xs) {q : Int32} (hin : vp_in q N) (hd : decode code pc = .ok (.iaload, 1)) (kk : At Γ (pc + 1) L (.int (xs q.toNatClampNeg) :: st) σ u) : At Γ pc L (.int q :: .ref b :: st) σ u :=
  fun r hr H locs ls hP hS hL => va_sld g.1.1 g.1.2.1 g.2.1 g.2.2.1 (by show ¬ gH0 Γ.1 ≤ b; rw [g.2.2.2.1]; exact Nat.not_le.mpr g.2.2.1) hS hin hd (kk r hr H locs ls hP hS hL)
theorem x_scl (g : gLaw Γ b N xs) (hd : decode code pc = .ok (.arraylength, 1)) (kk : At Γ (pc + 1) L (.int (nI N) :: st) σ u) : At Γ pc L (.ref b :: st) σ u :=
  fun r hr H locs ls hP hS hL => va_slen g.1.1 g.1.2.1 g.2.1 g.2.2.1 (by show ¬ gH0 Γ.1 ≤ b; rw [g.2.2.2.1]; exact Nat.not_le.mpr g.2.2.1) hS hd (kk r hr H locs ls hP hS hL)
theorem sc_in {j : Nat} (hN : N ≤ 2048) (hi : i + 4 ≤ N) (hj : j < 4) : vp_in (nI i + nI j) N := by
  rw [nI_add]
  exact nI_in (by omega) (by omega)
theorem x_arg (g : gLaw Γ b N xs) (hi : i + 4 ≤ N) {j : Nat} (hj : j < 4) {v : Int} (hv : Int32.ofInt v = nI j) (d0 : decode code pc = .ok (.aload_n 0, 1)) (d1 : decode code (pc + 1) = .ok (.iload_n 3, 1)) (d2 : decode code (pc + 2) = .ok (.iconst v, 1)) (d3 : decode code (pc + 3) = .ok (.iadd, 1)) (d4 : decode code (pc + 4) = .ok (.iaload, 1)) (kk : At Γ (pc + 5) (lL Γ b i) (.int (sc xs i j) :: st) σ u) : At Γ pc (lL Γ b i) st σ u := by
  refine x_aload_n g.1 d0 rfl rfl ?_
  refine x_iload_n g.1 d1 rfl rfl ?_
  refine x_iconst (v := nI j) g.1 d2 hv ?_
  refine x_iadd g.1 d3 ?_
  exact x_scr g (sc_in g.2.2.2.2 hi hj) d4 kk
theorem sc_go (hN : N ≤ 2048) (hi : i ≤ 2052) (h : ¬ nI N - nI 4 < nI i) : i + 4 ≤ N := by
  rcases Nat.lt_or_ge N 4 with q | q
  · exfalso
    apply h
    rw [z_lti, nI_toInt (by omega)]
    have e : (nI N - nI 4).toInt < 0 := by
      match N, q with
      | 0, _ => decide
      | 1, _ => decide
      | 2, _ => decide
      | 3, _ => decide
    omega
  · rw [z_sub q, z_lt (by omega) (by omega)] at h
    omega
theorem law_0 (g : gLaw Γ b N xs) (hf : 2000 < fu) (hi : i + 4 ≤ N) (hG : GR σ) (next : ∀ τ, GR τ → At Γ 917 (lL Γ b i) [] τ (some ())) : At Γ 156 (lL Γ b i) [] σ (some ()) := by
  obtain ⟨r, τ, υ, e1, e2, hg⟩ := k_turn (fu := fu) hf hG (sc xs i 1) (sc xs i 2) (sc xs i 3)
  refine x_aload_n g.1 dL_law_156 rfl rfl ?_
  refine x_arg g hi (j := 1) (by decide) (by decide) dL_law_157 dL_law_158 dL_law_159 dL_law_160 dL_law_161 ?_
  refine x_arg g hi (j := 2) (by decide) (by decide) dL_law_162 dL_law_163 dL_law_164 dL_law_165 dL_law_166 ?_
  refine x_arg g hi (j := 3) (by decide) (by decide) dL_law_167 dL_law_168 dL_law_169 dL_law_170 dL_law_171 ?_
  refine x_ViK (av := fun _ => [.int (sc xs i 1), .int (sc xs i 2), .int (sc xs i 3)]) (rest := []) g.1 m_X9_turn i_X9_turn kl_L_13 isO_0 (by decide) rfl (c_X9_turn fu σ 0 (sc xs i 1) (sc xs i 2) (sc xs i 3) isO_0) e1 rfl rfl (gCaM rfl) dL_law_172 ?_
  refine x_aload_n g.1 dL_law_175 rfl rfl ?_
  refine x_arg g hi (j := 1) (by decide) (by decide) dL_law_176 dL_law_177 dL_law_178 dL_law_179 dL_law_180 ?_
  refine x_arg g hi (j := 2) (by decide) (by decide) dL_law_181 dL_law_182 dL_law_183 dL_law_184 dL_law_185 ?_
  refine x_arg g hi (j := 3) (by decide) (by decide) dL_law_186 dL_law_187 dL_law_188 dL_law_189 dL_law_190 ?_
  refine x_ViK (av := fun _ => [.int (sc xs i 1), .int (sc xs i 2), .int (sc xs i 3)]) (rest := [.int r]) g.1 m_X10_turn i_X10_turn kl_L_17 isO_94 (by decide) rfl (c_X10_turn fu τ 94 (sc xs i 1) (sc xs i 2) (sc xs i 3) isO_94) e2 rfl rfl (gCaM rfl) dL_law_191 ?_
  exact j_icmp_eq g.1 dL_law_194 (by decide) (fun _ => next υ hg) (fun z => absurd rfl z)
theorem law_1 (g : gLaw Γ b N xs) (hf : 2000 < fu) (hi : i + 4 ≤ N) (hG : GR σ) (next : ∀ τ, GR τ → At Γ 917 (lL Γ b i) [] τ (some ())) : At Γ 199 (lL Γ b i) [] σ (some ()) := by
  obtain ⟨r, τ, υ, e1, e2, hg⟩ := k_say (fu := fu) hf hG (sc xs i 1) (sc xs i 2)
  refine x_aload_n g.1 dL_law_199 rfl rfl ?_
  refine x_arg g hi (j := 1) (by decide) (by decide) dL_law_200 dL_law_201 dL_law_202 dL_law_203 dL_law_204 ?_
  refine x_arg g hi (j := 2) (by decide) (by decide) dL_law_205 dL_law_206 dL_law_207 dL_law_208 dL_law_209 ?_
  refine x_ViK (av := fun _ => [.int (sc xs i 1), .int (sc xs i 2)]) (rest := []) g.1 m_X9_say i_X9_say kl_L_18 isO_0 (by decide) rfl (c_X9_say fu σ 0 (sc xs i 1) (sc xs i 2) isO_0) e1 rfl rfl (gCaM rfl) dL_law_210 ?_
  refine x_aload_n g.1 dL_law_213 rfl rfl ?_
  refine x_arg g hi (j := 1) (by decide) (by decide) dL_law_214 dL_law_215 dL_law_216 dL_law_217 dL_law_218 ?_
  refine x_arg g hi (j := 2) (by decide) (by decide) dL_law_219 dL_law_220 dL_law_221 dL_law_222 dL_law_223 ?_
  refine x_ViK (av := fun _ => [.int (sc xs i 1), .int (sc xs i 2)]) (rest := [.int r]) g.1 m_X10_say i_X10_say kl_L_22 isO_94 (by decide) rfl (c_X10_say fu τ 94 (sc xs i 1) (sc xs i 2) isO_94) e2 rfl rfl (gCaM rfl) dL_law_224 ?_
  exact j_icmp_eq g.1 dL_law_227 (by decide) (fun _ => next υ hg) (fun z => absurd rfl z)
theorem law_2 (g : gLaw Γ b N xs) (hf : 2000 < fu) (hi : i + 4 ≤ N) (hG : GR σ) (next : ∀ τ, GR τ → At Γ 917 (lL Γ b i) [] τ (some ())) : At Γ 232 (lL Γ b i) [] σ (some ()) := by
  obtain ⟨r, τ, υ, e1, e2, hg⟩ := k_part (fu := fu) hf hG (sc xs i 1) (sc xs i 2) (sc xs i 3)
  refine x_aload_n g.1 dL_law_232 rfl rfl ?_
  refine x_arg g hi (j := 1) (by decide) (by decide) dL_law_233 dL_law_234 dL_law_235 dL_law_236 dL_law_237 ?_
  refine x_arg g hi (j := 2) (by decide) (by decide) dL_law_238 dL_law_239 dL_law_240 dL_law_241 dL_law_242 ?_
  refine x_arg g hi (j := 3) (by decide) (by decide) dL_law_243 dL_law_244 dL_law_245 dL_law_246 dL_law_247 ?_
  refine x_ViK (av := fun _ => [.int (sc xs i 1), .int (sc xs i 2), .int (sc xs i 3)]) (rest := []) g.1 m_X9_part i_X9_part kl_L_23 isO_0 (by decide) rfl (c_X9_part fu σ 0 (sc xs i 1) (sc xs i 2) (sc xs i 3) isO_0) e1 rfl rfl (gCaM rfl) dL_law_248 ?_
  refine x_aload_n g.1 dL_law_251 rfl rfl ?_
  refine x_arg g hi (j := 1) (by decide) (by decide) dL_law_252 dL_law_253 dL_law_254 dL_law_255 dL_law_256 ?_
  refine x_arg g hi (j := 2) (by decide) (by decide) dL_law_257 dL_law_258 dL_law_259 dL_law_260 dL_law_261 ?_
  refine x_arg g hi (j := 3) (by decide) (by decide) dL_law_262 dL_law_263 dL_law_264 dL_law_265 dL_law_266 ?_
  refine x_ViK (av := fun _ => [.int (sc xs i 1), .int (sc xs i 2), .int (sc xs i 3)]) (rest := [.int r]) g.1 m_X10_part i_X10_part kl_L_26 isO_94 (by decide) rfl (c_X10_part fu τ 94 (sc xs i 1) (sc xs i 2) (sc xs i 3) isO_94) e2 rfl rfl (gCaM rfl) dL_law_267 ?_
  exact j_icmp_eq g.1 dL_law_270 (by decide) (fun _ => next υ hg) (fun z => absurd rfl z)
theorem law_3 (g : gLaw Γ b N xs) (hf : 2000 < fu) (hi : i + 4 ≤ N) (hG : GR σ) (next : ∀ τ, GR τ → At Γ 917 (lL Γ b i) [] τ (some ())) : At Γ 275 (lL Γ b i) [] σ (some ()) := by
  obtain ⟨r, τ, υ, e1, e2, hg⟩ := k_remove (fu := fu) hf hG (sc xs i 1)
  refine x_aload_n g.1 dL_law_275 rfl rfl ?_
  refine x_arg g hi (j := 1) (by decide) (by decide) dL_law_276 dL_law_277 dL_law_278 dL_law_279 dL_law_280 ?_
  refine x_ViK (av := fun _ => [.int (sc xs i 1)]) (rest := []) g.1 m_X9_remove i_X9_remove kl_L_27 isO_0 (by decide) rfl (c_X9_remove fu σ 0 (sc xs i 1) isO_0) e1 rfl rfl (gCaM rfl) dL_law_281 ?_
  refine x_aload_n g.1 dL_law_284 rfl rfl ?_
  refine x_arg g hi (j := 1) (by decide) (by decide) dL_law_285 dL_law_286 dL_law_287 dL_law_288 dL_law_289 ?_
  refine x_ViK (av := fun _ => [.int (sc xs i 1)]) (rest := [.int r]) g.1 m_X10_remove i_X10_remove kl_L_31 isO_94 (by decide) rfl (c_X10_remove fu τ 94 (sc xs i 1) isO_94) e2 rfl rfl (gCaM rfl) dL_law_290 ?_
  exact j_icmp_eq g.1 dL_law_293 (by decide) (fun _ => next υ hg) (fun z => absurd rfl z)
theorem law_4 (g : gLaw Γ b N xs) (hf : 2000 < fu) (hi : i + 4 ≤ N) (hG : GR σ) (next : ∀ τ, GR τ → At Γ 917 (lL Γ b i) [] τ (some ())) : At Γ 298 (lL Γ b i) [] σ (some ()) := by
  obtain ⟨r, τ, υ, e1, e2, hg⟩ := k_correct (fu := fu) hf hG (sc xs i 1) (sc xs i 2)
  refine x_aload_n g.1 dL_law_298 rfl rfl ?_
  refine x_arg g hi (j := 1) (by decide) (by decide) dL_law_299 dL_law_300 dL_law_301 dL_law_302 dL_law_303 ?_
  refine x_arg g hi (j := 2) (by decide) (by decide) dL_law_304 dL_law_305 dL_law_306 dL_law_307 dL_law_308 ?_
  refine x_ViK (av := fun _ => [.int (sc xs i 1), .int (sc xs i 2)]) (rest := []) g.1 m_X9_correct i_X9_correct kl_L_32 isO_0 (by decide) rfl (c_X9_correct fu σ 0 (sc xs i 1) (sc xs i 2) isO_0) e1 rfl rfl (gCaM rfl) dL_law_309 ?_
  refine x_aload_n g.1 dL_law_312 rfl rfl ?_
  refine x_arg g hi (j := 1) (by decide) (by decide) dL_law_313 dL_law_314 dL_law_315 dL_law_316 dL_law_317 ?_
  refine x_arg g hi (j := 2) (by decide) (by decide) dL_law_318 dL_law_319 dL_law_320 dL_law_321 dL_law_322 ?_
  refine x_ViK (av := fun _ => [.int (sc xs i 1), .int (sc xs i 2)]) (rest := [.int r]) g.1 m_X10_correct i_X10_correct kl_L_35 isO_94 (by decide) rfl (c_X10_correct fu τ 94 (sc xs i 1) (sc xs i 2) isO_94) e2 rfl rfl (gCaM rfl) dL_law_323 ?_
  exact j_icmp_eq g.1 dL_law_326 (by decide) (fun _ => next υ hg) (fun z => absurd rfl z)
theorem law_5 (g : gLaw Γ b N xs) (hf : 2000 < fu) (hi : i + 4 ≤ N) (hG : GR σ) (next : ∀ τ, GR τ → At Γ 917 (lL Γ b i) [] τ (some ())) : At Γ 331 (lL Γ b i) [] σ (some ()) := by
  obtain ⟨r, τ, υ, e1, e2, hg⟩ := k_uncorrect (fu := fu) hf hG (sc xs i 1)
  refine x_aload_n g.1 dL_law_331 rfl rfl ?_
  refine x_arg g hi (j := 1) (by decide) (by decide) dL_law_332 dL_law_333 dL_law_334 dL_law_335 dL_law_336 ?_
  refine x_ViK (av := fun _ => [.int (sc xs i 1)]) (rest := []) g.1 m_X9_uncorrect i_X9_uncorrect kl_L_36 isO_0 (by decide) rfl (c_X9_uncorrect fu σ 0 (sc xs i 1) isO_0) e1 rfl rfl (gCaM rfl) dL_law_337 ?_
  refine x_aload_n g.1 dL_law_340 rfl rfl ?_
  refine x_arg g hi (j := 1) (by decide) (by decide) dL_law_341 dL_law_342 dL_law_343 dL_law_344 dL_law_345 ?_
  refine x_ViK (av := fun _ => [.int (sc xs i 1)]) (rest := [.int r]) g.1 m_X10_uncorrect i_X10_uncorrect kl_L_39 isO_94 (by decide) rfl (c_X10_uncorrect fu τ 94 (sc xs i 1) isO_94) e2 rfl rfl (gCaM rfl) dL_law_346 ?_
  exact j_icmp_eq g.1 dL_law_349 (by decide) (fun _ => next υ hg) (fun z => absurd rfl z)
theorem law_6 (g : gLaw Γ b N xs) (hf : 2000 < fu) (hi : i + 4 ≤ N) (hG : GR σ) (next : ∀ τ, GR τ → At Γ 917 (lL Γ b i) [] τ (some ())) : At Γ 354 (lL Γ b i) [] σ (some ()) := by
  obtain ⟨r, τ, υ, e1, e2, hg⟩ := k_speaker (fu := fu) hf hG (sc xs i 1)
  refine x_aload_n g.1 dL_law_354 rfl rfl ?_
  refine x_arg g hi (j := 1) (by decide) (by decide) dL_law_355 dL_law_356 dL_law_357 dL_law_358 dL_law_359 ?_
  refine x_ViK (av := fun _ => [.int (sc xs i 1)]) (rest := []) g.1 m_X9_speaker i_X9_speaker kl_L_40 isO_0 (by decide) rfl (c_X9_speaker fu σ 0 (sc xs i 1) isO_0) e1 rfl rfl (gCaM rfl) dL_law_360 ?_
  refine x_aload_n g.1 dL_law_363 rfl rfl ?_
  refine x_arg g hi (j := 1) (by decide) (by decide) dL_law_364 dL_law_365 dL_law_366 dL_law_367 dL_law_368 ?_
  refine x_ViK (av := fun _ => [.int (sc xs i 1)]) (rest := [.int r]) g.1 m_X10_speaker i_X10_speaker kl_L_43 isO_94 (by decide) rfl (c_X10_speaker fu τ 94 (sc xs i 1) isO_94) e2 rfl rfl (gCaM rfl) dL_law_369 ?_
  exact j_icmp_eq g.1 dL_law_372 (by decide) (fun _ => next υ hg) (fun z => absurd rfl z)
theorem law_7 (g : gLaw Γ b N xs) (hf : 2000 < fu) (hi : i + 4 ≤ N) (hG : GR σ) (next : ∀ τ, GR τ → At Γ 917 (lL Γ b i) [] τ (some ())) : At Γ 377 (lL Γ b i) [] σ (some ()) := by
  obtain ⟨r, τ, υ, e1, e2, hg⟩ := k_give (fu := fu) hf hG (sc xs i 1) (sc xs i 2)
  refine x_aload_n g.1 dL_law_377 rfl rfl ?_
  refine x_arg g hi (j := 1) (by decide) (by decide) dL_law_378 dL_law_379 dL_law_380 dL_law_381 dL_law_382 ?_
  refine x_arg g hi (j := 2) (by decide) (by decide) dL_law_383 dL_law_384 dL_law_385 dL_law_386 dL_law_387 ?_
  refine x_ViK (av := fun _ => [.int (sc xs i 1), .int (sc xs i 2)]) (rest := []) g.1 m_X9_give i_X9_give kl_L_44 isO_0 (by decide) rfl (c_X9_give fu σ 0 (sc xs i 1) (sc xs i 2) isO_0) e1 rfl rfl (gCaM rfl) dL_law_388 ?_
  refine x_aload_n g.1 dL_law_391 rfl rfl ?_
  refine x_arg g hi (j := 1) (by decide) (by decide) dL_law_392 dL_law_393 dL_law_394 dL_law_395 dL_law_396 ?_
  refine x_arg g hi (j := 2) (by decide) (by decide) dL_law_397 dL_law_398 dL_law_399 dL_law_400 dL_law_401 ?_
  refine x_ViK (av := fun _ => [.int (sc xs i 1), .int (sc xs i 2)]) (rest := [.int r]) g.1 m_X10_give i_X10_give kl_L_47 isO_94 (by decide) rfl (c_X10_give fu τ 94 (sc xs i 1) (sc xs i 2) isO_94) e2 rfl rfl (gCaM rfl) dL_law_402 ?_
  exact j_icmp_eq g.1 dL_law_405 (by decide) (fun _ => next υ hg) (fun z => absurd rfl z)
theorem law_8 (g : gLaw Γ b N xs) (hf : 2000 < fu) (hi : i + 4 ≤ N) (hG : GR σ) (next : ∀ τ, GR τ → At Γ 917 (lL Γ b i) [] τ (some ())) : At Γ 410 (lL Γ b i) [] σ (some ()) := by
  obtain ⟨r, τ, υ, e1, e2, hg⟩ := k_join (fu := fu) hf hG (sc xs i 1) (sc xs i 2)
  refine x_aload_n g.1 dL_law_410 rfl rfl ?_
  refine x_arg g hi (j := 1) (by decide) (by decide) dL_law_411 dL_law_412 dL_law_413 dL_law_414 dL_law_415 ?_
  refine x_arg g hi (j := 2) (by decide) (by decide) dL_law_416 dL_law_417 dL_law_418 dL_law_419 dL_law_420 ?_
  refine x_ViK (av := fun _ => [.int (sc xs i 1), .int (sc xs i 2)]) (rest := []) g.1 m_X9_join i_X9_join kl_L_48 isO_0 (by decide) rfl (c_X9_join fu σ 0 (sc xs i 1) (sc xs i 2) isO_0) e1 rfl rfl (gCaM rfl) dL_law_421 ?_
  refine x_aload_n g.1 dL_law_424 rfl rfl ?_
  refine x_arg g hi (j := 1) (by decide) (by decide) dL_law_425 dL_law_426 dL_law_427 dL_law_428 dL_law_429 ?_
  refine x_arg g hi (j := 2) (by decide) (by decide) dL_law_430 dL_law_431 dL_law_432 dL_law_433 dL_law_434 ?_
  refine x_ViK (av := fun _ => [.int (sc xs i 1), .int (sc xs i 2)]) (rest := [.int r]) g.1 m_X10_join i_X10_join kl_L_51 isO_94 (by decide) rfl (c_X10_join fu τ 94 (sc xs i 1) (sc xs i 2) isO_94) e2 rfl rfl (gCaM rfl) dL_law_435 ?_
  exact j_icmp_eq g.1 dL_law_438 (by decide) (fun _ => next υ hg) (fun z => absurd rfl z)
theorem law_9 (g : gLaw Γ b N xs) (hf : 2000 < fu) (hi : i + 4 ≤ N) (hG : GR σ) (next : ∀ τ, GR τ → At Γ 917 (lL Γ b i) [] τ (some ())) : At Γ 443 (lL Γ b i) [] σ (some ()) := by
  obtain ⟨r, τ, υ, e1, e2, hg⟩ := k_set (fu := fu) hf hG (sc xs i 1) (sc xs i 2)
  refine x_aload_n g.1 dL_law_443 rfl rfl ?_
  refine x_arg g hi (j := 1) (by decide) (by decide) dL_law_444 dL_law_445 dL_law_446 dL_law_447 dL_law_448 ?_
  refine x_arg g hi (j := 2) (by decide) (by decide) dL_law_449 dL_law_450 dL_law_451 dL_law_452 dL_law_453 ?_
  refine x_ViK (av := fun _ => [.int (sc xs i 1), .int (sc xs i 2)]) (rest := []) g.1 m_X9_set i_X9_set kl_L_52 isO_0 (by decide) rfl (c_X9_set fu σ 0 (sc xs i 1) (sc xs i 2) isO_0) e1 rfl rfl (gCaM rfl) dL_law_454 ?_
  refine x_aload_n g.1 dL_law_457 rfl rfl ?_
  refine x_arg g hi (j := 1) (by decide) (by decide) dL_law_458 dL_law_459 dL_law_460 dL_law_461 dL_law_462 ?_
  refine x_arg g hi (j := 2) (by decide) (by decide) dL_law_463 dL_law_464 dL_law_465 dL_law_466 dL_law_467 ?_
  refine x_ViK (av := fun _ => [.int (sc xs i 1), .int (sc xs i 2)]) (rest := [.int r]) g.1 m_X10_set i_X10_set kl_L_55 isO_94 (by decide) rfl (c_X10_set fu τ 94 (sc xs i 1) (sc xs i 2) isO_94) e2 rfl rfl (gCaM rfl) dL_law_468 ?_
  exact j_icmp_eq g.1 dL_law_471 (by decide) (fun _ => next υ hg) (fun z => absurd rfl z)
theorem law_10 (g : gLaw Γ b N xs) (hf : 2000 < fu) (hi : i + 4 ≤ N) (hG : GR σ) (next : ∀ τ, GR τ → At Γ 917 (lL Γ b i) [] τ (some ())) : At Γ 476 (lL Γ b i) [] σ (some ()) := by
  obtain ⟨r, e1, e2⟩ := k_turnOf (fu := fu) hf hG (sc xs i 1) (sc xs i 2)
  refine x_aload_n g.1 dL_law_476 rfl rfl ?_
  refine x_arg g hi (j := 1) (by decide) (by decide) dL_law_477 dL_law_478 dL_law_479 dL_law_480 dL_law_481 ?_
  refine x_arg g hi (j := 2) (by decide) (by decide) dL_law_482 dL_law_483 dL_law_484 dL_law_485 dL_law_486 ?_
  refine x_VpK (av := fun _ => [.int (sc xs i 1), .int (sc xs i 2)]) (rest := []) g.1 m_X9_turnOf i_X9_turnOf kl_L_56 isO_0 (by decide) rfl (c_X9_turnOf fu σ 0 (sc xs i 1) (sc xs i 2) isO_0) e1 rfl rfl (gCaM rfl) dL_law_487 ?_
  refine x_aload_n g.1 dL_law_490 rfl rfl ?_
  refine x_arg g hi (j := 1) (by decide) (by decide) dL_law_491 dL_law_492 dL_law_493 dL_law_494 dL_law_495 ?_
  refine x_arg g hi (j := 2) (by decide) (by decide) dL_law_496 dL_law_497 dL_law_498 dL_law_499 dL_law_500 ?_
  refine x_VpK (av := fun _ => [.int (sc xs i 1), .int (sc xs i 2)]) (rest := [.int r]) g.1 m_X10_turnOf i_X10_turnOf kl_L_59 isO_94 (by decide) rfl (c_X10_turnOf fu σ 94 (sc xs i 1) (sc xs i 2) isO_94) e2 rfl rfl (gCaM rfl) dL_law_501 ?_
  exact j_icmp_eq g.1 dL_law_504 (by decide) (fun _ => next σ hG) (fun z => absurd rfl z)
theorem law_11 (g : gLaw Γ b N xs) (hf : 2000 < fu) (hi : i + 4 ≤ N) (hG : GR σ) (next : ∀ τ, GR τ → At Γ 917 (lL Γ b i) [] τ (some ())) : At Γ 509 (lL Γ b i) [] σ (some ()) := by
  obtain ⟨r, e1, e2⟩ := k_termAt (fu := fu) hf hG (sc xs i 1) (sc xs i 2) (sc xs i 3)
  refine x_aload_n g.1 dL_law_509 rfl rfl ?_
  refine x_arg g hi (j := 1) (by decide) (by decide) dL_law_510 dL_law_511 dL_law_512 dL_law_513 dL_law_514 ?_
  refine x_arg g hi (j := 2) (by decide) (by decide) dL_law_515 dL_law_516 dL_law_517 dL_law_518 dL_law_519 ?_
  refine x_arg g hi (j := 3) (by decide) (by decide) dL_law_520 dL_law_521 dL_law_522 dL_law_523 dL_law_524 ?_
  refine x_VpK (av := fun _ => [.int (sc xs i 1), .int (sc xs i 2), .int (sc xs i 3)]) (rest := []) g.1 m_X9_termAt i_X9_termAt kl_L_60 isO_0 (by decide) rfl (c_X9_termAt fu σ 0 (sc xs i 1) (sc xs i 2) (sc xs i 3) isO_0) e1 rfl rfl (gCaM rfl) dL_law_525 ?_
  refine x_aload_n g.1 dL_law_528 rfl rfl ?_
  refine x_arg g hi (j := 1) (by decide) (by decide) dL_law_529 dL_law_530 dL_law_531 dL_law_532 dL_law_533 ?_
  refine x_arg g hi (j := 2) (by decide) (by decide) dL_law_534 dL_law_535 dL_law_536 dL_law_537 dL_law_538 ?_
  refine x_arg g hi (j := 3) (by decide) (by decide) dL_law_539 dL_law_540 dL_law_541 dL_law_542 dL_law_543 ?_
  refine x_VpK (av := fun _ => [.int (sc xs i 1), .int (sc xs i 2), .int (sc xs i 3)]) (rest := [.int r]) g.1 m_X10_termAt i_X10_termAt kl_L_63 isO_94 (by decide) rfl (c_X10_termAt fu σ 94 (sc xs i 1) (sc xs i 2) (sc xs i 3) isO_94) e2 rfl rfl (gCaM rfl) dL_law_544 ?_
  exact j_icmp_eq g.1 dL_law_547 (by decide) (fun _ => next σ hG) (fun z => absurd rfl z)
theorem law_12 (g : gLaw Γ b N xs) (hf : 2000 < fu) (hi : i + 4 ≤ N) (hG : GR σ) (next : ∀ τ, GR τ → At Γ 917 (lL Γ b i) [] τ (some ())) : At Γ 552 (lL Γ b i) [] σ (some ()) := by
  obtain ⟨r, e1, e2⟩ := k_termOf (fu := fu) hf hG (sc xs i 1) (sc xs i 2)
  refine x_aload_n g.1 dL_law_552 rfl rfl ?_
  refine x_arg g hi (j := 1) (by decide) (by decide) dL_law_553 dL_law_554 dL_law_555 dL_law_556 dL_law_557 ?_
  refine x_arg g hi (j := 2) (by decide) (by decide) dL_law_558 dL_law_559 dL_law_560 dL_law_561 dL_law_562 ?_
  refine x_VpK (av := fun _ => [.int (sc xs i 1), .int (sc xs i 2)]) (rest := []) g.1 m_X9_termOf i_X9_termOf kl_L_64 isO_0 (by decide) rfl (c_X9_termOf fu σ 0 (sc xs i 1) (sc xs i 2) isO_0) e1 rfl rfl (gCaM rfl) dL_law_563 ?_
  refine x_aload_n g.1 dL_law_566 rfl rfl ?_
  refine x_arg g hi (j := 1) (by decide) (by decide) dL_law_567 dL_law_568 dL_law_569 dL_law_570 dL_law_571 ?_
  refine x_arg g hi (j := 2) (by decide) (by decide) dL_law_572 dL_law_573 dL_law_574 dL_law_575 dL_law_576 ?_
  refine x_VpK (av := fun _ => [.int (sc xs i 1), .int (sc xs i 2)]) (rest := [.int r]) g.1 m_X10_termOf i_X10_termOf kl_L_67 isO_94 (by decide) rfl (c_X10_termOf fu σ 94 (sc xs i 1) (sc xs i 2) isO_94) e2 rfl rfl (gCaM rfl) dL_law_577 ?_
  exact j_icmp_eq g.1 dL_law_580 (by decide) (fun _ => next σ hG) (fun z => absurd rfl z)
theorem law_13 (g : gLaw Γ b N xs) (hf : 2000 < fu) (hi : i + 4 ≤ N) (hG : GR σ) (next : ∀ τ, GR τ → At Γ 917 (lL Γ b i) [] τ (some ())) : At Γ 585 (lL Γ b i) [] σ (some ()) := by
  obtain ⟨r, e1, e2⟩ := k_speakerOf (fu := fu) hf hG (sc xs i 1) (sc xs i 2)
  refine x_aload_n g.1 dL_law_585 rfl rfl ?_
  refine x_arg g hi (j := 1) (by decide) (by decide) dL_law_586 dL_law_587 dL_law_588 dL_law_589 dL_law_590 ?_
  refine x_arg g hi (j := 2) (by decide) (by decide) dL_law_591 dL_law_592 dL_law_593 dL_law_594 dL_law_595 ?_
  refine x_VpK (av := fun _ => [.int (sc xs i 1), .int (sc xs i 2)]) (rest := []) g.1 m_X9_speakerOf i_X9_speakerOf kl_L_68 isO_0 (by decide) rfl (c_X9_speakerOf fu σ 0 (sc xs i 1) (sc xs i 2) isO_0) e1 rfl rfl (gCaM rfl) dL_law_596 ?_
  refine x_aload_n g.1 dL_law_599 rfl rfl ?_
  refine x_arg g hi (j := 1) (by decide) (by decide) dL_law_600 dL_law_601 dL_law_602 dL_law_603 dL_law_604 ?_
  refine x_arg g hi (j := 2) (by decide) (by decide) dL_law_605 dL_law_606 dL_law_607 dL_law_608 dL_law_609 ?_
  refine x_VpK (av := fun _ => [.int (sc xs i 1), .int (sc xs i 2)]) (rest := [.int r]) g.1 m_X10_speakerOf i_X10_speakerOf kl_L_71 isO_94 (by decide) rfl (c_X10_speakerOf fu σ 94 (sc xs i 1) (sc xs i 2) isO_94) e2 rfl rfl (gCaM rfl) dL_law_610 ?_
  exact j_icmp_eq g.1 dL_law_613 (by decide) (fun _ => next σ hG) (fun z => absurd rfl z)
theorem law_14 (g : gLaw Γ b N xs) (hf : 2000 < fu) (hi : i + 4 ≤ N) (hG : GR σ) (next : ∀ τ, GR τ → At Γ 917 (lL Γ b i) [] τ (some ())) : At Γ 618 (lL Γ b i) [] σ (some ()) := by
  obtain ⟨r, e1, e2⟩ := k_during (fu := fu) hf hG (sc xs i 1) (sc xs i 2)
  refine x_aload_n g.1 dL_law_618 rfl rfl ?_
  refine x_arg g hi (j := 1) (by decide) (by decide) dL_law_619 dL_law_620 dL_law_621 dL_law_622 dL_law_623 ?_
  refine x_arg g hi (j := 2) (by decide) (by decide) dL_law_624 dL_law_625 dL_law_626 dL_law_627 dL_law_628 ?_
  refine x_VpK (av := fun _ => [.int (sc xs i 1), .int (sc xs i 2)]) (rest := []) g.1 m_X9_during i_X9_during kl_L_72 isO_0 (by decide) rfl (c_X9_during fu σ 0 (sc xs i 1) (sc xs i 2) isO_0) e1 rfl rfl (gCaM rfl) dL_law_629 ?_
  refine x_aload_n g.1 dL_law_632 rfl rfl ?_
  refine x_arg g hi (j := 1) (by decide) (by decide) dL_law_633 dL_law_634 dL_law_635 dL_law_636 dL_law_637 ?_
  refine x_arg g hi (j := 2) (by decide) (by decide) dL_law_638 dL_law_639 dL_law_640 dL_law_641 dL_law_642 ?_
  refine x_VpK (av := fun _ => [.int (sc xs i 1), .int (sc xs i 2)]) (rest := [.int r]) g.1 m_X10_during i_X10_during kl_L_75 isO_94 (by decide) rfl (c_X10_during fu σ 94 (sc xs i 1) (sc xs i 2) isO_94) e2 rfl rfl (gCaM rfl) dL_law_643 ?_
  exact j_icmp_eq g.1 dL_law_646 (by decide) (fun _ => next σ hG) (fun z => absurd rfl z)
theorem law_15 (g : gLaw Γ b N xs) (hf : 2000 < fu) (hi : i + 4 ≤ N) (hG : GR σ) (next : ∀ τ, GR τ → At Γ 917 (lL Γ b i) [] τ (some ())) : At Γ 651 (lL Γ b i) [] σ (some ()) := by
  obtain ⟨r, e1, e2⟩ := k_interrupts (fu := fu) hf hG (sc xs i 1) (sc xs i 2)
  refine x_aload_n g.1 dL_law_651 rfl rfl ?_
  refine x_arg g hi (j := 1) (by decide) (by decide) dL_law_652 dL_law_653 dL_law_654 dL_law_655 dL_law_656 ?_
  refine x_arg g hi (j := 2) (by decide) (by decide) dL_law_657 dL_law_658 dL_law_659 dL_law_660 dL_law_661 ?_
  refine x_VpK (av := fun _ => [.int (sc xs i 1), .int (sc xs i 2)]) (rest := []) g.1 m_X9_interrupts i_X9_interrupts kl_L_76 isO_0 (by decide) rfl (c_X9_interrupts fu σ 0 (sc xs i 1) (sc xs i 2) isO_0) e1 rfl rfl (gCaM rfl) dL_law_662 ?_
  refine x_aload_n g.1 dL_law_665 rfl rfl ?_
  refine x_arg g hi (j := 1) (by decide) (by decide) dL_law_666 dL_law_667 dL_law_668 dL_law_669 dL_law_670 ?_
  refine x_arg g hi (j := 2) (by decide) (by decide) dL_law_671 dL_law_672 dL_law_673 dL_law_674 dL_law_675 ?_
  refine x_VpK (av := fun _ => [.int (sc xs i 1), .int (sc xs i 2)]) (rest := [.int r]) g.1 m_X10_interrupts i_X10_interrupts kl_L_79 isO_94 (by decide) rfl (c_X10_interrupts fu σ 94 (sc xs i 1) (sc xs i 2) isO_94) e2 rfl rfl (gCaM rfl) dL_law_676 ?_
  exact j_icmp_eq g.1 dL_law_679 (by decide) (fun _ => next σ hG) (fun z => absurd rfl z)
theorem law_16 (g : gLaw Γ b N xs) (hf : 2000 < fu) (hi : i + 4 ≤ N) (hG : GR σ) (next : ∀ τ, GR τ → At Γ 917 (lL Γ b i) [] τ (some ())) : At Γ 684 (lL Γ b i) [] σ (some ()) := by
  obtain ⟨r, e1, e2⟩ := k_nearest (fu := fu) hf hG (sc xs i 1)
  refine x_aload_n g.1 dL_law_684 rfl rfl ?_
  refine x_arg g hi (j := 1) (by decide) (by decide) dL_law_685 dL_law_686 dL_law_687 dL_law_688 dL_law_689 ?_
  refine x_VpK (av := fun _ => [.int (sc xs i 1)]) (rest := []) g.1 m_X9_nearest i_X9_nearest kl_L_80 isO_0 (by decide) rfl (c_X9_nearest fu σ 0 (sc xs i 1) isO_0) e1 rfl rfl (gCaM rfl) dL_law_690 ?_
  refine x_aload_n g.1 dL_law_693 rfl rfl ?_
  refine x_arg g hi (j := 1) (by decide) (by decide) dL_law_694 dL_law_695 dL_law_696 dL_law_697 dL_law_698 ?_
  refine x_VpK (av := fun _ => [.int (sc xs i 1)]) (rest := [.int r]) g.1 m_X10_nearest i_X10_nearest kl_L_83 isO_94 (by decide) rfl (c_X10_nearest fu σ 94 (sc xs i 1) isO_94) e2 rfl rfl (gCaM rfl) dL_law_699 ?_
  exact j_icmp_eq g.1 dL_law_702 (by decide) (fun _ => next σ hG) (fun z => absurd rfl z)
theorem law_17 (g : gLaw Γ b N xs) (hf : 2000 < fu) (hi : i + 4 ≤ N) (hG : GR σ) (next : ∀ τ, GR τ → At Γ 917 (lL Γ b i) [] τ (some ())) : At Γ 707 (lL Γ b i) [] σ (some ()) := by
  obtain ⟨r, υ, e1, e2, hg⟩ := k_would (fu := fu) hf hG (sc xs i 1) (sc xs i 2)
  refine x_aload_n g.1 dL_law_707 rfl rfl ?_
  refine x_arg g hi (j := 1) (by decide) (by decide) dL_law_708 dL_law_709 dL_law_710 dL_law_711 dL_law_712 ?_
  refine x_arg g hi (j := 2) (by decide) (by decide) dL_law_713 dL_law_714 dL_law_715 dL_law_716 dL_law_717 ?_
  refine x_VpK (av := fun _ => [.int (sc xs i 1), .int (sc xs i 2)]) (rest := []) g.1 m_X9_would i_X9_would kl_L_84 isO_0 (by decide) rfl (c_X9_would fu σ 0 (sc xs i 1) (sc xs i 2) isO_0) e1 rfl rfl (gCaM rfl) dL_law_718 ?_
  refine x_aload_n g.1 dL_law_721 rfl rfl ?_
  refine x_arg g hi (j := 1) (by decide) (by decide) dL_law_722 dL_law_723 dL_law_724 dL_law_725 dL_law_726 ?_
  refine x_arg g hi (j := 2) (by decide) (by decide) dL_law_727 dL_law_728 dL_law_729 dL_law_730 dL_law_731 ?_
  refine x_ViK (av := fun _ => [.int (sc xs i 1), .int (sc xs i 2)]) (rest := [.int r]) g.1 m_X10_would i_X10_would kl_L_87 isO_94 (by decide) rfl (c_X10_would fu σ 94 (sc xs i 1) (sc xs i 2) isO_94) e2 rfl rfl (gCaM rfl) dL_law_732 ?_
  exact j_icmp_eq g.1 dL_law_735 (by decide) (fun _ => next υ hg) (fun z => absurd rfl z)
theorem law_18 (g : gLaw Γ b N xs) (hf : 2000 < fu) (hi : i + 4 ≤ N) (hG : GR σ) (next : ∀ τ, GR τ → At Γ 917 (lL Γ b i) [] τ (some ())) : At Γ 740 (lL Γ b i) [] σ (some ()) := by
  obtain ⟨r, τ, e1, e2, hg⟩ := k_together (fu := fu) hf hG (sc xs i 1)
  refine x_aload_n g.1 dL_law_740 rfl rfl ?_
  refine x_arg g hi (j := 1) (by decide) (by decide) dL_law_741 dL_law_742 dL_law_743 dL_law_744 dL_law_745 ?_
  refine x_ViK (av := fun _ => [.int (sc xs i 1)]) (rest := []) g.1 m_X9_together i_X9_together kl_L_88 isO_0 (by decide) rfl (c_X9_together fu σ 0 (sc xs i 1) isO_0) e1 rfl rfl (gCaM rfl) dL_law_746 ?_
  refine x_aload_n g.1 dL_law_749 rfl rfl ?_
  refine x_arg g hi (j := 1) (by decide) (by decide) dL_law_750 dL_law_751 dL_law_752 dL_law_753 dL_law_754 ?_
  refine x_VpK (av := fun _ => [.int (sc xs i 1)]) (rest := [.int r]) g.1 m_X10_together i_X10_together kl_L_91 isO_94 (by decide) rfl (c_X10_together fu τ 94 (sc xs i 1) isO_94) e2 rfl rfl (gCaM rfl) dL_law_755 ?_
  exact j_icmp_eq g.1 dL_law_758 (by decide) (fun _ => next τ hg) (fun z => absurd rfl z)
theorem law_19 (g : gLaw Γ b N xs) (hf : 2000 < fu) (hi : i + 4 ≤ N) (hG : GR σ) (next : ∀ τ, GR τ → At Γ 917 (lL Γ b i) [] τ (some ())) : At Γ 763 (lL Γ b i) [] σ (some ()) := by
  obtain ⟨r, e1, e2⟩ := k_silence (fu := fu) hf hG (sc xs i 1)
  refine x_aload_n g.1 dL_law_763 rfl rfl ?_
  refine x_arg g hi (j := 1) (by decide) (by decide) dL_law_764 dL_law_765 dL_law_766 dL_law_767 dL_law_768 ?_
  refine x_VpK (av := fun _ => [.int (sc xs i 1)]) (rest := []) g.1 m_X9_silence i_X9_silence kl_L_92 isO_0 (by decide) rfl (c_X9_silence fu σ 0 (sc xs i 1) isO_0) e1 rfl rfl (gCaM rfl) dL_law_769 ?_
  refine x_aload_n g.1 dL_law_772 rfl rfl ?_
  refine x_arg g hi (j := 1) (by decide) (by decide) dL_law_773 dL_law_774 dL_law_775 dL_law_776 dL_law_777 ?_
  refine x_VpK (av := fun _ => [.int (sc xs i 1)]) (rest := [.int r]) g.1 m_X10_silence i_X10_silence kl_L_95 isO_94 (by decide) rfl (c_X10_silence fu σ 94 (sc xs i 1) isO_94) e2 rfl rfl (gCaM rfl) dL_law_778 ?_
  exact j_icmp_eq g.1 dL_law_781 (by decide) (fun _ => next σ hG) (fun z => absurd rfl z)
theorem law_20 (g : gLaw Γ b N xs) (hf : 2000 < fu) (hi : i + 4 ≤ N) (hG : GR σ) (next : ∀ τ, GR τ → At Γ 917 (lL Γ b i) [] τ (some ())) : At Γ 786 (lL Γ b i) [] σ (some ()) := by
  obtain ⟨r, e1, e2⟩ := k_doubtful (fu := fu) hf hG (sc xs i 1)
  refine x_aload_n g.1 dL_law_786 rfl rfl ?_
  refine x_arg g hi (j := 1) (by decide) (by decide) dL_law_787 dL_law_788 dL_law_789 dL_law_790 dL_law_791 ?_
  refine x_VpK (av := fun _ => [.int (sc xs i 1)]) (rest := []) g.1 m_X9_doubtful i_X9_doubtful kl_L_96 isO_0 (by decide) rfl (c_X9_doubtful fu σ 0 (sc xs i 1) isO_0) e1 rfl rfl (gCaM rfl) dL_law_792 ?_
  refine x_aload_n g.1 dL_law_795 rfl rfl ?_
  refine x_arg g hi (j := 1) (by decide) (by decide) dL_law_796 dL_law_797 dL_law_798 dL_law_799 dL_law_800 ?_
  refine x_VpK (av := fun _ => [.int (sc xs i 1)]) (rest := [.int r]) g.1 m_X10_doubtful i_X10_doubtful kl_L_99 isO_94 (by decide) rfl (c_X10_doubtful fu σ 94 (sc xs i 1) isO_94) e2 rfl rfl (gCaM rfl) dL_law_801 ?_
  exact j_icmp_eq g.1 dL_law_804 (by decide) (fun _ => next σ hG) (fun z => absurd rfl z)
theorem law_21 (g : gLaw Γ b N xs) (hf : 2000 < fu) (hi : i + 4 ≤ N) (hG : GR σ) (next : ∀ τ, GR τ → At Γ 917 (lL Γ b i) [] τ (some ())) : At Γ 809 (lL Γ b i) [] σ (some ()) := by
  obtain ⟨r, e1, e2⟩ := k_count (fu := fu) hf hG (sc xs i 1)
  refine x_aload_n g.1 dL_law_809 rfl rfl ?_
  refine x_arg g hi (j := 1) (by decide) (by decide) dL_law_810 dL_law_811 dL_law_812 dL_law_813 dL_law_814 ?_
  refine x_VpK (av := fun _ => [.int (sc xs i 1)]) (rest := []) g.1 m_X9_count i_X9_count kl_L_100 isO_0 (by decide) rfl (c_X9_count fu σ 0 (sc xs i 1) isO_0) e1 rfl rfl (gCaM rfl) dL_law_815 ?_
  refine x_aload_n g.1 dL_law_818 rfl rfl ?_
  refine x_arg g hi (j := 1) (by decide) (by decide) dL_law_819 dL_law_820 dL_law_821 dL_law_822 dL_law_823 ?_
  refine x_VpK (av := fun _ => [.int (sc xs i 1)]) (rest := [.int r]) g.1 m_X10_count i_X10_count kl_L_103 isO_94 (by decide) rfl (c_X10_count fu σ 94 (sc xs i 1) isO_94) e2 rfl rfl (gCaM rfl) dL_law_824 ?_
  exact j_icmp_eq g.1 dL_law_827 (by decide) (fun _ => next σ hG) (fun z => absurd rfl z)
theorem law_22 (g : gLaw Γ b N xs) (hf : 2000 < fu) (hi : i + 4 ≤ N) (hG : GR σ) (next : ∀ τ, GR τ → At Γ 917 (lL Γ b i) [] τ (some ())) : At Γ 832 (lL Γ b i) [] σ (some ()) := by
  obtain ⟨r, τ, υ, e1, e2, hg⟩ := k_undo (fu := fu) hf hG
  refine x_aload_n g.1 dL_law_832 rfl rfl ?_
  refine x_ViK (av := fun _ => []) (rest := []) g.1 m_X9_undo i_X9_undo kl_L_104 isO_0 (by decide) rfl (c_X9_undo fu σ 0 isO_0) e1 rfl rfl (gCaM rfl) dL_law_833 ?_
  refine x_aload_n g.1 dL_law_836 rfl rfl ?_
  refine x_ViK (av := fun _ => []) (rest := [.int r]) g.1 m_X10_undo i_X10_undo kl_L_108 isO_94 (by decide) rfl (c_X10_undo fu τ 94 isO_94) e2 rfl rfl (gCaM rfl) dL_law_837 ?_
  exact j_icmp_eq g.1 dL_law_840 (by decide) (fun _ => next υ hg) (fun z => absurd rfl z)
theorem law_23 (g : gLaw Γ b N xs) (hf : 2000 < fu) (hi : i + 4 ≤ N) (hG : GR σ) (next : ∀ τ, GR τ → At Γ 917 (lL Γ b i) [] τ (some ())) : At Γ 845 (lL Γ b i) [] σ (some ()) := by
  obtain ⟨r, τ, υ, e1, e2, hg⟩ := k_type (fu := fu) hG (sc xs i 1)
  refine x_aload_n g.1 dL_law_845 rfl rfl ?_
  refine x_arg g hi (j := 1) (by decide) (by decide) dL_law_846 dL_law_847 dL_law_848 dL_law_849 dL_law_850 ?_
  refine x_ViK (av := fun _ => [.int (sc xs i 1)]) (rest := []) g.1 m_X9_type i_X9_type kl_L_109 isO_0 (by decide) rfl (c_X9_type fu σ 0 (sc xs i 1) isO_0) e1 rfl rfl (gCaM rfl) dL_law_851 ?_
  refine x_aload_n g.1 dL_law_854 rfl rfl ?_
  refine x_arg g hi (j := 1) (by decide) (by decide) dL_law_855 dL_law_856 dL_law_857 dL_law_858 dL_law_859 ?_
  refine x_ViK (av := fun _ => [.int (sc xs i 1)]) (rest := [.int r]) g.1 m_X10_type i_X10_type kl_L_112 isO_94 (by decide) rfl (c_X10_type fu τ 94 (sc xs i 1) isO_94) e2 rfl rfl (gCaM rfl) dL_law_860 ?_
  exact j_icmp_eq g.1 dL_law_863 (by decide) (fun _ => next υ hg) (fun z => absurd rfl z)
theorem law_24 (g : gLaw Γ b N xs) (hf : 2000 < fu) (hi : i + 4 ≤ N) (hG : GR σ) (next : ∀ τ, GR τ → At Γ 917 (lL Γ b i) [] τ (some ())) : At Γ 868 (lL Γ b i) [] σ (some ()) := by
  obtain ⟨r, τ, υ, e1, e2, hg⟩ := k_clearText (fu := fu) hG
  refine x_aload_n g.1 dL_law_868 rfl rfl ?_
  refine x_ViK (av := fun _ => []) (rest := []) g.1 m_X9_clearText i_X9_clearText kl_L_113 isO_0 (by decide) rfl (c_X9_clearText fu σ 0 isO_0) e1 rfl rfl (gCaM rfl) dL_law_869 ?_
  refine x_aload_n g.1 dL_law_872 rfl rfl ?_
  refine x_ViK (av := fun _ => []) (rest := [.int r]) g.1 m_X10_clearText i_X10_clearText kl_L_116 isO_94 (by decide) rfl (c_X10_clearText fu τ 94 isO_94) e2 rfl rfl (gCaM rfl) dL_law_873 ?_
  exact j_icmp_eq g.1 dL_law_876 (by decide) (fun _ => next υ hg) (fun z => absurd rfl z)
theorem law_25 (g : gLaw Γ b N xs) (hf : 2000 < fu) (hi : i + 4 ≤ N) (hG : GR σ) (next : ∀ τ, GR τ → At Γ 917 (lL Γ b i) [] τ (some ())) : At Γ 881 (lL Γ b i) [] σ (some ()) := by
  obtain ⟨r, τ, υ, e1, e2, hg⟩ := k_fault (fu := fu) hf hG (sc xs i 1)
  refine x_aload_n g.1 dL_law_881 rfl rfl ?_
  refine x_arg g hi (j := 1) (by decide) (by decide) dL_law_882 dL_law_883 dL_law_884 dL_law_885 dL_law_886 ?_
  refine x_ViK (av := fun _ => [.int (sc xs i 1)]) (rest := []) g.1 m_X9_fault i_X9_fault kl_L_117 isO_0 (by decide) rfl (c_X9_fault fu σ 0 (sc xs i 1) isO_0) e1 rfl rfl (gCaM rfl) dL_law_887 ?_
  refine x_aload_n g.1 dL_law_890 rfl rfl ?_
  refine x_arg g hi (j := 1) (by decide) (by decide) dL_law_891 dL_law_892 dL_law_893 dL_law_894 dL_law_895 ?_
  refine x_ViK (av := fun _ => [.int (sc xs i 1)]) (rest := [.int r]) g.1 m_X10_fault i_X10_fault kl_L_120 isO_94 (by decide) rfl (c_X10_fault fu τ 94 (sc xs i 1) isO_94) e2 rfl rfl (gCaM rfl) dL_law_896 ?_
  exact j_icmp_eq g.1 dL_law_899 (by decide) (fun _ => next υ hg) (fun z => absurd rfl z)
theorem law_26 (g : gLaw Γ b N xs) (hf : 2000 < fu) (hi : i + 4 ≤ N) (hG : GR σ) (next : ∀ τ, GR τ → At Γ 917 (lL Γ b i) [] τ (some ())) : At Γ 904 (lL Γ b i) [] σ (some ()) := by
  obtain ⟨r, τ, υ, e1, e2, hg⟩ := k_play (fu := fu) hf hG
  refine x_aload_n g.1 dL_law_904 rfl rfl ?_
  refine x_ViK (av := fun _ => []) (rest := []) g.1 m_X9_play i_X9_play kl_L_121 isO_0 (by decide) rfl (c_X9_play fu σ 0 isO_0) e1 rfl rfl (gCaM rfl) dL_law_905 ?_
  refine x_aload_n g.1 dL_law_908 rfl rfl ?_
  refine x_ViK (av := fun _ => []) (rest := [.int r]) g.1 m_X10_play i_X10_play kl_L_124 isO_94 (by decide) rfl (c_X10_play fu τ 94 isO_94) e2 rfl rfl (gCaM rfl) dL_law_909 ?_
  exact j_icmp_eq g.1 dL_law_912 (by decide) (fun _ => next υ hg) (fun z => absurd rfl z)
theorem law_step (g : gLaw Γ b N xs) (hf : 2000 < fu) (hi : i + 4 ≤ N) (hG : GR σ) (next : ∀ τ, GR τ → At Γ 917 (lL Γ b i) [] τ (some ())) (x : Int32) : At Γ 32 (lL Γ b i) [.int x] σ (some ()) := by
  by_cases hx : x.toInt < 0 ∨ 26 < x.toInt
  · exact x_tswd (tgt := 917) g.1 dL_law_32 hx (by decide) (next σ hG)
  · obtain ⟨n, hn, h26⟩ : ∃ n : Nat, x.toInt = (n : Int) ∧ n < 27 := ⟨x.toInt.toNat, by omega, by omega⟩
    match n, hn, h26 with
    | 0, hn, _ => exact x_tswK (tgt := 156) g.1 0 dL_law_32 hn (by decide) (by decide) rfl (by decide) (law_0 g hf hi hG next)
    | 1, hn, _ => exact x_tswK (tgt := 199) g.1 1 dL_law_32 hn (by decide) (by decide) rfl (by decide) (law_1 g hf hi hG next)
    | 2, hn, _ => exact x_tswK (tgt := 232) g.1 2 dL_law_32 hn (by decide) (by decide) rfl (by decide) (law_2 g hf hi hG next)
    | 3, hn, _ => exact x_tswK (tgt := 275) g.1 3 dL_law_32 hn (by decide) (by decide) rfl (by decide) (law_3 g hf hi hG next)
    | 4, hn, _ => exact x_tswK (tgt := 298) g.1 4 dL_law_32 hn (by decide) (by decide) rfl (by decide) (law_4 g hf hi hG next)
    | 5, hn, _ => exact x_tswK (tgt := 331) g.1 5 dL_law_32 hn (by decide) (by decide) rfl (by decide) (law_5 g hf hi hG next)
    | 6, hn, _ => exact x_tswK (tgt := 354) g.1 6 dL_law_32 hn (by decide) (by decide) rfl (by decide) (law_6 g hf hi hG next)
    | 7, hn, _ => exact x_tswK (tgt := 377) g.1 7 dL_law_32 hn (by decide) (by decide) rfl (by decide) (law_7 g hf hi hG next)
    | 8, hn, _ => exact x_tswK (tgt := 410) g.1 8 dL_law_32 hn (by decide) (by decide) rfl (by decide) (law_8 g hf hi hG next)
    | 9, hn, _ => exact x_tswK (tgt := 443) g.1 9 dL_law_32 hn (by decide) (by decide) rfl (by decide) (law_9 g hf hi hG next)
    | 10, hn, _ => exact x_tswK (tgt := 476) g.1 10 dL_law_32 hn (by decide) (by decide) rfl (by decide) (law_10 g hf hi hG next)
    | 11, hn, _ => exact x_tswK (tgt := 509) g.1 11 dL_law_32 hn (by decide) (by decide) rfl (by decide) (law_11 g hf hi hG next)
    | 12, hn, _ => exact x_tswK (tgt := 552) g.1 12 dL_law_32 hn (by decide) (by decide) rfl (by decide) (law_12 g hf hi hG next)
    | 13, hn, _ => exact x_tswK (tgt := 585) g.1 13 dL_law_32 hn (by decide) (by decide) rfl (by decide) (law_13 g hf hi hG next)
    | 14, hn, _ => exact x_tswK (tgt := 618) g.1 14 dL_law_32 hn (by decide) (by decide) rfl (by decide) (law_14 g hf hi hG next)
    | 15, hn, _ => exact x_tswK (tgt := 651) g.1 15 dL_law_32 hn (by decide) (by decide) rfl (by decide) (law_15 g hf hi hG next)
    | 16, hn, _ => exact x_tswK (tgt := 684) g.1 16 dL_law_32 hn (by decide) (by decide) rfl (by decide) (law_16 g hf hi hG next)
    | 17, hn, _ => exact x_tswK (tgt := 707) g.1 17 dL_law_32 hn (by decide) (by decide) rfl (by decide) (law_17 g hf hi hG next)
    | 18, hn, _ => exact x_tswK (tgt := 740) g.1 18 dL_law_32 hn (by decide) (by decide) rfl (by decide) (law_18 g hf hi hG next)
    | 19, hn, _ => exact x_tswK (tgt := 763) g.1 19 dL_law_32 hn (by decide) (by decide) rfl (by decide) (law_19 g hf hi hG next)
    | 20, hn, _ => exact x_tswK (tgt := 786) g.1 20 dL_law_32 hn (by decide) (by decide) rfl (by decide) (law_20 g hf hi hG next)
    | 21, hn, _ => exact x_tswK (tgt := 809) g.1 21 dL_law_32 hn (by decide) (by decide) rfl (by decide) (law_21 g hf hi hG next)
    | 22, hn, _ => exact x_tswK (tgt := 832) g.1 22 dL_law_32 hn (by decide) (by decide) rfl (by decide) (law_22 g hf hi hG next)
    | 23, hn, _ => exact x_tswK (tgt := 845) g.1 23 dL_law_32 hn (by decide) (by decide) rfl (by decide) (law_23 g hf hi hG next)
    | 24, hn, _ => exact x_tswK (tgt := 868) g.1 24 dL_law_32 hn (by decide) (by decide) rfl (by decide) (law_24 g hf hi hG next)
    | 25, hn, _ => exact x_tswK (tgt := 881) g.1 25 dL_law_32 hn (by decide) (by decide) rfl (by decide) (law_25 g hf hi hG next)
    | 26, hn, _ => exact x_tswK (tgt := 904) g.1 26 dL_law_32 hn (by decide) (by decide) rfl (by decide) (law_26 g hf hi hG next)
    | n + 27, _, z => exact absurd z (by omega)
theorem law_loop (g : gLaw Γ b N xs) (hf : 2000 < fu) (hend : ∀ (i : Nat) (σ : gSt), At Γ 923 (lL Γ b i) [] σ (some ())) : ∀ (n i : Nat) (σ : gSt), i ≤ 2052 → 2052 - i < n → GR σ → At Γ 18 (lL Γ b i) [] σ (some ())
  | 0, _, _, _, h, _ => absurd h (by omega)
  | n + 1, i, σ, hi, hn, hG => by
    refine x_iload_n g.1 dL_law_18 rfl rfl ?_
    refine x_aload_n g.1 dL_law_19 rfl rfl ?_
    refine x_scl g dL_law_20 ?_
    refine x_iconst (v := nI 4) g.1 dL_law_21 (by decide) ?_
    refine x_isub g.1 dL_law_22 ?_
    refine j_icmp_gt (tgt := 923) g.1 dL_law_23 (by decide) (fun _ => hend i σ) (fun z => ?_)
    have h4 := sc_go g.2.2.2.2 hi z
    have hN := g.2.2.2.2
    refine x_aload_n g.1 dL_law_26 rfl rfl ?_
    refine x_iload_n g.1 dL_law_27 rfl rfl ?_
    refine x_scr g (nI_in (by omega) (by omega)) dL_law_28 ?_
    refine x_bipush (v := 31) g.1 dL_law_29 (by decide) ?_
    refine x_iand g.1 dL_law_31 ?_
    refine law_step g hf h4 hG (fun τ hτ => ?_) _
    refine x_iinc (x := nI i) (v := nI (i + 4)) (L' := lL Γ b (i + 4)) g.1 dL_law_917 rfl (by rw [show Int32.ofInt 4 = nI 4 by decide]; exact nI_add i 4) rfl ?_
    refine x_goto (tgt := 18) g.1 dL_law_920 (by decide) ?_
    exact law_loop g hf hend n (i + 4) τ (by omega) (by omega) hτ
end Law
