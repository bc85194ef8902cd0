def iX12 (mem : zMem) : zMem := (zup (zup (zup (zup (zup (zup mem 138 26 (-1)) 138 32 (-1)) 138 33 (-1)) 138 34 (-1)) 140 0 5) 140 1 5)
theorem kZ_X12 {mem : zMem} {M : Nat} (h : kZ mem M) (hq : 156 < M) : kZ (iX12 mem) M := by
  unfold iX12
  exact (kZ_up (kZ_up (kZ_up (kZ_up (kZ_up (kZ_up h (by omega)) (by omega)) (by omega)) (by omega)) (by omega)) (by omega))
set_option maxHeartbeats 4000000 in
theorem K_X12 (l : Launch) {Γ : zG} {a : Nat} {mem : zMem}  (hN : gN Γ = 139) (ha : gD Γ 138 = a) (hz : kZ mem 139) (hf0 : ∀ p k, p < 138 → isR p k = true → gF Γ p k = true) {mem1 : zMem} (hs1 : f_X12_startSo (iX12 mem) = some (0, mem1)) : kMet l yX12_init cX12_init 1 2 18 3794 Γ 138 157 [.ref a] mem mem1 := by
  refine kMet_of (own := "ShadowHeirsModel") (by decide) rfl rfl (Nat.le_of_ble_eq_true rfl) (fun X C Z => ?_)
  have hR := kRt_R Z
  have hl0 : X.2.1 = l := kRt_l Z
  show zg (kX X 0 0) Γ 1 0 [(0, .ref a)] [] mem
  refine zg_j (zj_aload_n (j := 0) (i := 0) C.1 rfl 0 rfl dX12_init_0 (j_zg ?_))
  refine kg_obj C (by rw [hR]; exact ⟨by decide, by simp [kRm, Value.category]⟩) moi_X12_93 oi_1 oi_2 dX12_init_1 ?_
  refine zg_j (zj_aload_n (j := 0) (i := 0) C.1 rfl 0 rfl dX12_init_4 (j_zg ?_))
  refine zg_j (zj_sipush C.1 940 rfl dX12_init_5 (j_zg ?_))
  refine kg_newI C hN (by decide +kernel) (L := 940) (by decide +kernel) (by decide) (by decide) (fun j => hz _ j (Nat.le_refl _)) (by rw [hR]; exact ⟨by decide, by decide⟩) arc_int dX12_init_8 (fun Γ1 a2 s3 n4 e5 C => ?_)
  have z6 : kZ mem 140 := kZ_le hz (Nat.le_succ _)
  have t7 := kS_t (kS_r Γ) s3
  have e8 : gD Γ1 138 = a := (s3.2.2.1 138 (by rw [hN]; exact (by decide))).trans ha
  refine kg_putR C (by rw [n4]; exact (by decide)) (by decide +kernel) e8 fl_X12_7 klk_X12_7 rfl kfin_12_1 (by rw [(by decide +kernel : sRf 138 1 = 139), n4]; decide) (by rw [(by decide +kernel : sRf 138 1 = 139)]; exact e5) dX12_init_10 (fun Γ12 s9 n10 f11 C => ?_)
  have n13 : gN Γ12 = 140 := n10.trans n4
  have t14 := kS_t t7 s9
  have e15 : gD Γ12 138 = a := (s9.2.2.1 138 (by rw [n4]; exact (by decide))).trans e8
  have e16 : gD Γ12 139 = a2 := (s9.2.2.1 139 (by rw [n4]; exact (by decide))).trans e5
  refine zg_j (zj_aload_n (j := 0) (i := 0) C.1 rfl 0 rfl dX12_init_13 (j_zg ?_))
  refine zg_j (zj_sipush C.1 434 rfl dX12_init_14 (j_zg ?_))
  refine kg_newI C n13 (by decide +kernel) (L := 434) (by decide +kernel) (by decide) (by decide) (fun j => z6 _ j (Nat.le_refl _)) (by rw [hR]; exact ⟨by decide, by decide⟩) arc_int dX12_init_17 (fun Γ17 a18 s19 n20 e21 C => ?_)
  have z22 : kZ mem 141 := kZ_le z6 (Nat.le_succ _)
  have t23 := kS_t t14 s19
  have e24 : gD Γ17 138 = a := (s19.2.2.1 138 (by rw [n13]; exact (by decide))).trans e15
  have f25 := s19.2.2.2 _ _ f11
  refine kg_putR C (by rw [n20]; exact (by decide)) (by decide +kernel) e24 fl_X12_98 klk_X12_98 rfl kfin_12_14 (by rw [(by decide +kernel : sRf 138 14 = 140), n20]; decide) (by rw [(by decide +kernel : sRf 138 14 = 140)]; exact e21) dX12_init_19 (fun Γ29 s26 n27 f28 C => ?_)
  have n30 : gN Γ29 = 141 := n27.trans n20
  have t31 := kS_t t23 s26
  have e32 : gD Γ29 138 = a := (s26.2.2.1 138 (by rw [n20]; exact (by decide))).trans e24
  have e33 : gD Γ29 140 = a18 := (s26.2.2.1 140 (by rw [n20]; exact (by decide))).trans e21
  have f34 := s26.2.2.2 _ _ f25
  refine zg_j (zj_aload_n (j := 0) (i := 0) C.1 rfl 0 rfl dX12_init_22 (j_zg ?_))
  refine zg_j (zj_bipush C.1 106 rfl dX12_init_23 (j_zg ?_))
  refine kg_newI C n30 (by decide +kernel) (L := 106) (by decide +kernel) (by decide) (by decide) (fun j => z22 _ j (Nat.le_refl _)) (by rw [hR]; exact ⟨by decide, by decide⟩) arc_int dX12_init_25 (fun Γ35 a36 s37 n38 e39 C => ?_)
  have z40 : kZ mem 142 := kZ_le z22 (Nat.le_succ _)
  have t41 := kS_t t31 s37
  have e42 : gD Γ35 138 = a := (s37.2.2.1 138 (by rw [n30]; exact (by decide))).trans e32
  have f43 := s37.2.2.2 _ _ f34
  have f44 := s37.2.2.2 _ _ f28
  refine kg_putR C (by rw [n38]; exact (by decide)) (by decide +kernel) e42 fl_X12_101 klk_X12_101 rfl kfin_12_15 (by rw [(by decide +kernel : sRf 138 15 = 141), n38]; decide) (by rw [(by decide +kernel : sRf 138 15 = 141)]; exact e39) dX12_init_27 (fun Γ48 s45 n46 f47 C => ?_)
  have n49 : gN Γ48 = 142 := n46.trans n38
  have t50 := kS_t t41 s45
  have e51 : gD Γ48 138 = a := (s45.2.2.1 138 (by rw [n38]; exact (by decide))).trans e42
  have e52 : gD Γ48 141 = a36 := (s45.2.2.1 141 (by rw [n38]; exact (by decide))).trans e39
  have f53 := s45.2.2.2 _ _ f43
  have f54 := s45.2.2.2 _ _ f44
  refine zg_j (zj_aload_n (j := 0) (i := 0) C.1 rfl 0 rfl dX12_init_30 (j_zg ?_))
  refine zg_j (zj_sipush C.1 868 rfl dX12_init_31 (j_zg ?_))
  refine kg_newI C n49 (by decide +kernel) (L := 868) (by decide +kernel) (by decide) (by decide) (fun j => z40 _ j (Nat.le_refl _)) (by rw [hR]; exact ⟨by decide, by decide⟩) arc_int dX12_init_34 (fun Γ55 a56 s57 n58 e59 C => ?_)
  have z60 : kZ mem 143 := kZ_le z40 (Nat.le_succ _)
  have t61 := kS_t t50 s57
  have e62 : gD Γ55 138 = a := (s57.2.2.1 138 (by rw [n49]; exact (by decide))).trans e51
  have f63 := s57.2.2.2 _ _ f53
  have f64 := s57.2.2.2 _ _ f54
  have f65 := s57.2.2.2 _ _ f47
  refine kg_putR C (by rw [n58]; exact (by decide)) (by decide +kernel) e62 fl_X12_104 klk_X12_104 rfl kfin_12_16 (by rw [(by decide +kernel : sRf 138 16 = 142), n58]; decide) (by rw [(by decide +kernel : sRf 138 16 = 142)]; exact e59) dX12_init_36 (fun Γ69 s66 n67 f68 C => ?_)
  have n70 : gN Γ69 = 143 := n67.trans n58
  have t71 := kS_t t61 s66
  have e72 : gD Γ69 138 = a := (s66.2.2.1 138 (by rw [n58]; exact (by decide))).trans e62
  have e73 : gD Γ69 142 = a56 := (s66.2.2.1 142 (by rw [n58]; exact (by decide))).trans e59
  have f74 := s66.2.2.2 _ _ f63
  have f75 := s66.2.2.2 _ _ f64
  have f76 := s66.2.2.2 _ _ f65
  refine zg_j (zj_aload_n (j := 0) (i := 0) C.1 rfl 0 rfl dX12_init_39 (j_zg ?_))
  refine zg_j (zj_sipush C.1 688 rfl dX12_init_40 (j_zg ?_))
  refine kg_newI C n70 (by decide +kernel) (L := 688) (by decide +kernel) (by decide) (by decide) (fun j => z60 _ j (Nat.le_refl _)) (by rw [hR]; exact ⟨by decide, by decide⟩) arc_int dX12_init_43 (fun Γ77 a78 s79 n80 e81 C => ?_)
  have z82 : kZ mem 144 := kZ_le z60 (Nat.le_succ _)
  have t83 := kS_t t71 s79
  have e84 : gD Γ77 138 = a := (s79.2.2.1 138 (by rw [n70]; exact (by decide))).trans e72
  have f85 := s79.2.2.2 _ _ f74
  have f86 := s79.2.2.2 _ _ f75
  have f87 := s79.2.2.2 _ _ f76
  have f88 := s79.2.2.2 _ _ f68
  refine kg_putR C (by rw [n80]; exact (by decide)) (by decide +kernel) e84 fl_X12_107 klk_X12_107 rfl kfin_12_17 (by rw [(by decide +kernel : sRf 138 17 = 143), n80]; decide) (by rw [(by decide +kernel : sRf 138 17 = 143)]; exact e81) dX12_init_45 (fun Γ92 s89 n90 f91 C => ?_)
  have n93 : gN Γ92 = 144 := n90.trans n80
  have t94 := kS_t t83 s89
  have e95 : gD Γ92 138 = a := (s89.2.2.1 138 (by rw [n80]; exact (by decide))).trans e84
  have e96 : gD Γ92 143 = a78 := (s89.2.2.1 143 (by rw [n80]; exact (by decide))).trans e81
  have f97 := s89.2.2.2 _ _ f85
  have f98 := s89.2.2.2 _ _ f86
  have f99 := s89.2.2.2 _ _ f87
  have f100 := s89.2.2.2 _ _ f88
  refine zg_j (zj_aload_n (j := 0) (i := 0) C.1 rfl 0 rfl dX12_init_48 (j_zg ?_))
  refine zg_j (zj_bipush C.1 86 rfl dX12_init_49 (j_zg ?_))
  refine kg_newI C n93 (by decide +kernel) (L := 86) (by decide +kernel) (by decide) (by decide) (fun j => z82 _ j (Nat.le_refl _)) (by rw [hR]; exact ⟨by decide, by decide⟩) arc_int dX12_init_51 (fun Γ101 a102 s103 n104 e105 C => ?_)
  have z106 : kZ mem 145 := kZ_le z82 (Nat.le_succ _)
  have t107 := kS_t t94 s103
  have e108 : gD Γ101 138 = a := (s103.2.2.1 138 (by rw [n93]; exact (by decide))).trans e95
  have f109 := s103.2.2.2 _ _ f97
  have f110 := s103.2.2.2 _ _ f98
  have f111 := s103.2.2.2 _ _ f99
  have f112 := s103.2.2.2 _ _ f100
  have f113 := s103.2.2.2 _ _ f91
  refine kg_putR C (by rw [n104]; exact (by decide)) (by decide +kernel) e108 fl_X12_110 klk_X12_110 rfl kfin_12_18 (by rw [(by decide +kernel : sRf 138 18 = 144), n104]; decide) (by rw [(by decide +kernel : sRf 138 18 = 144)]; exact e105) dX12_init_53 (fun Γ117 s114 n115 f116 C => ?_)
  have n118 : gN Γ117 = 145 := n115.trans n104
  have t119 := kS_t t107 s114
  have e120 : gD Γ117 138 = a := (s114.2.2.1 138 (by rw [n104]; exact (by decide))).trans e108
  have e121 : gD Γ117 144 = a102 := (s114.2.2.1 144 (by rw [n104]; exact (by decide))).trans e105
  have f122 := s114.2.2.2 _ _ f109
  have f123 := s114.2.2.2 _ _ f110
  have f124 := s114.2.2.2 _ _ f111
  have f125 := s114.2.2.2 _ _ f112
  have f126 := s114.2.2.2 _ _ f113
  refine zg_j (zj_aload_n (j := 0) (i := 0) C.1 rfl 0 rfl dX12_init_56 (j_zg ?_))
  refine zg_j (zj_bipush C.1 11 rfl dX12_init_57 (j_zg ?_))
  refine kg_newL C n118 (by decide +kernel) (L := 11) (by decide +kernel) (by decide) (by decide) (fun j => z106 _ j (Nat.le_refl _)) (by rw [hR]; exact ⟨by decide, by decide⟩) arc_long dX12_init_59 (fun Γ127 a128 s129 n130 e131 C => ?_)
  have z132 : kZ mem 146 := kZ_le z106 (Nat.le_succ _)
  have t133 := kS_t t119 s129
  have e134 : gD Γ127 138 = a := (s129.2.2.1 138 (by rw [n118]; exact (by decide))).trans e120
  have f135 := s129.2.2.2 _ _ f122
  have f136 := s129.2.2.2 _ _ f123
  have f137 := s129.2.2.2 _ _ f124
  have f138 := s129.2.2.2 _ _ f125
  have f139 := s129.2.2.2 _ _ f126
  have f140 := s129.2.2.2 _ _ f116
  refine kg_putR C (by rw [n130]; exact (by decide)) (by decide +kernel) e134 fl_X12_113 klk_X12_113 rfl kfin_12_19 (by rw [(by decide +kernel : sRf 138 19 = 145), n130]; decide) (by rw [(by decide +kernel : sRf 138 19 = 145)]; exact e131) dX12_init_61 (fun Γ144 s141 n142 f143 C => ?_)
  have n145 : gN Γ144 = 146 := n142.trans n130
  have t146 := kS_t t133 s141
  have e147 : gD Γ144 138 = a := (s141.2.2.1 138 (by rw [n130]; exact (by decide))).trans e134
  have e148 : gD Γ144 145 = a128 := (s141.2.2.1 145 (by rw [n130]; exact (by decide))).trans e131
  have f149 := s141.2.2.2 _ _ f135
  have f150 := s141.2.2.2 _ _ f136
  have f151 := s141.2.2.2 _ _ f137
  have f152 := s141.2.2.2 _ _ f138
  have f153 := s141.2.2.2 _ _ f139
  have f154 := s141.2.2.2 _ _ f140
  refine zg_j (zj_aload_n (j := 0) (i := 0) C.1 rfl 0 rfl dX12_init_64 (j_zg ?_))
  refine zg_j (zj_bipush C.1 11 rfl dX12_init_65 (j_zg ?_))
  refine kg_newL C n145 (by decide +kernel) (L := 11) (by decide +kernel) (by decide) (by decide) (fun j => z132 _ j (Nat.le_refl _)) (by rw [hR]; exact ⟨by decide, by decide⟩) arc_long dX12_init_67 (fun Γ155 a156 s157 n158 e159 C => ?_)
  have z160 : kZ mem 147 := kZ_le z132 (Nat.le_succ _)
  have t161 := kS_t t146 s157
  have e162 : gD Γ155 138 = a := (s157.2.2.1 138 (by rw [n145]; exact (by decide))).trans e147
  have f163 := s157.2.2.2 _ _ f149
  have f164 := s157.2.2.2 _ _ f150
  have f165 := s157.2.2.2 _ _ f151
  have f166 := s157.2.2.2 _ _ f152
  have f167 := s157.2.2.2 _ _ f153
  have f168 := s157.2.2.2 _ _ f154
  have f169 := s157.2.2.2 _ _ f143
  refine kg_putR C (by rw [n158]; exact (by decide)) (by decide +kernel) e162 fl_X12_117 klk_X12_117 rfl kfin_12_20 (by rw [(by decide +kernel : sRf 138 20 = 146), n158]; decide) (by rw [(by decide +kernel : sRf 138 20 = 146)]; exact e159) dX12_init_69 (fun Γ173 s170 n171 f172 C => ?_)
  have n174 : gN Γ173 = 147 := n171.trans n158
  have t175 := kS_t t161 s170
  have e176 : gD Γ173 138 = a := (s170.2.2.1 138 (by rw [n158]; exact (by decide))).trans e162
  have e177 : gD Γ173 146 = a156 := (s170.2.2.1 146 (by rw [n158]; exact (by decide))).trans e159
  have f178 := s170.2.2.2 _ _ f163
  have f179 := s170.2.2.2 _ _ f164
  have f180 := s170.2.2.2 _ _ f165
  have f181 := s170.2.2.2 _ _ f166
  have f182 := s170.2.2.2 _ _ f167
  have f183 := s170.2.2.2 _ _ f168
  have f184 := s170.2.2.2 _ _ f169
  refine zg_j (zj_aload_n (j := 0) (i := 0) C.1 rfl 0 rfl dX12_init_72 (j_zg ?_))
  refine zg_j (zj_bipush C.1 22 rfl dX12_init_73 (j_zg ?_))
  refine kg_newL C n174 (by decide +kernel) (L := 22) (by decide +kernel) (by decide) (by decide) (fun j => z160 _ j (Nat.le_refl _)) (by rw [hR]; exact ⟨by decide, by decide⟩) arc_long dX12_init_75 (fun Γ185 a186 s187 n188 e189 C => ?_)
  have z190 : kZ mem 148 := kZ_le z160 (Nat.le_succ _)
  have t191 := kS_t t175 s187
  have e192 : gD Γ185 138 = a := (s187.2.2.1 138 (by rw [n174]; exact (by decide))).trans e176
  have f193 := s187.2.2.2 _ _ f178
  have f194 := s187.2.2.2 _ _ f179
  have f195 := s187.2.2.2 _ _ f180
  have f196 := s187.2.2.2 _ _ f181
  have f197 := s187.2.2.2 _ _ f182
  have f198 := s187.2.2.2 _ _ f183
  have f199 := s187.2.2.2 _ _ f184
  have f200 := s187.2.2.2 _ _ f172
  refine kg_putR C (by rw [n188]; exact (by decide)) (by decide +kernel) e192 fl_X12_120 klk_X12_120 rfl kfin_12_21 (by rw [(by decide +kernel : sRf 138 21 = 147), n188]; decide) (by rw [(by decide +kernel : sRf 138 21 = 147)]; exact e189) dX12_init_77 (fun Γ204 s201 n202 f203 C => ?_)
  have n205 : gN Γ204 = 148 := n202.trans n188
  have t206 := kS_t t191 s201
  have e207 : gD Γ204 138 = a := (s201.2.2.1 138 (by rw [n188]; exact (by decide))).trans e192
  have e208 : gD Γ204 147 = a186 := (s201.2.2.1 147 (by rw [n188]; exact (by decide))).trans e189
  have f209 := s201.2.2.2 _ _ f193
  have f210 := s201.2.2.2 _ _ f194
  have f211 := s201.2.2.2 _ _ f195
  have f212 := s201.2.2.2 _ _ f196
  have f213 := s201.2.2.2 _ _ f197
  have f214 := s201.2.2.2 _ _ f198
  have f215 := s201.2.2.2 _ _ f199
  have f216 := s201.2.2.2 _ _ f200
  refine zg_j (zj_aload_n (j := 0) (i := 0) C.1 rfl 0 rfl dX12_init_80 (j_zg ?_))
  refine zg_j (zj_iconst C.1 2 dX12_init_81 (j_zg ?_))
  refine kg_newZ C n205 (by decide +kernel) (L := 2) (by decide +kernel) (by decide) (by decide) (fun j => z190 _ j (Nat.le_refl _)) (by rw [hR]; exact ⟨by decide, by decide⟩) arc_boolean dX12_init_82 (fun Γ217 a218 s219 n220 e221 C => ?_)
  have z222 : kZ mem 149 := kZ_le z190 (Nat.le_succ _)
  have t223 := kS_t t206 s219
  have e224 : gD Γ217 138 = a := (s219.2.2.1 138 (by rw [n205]; exact (by decide))).trans e207
  have f225 := s219.2.2.2 _ _ f209
  have f226 := s219.2.2.2 _ _ f210
  have f227 := s219.2.2.2 _ _ f211
  have f228 := s219.2.2.2 _ _ f212
  have f229 := s219.2.2.2 _ _ f213
  have f230 := s219.2.2.2 _ _ f214
  have f231 := s219.2.2.2 _ _ f215
  have f232 := s219.2.2.2 _ _ f216
  have f233 := s219.2.2.2 _ _ f203
  refine kg_putR C (by rw [n220]; exact (by decide)) (by decide +kernel) e224 fl_X12_123 klk_X12_123 rfl kfin_12_22 (by rw [(by decide +kernel : sRf 138 22 = 148), n220]; decide) (by rw [(by decide +kernel : sRf 138 22 = 148)]; exact e221) dX12_init_84 (fun Γ237 s234 n235 f236 C => ?_)
  have n238 : gN Γ237 = 149 := n235.trans n220
  have t239 := kS_t t223 s234
  have e240 : gD Γ237 138 = a := (s234.2.2.1 138 (by rw [n220]; exact (by decide))).trans e224
  have e241 : gD Γ237 148 = a218 := (s234.2.2.1 148 (by rw [n220]; exact (by decide))).trans e221
  have f242 := s234.2.2.2 _ _ f225
  have f243 := s234.2.2.2 _ _ f226
  have f244 := s234.2.2.2 _ _ f227
  have f245 := s234.2.2.2 _ _ f228
  have f246 := s234.2.2.2 _ _ f229
  have f247 := s234.2.2.2 _ _ f230
  have f248 := s234.2.2.2 _ _ f231
  have f249 := s234.2.2.2 _ _ f232
  have f250 := s234.2.2.2 _ _ f233
  refine zg_j (zj_aload_n (j := 0) (i := 0) C.1 rfl 0 rfl dX12_init_87 (j_zg ?_))
  refine zg_j (zj_iconst C.1 (-1) dX12_init_88 (j_zg ?_))
  refine kg_putI (k := 26) C 26 rfl (by rw [n238]; exact (by decide)) (by decide +kernel) e240 fl_X12_127 rfl fp_12_26 (by decide) dX12_init_89 ?_
  have z251 : kZ (zup mem 138 26 (-1)) 149 := kZ_up z222 (by decide)
  refine zg_j (zj_aload_n (j := 0) (i := 0) C.1 rfl 0 rfl dX12_init_92 (j_zg ?_))
  refine zg_j (zj_bipush C.1 64 rfl dX12_init_93 (j_zg ?_))
  refine kg_newI C n238 (by decide +kernel) (L := 64) (by decide +kernel) (by decide) (by decide) (fun j => z251 _ j (Nat.le_refl _)) (by rw [hR]; exact ⟨by decide, by decide⟩) arc_int dX12_init_95 (fun Γ252 a253 s254 n255 e256 C => ?_)
  have z257 : kZ (zup mem 138 26 (-1)) 150 := kZ_le z251 (Nat.le_succ _)
  have t258 := kS_t t239 s254
  have e259 : gD Γ252 138 = a := (s254.2.2.1 138 (by rw [n238]; exact (by decide))).trans e240
  have f260 := s254.2.2.2 _ _ f242
  have f261 := s254.2.2.2 _ _ f243
  have f262 := s254.2.2.2 _ _ f244
  have f263 := s254.2.2.2 _ _ f245
  have f264 := s254.2.2.2 _ _ f246
  have f265 := s254.2.2.2 _ _ f247
  have f266 := s254.2.2.2 _ _ f248
  have f267 := s254.2.2.2 _ _ f249
  have f268 := s254.2.2.2 _ _ f250
  have f269 := s254.2.2.2 _ _ f236
  refine kg_putR C (by rw [n255]; exact (by decide)) (by decide +kernel) e259 fl_X12_130 klk_X12_130 rfl kfin_12_27 (by rw [(by decide +kernel : sRf 138 27 = 149), n255]; decide) (by rw [(by decide +kernel : sRf 138 27 = 149)]; exact e256) dX12_init_97 (fun Γ273 s270 n271 f272 C => ?_)
  have n274 : gN Γ273 = 150 := n271.trans n255
  have t275 := kS_t t258 s270
  have e276 : gD Γ273 138 = a := (s270.2.2.1 138 (by rw [n255]; exact (by decide))).trans e259
  have e277 : gD Γ273 149 = a253 := (s270.2.2.1 149 (by rw [n255]; exact (by decide))).trans e256
  have f278 := s270.2.2.2 _ _ f260
  have f279 := s270.2.2.2 _ _ f261
  have f280 := s270.2.2.2 _ _ f262
  have f281 := s270.2.2.2 _ _ f263
  have f282 := s270.2.2.2 _ _ f264
  have f283 := s270.2.2.2 _ _ f265
  have f284 := s270.2.2.2 _ _ f266
  have f285 := s270.2.2.2 _ _ f267
  have f286 := s270.2.2.2 _ _ f268
  have f287 := s270.2.2.2 _ _ f269
  refine zg_j (zj_aload_n (j := 0) (i := 0) C.1 rfl 0 rfl dX12_init_100 (j_zg ?_))
  refine zg_j (zj_bipush C.1 64 rfl dX12_init_101 (j_zg ?_))
  refine kg_newI C n274 (by decide +kernel) (L := 64) (by decide +kernel) (by decide) (by decide) (fun j => z257 _ j (Nat.le_refl _)) (by rw [hR]; exact ⟨by decide, by decide⟩) arc_int dX12_init_103 (fun Γ288 a289 s290 n291 e292 C => ?_)
  have z293 : kZ (zup mem 138 26 (-1)) 151 := kZ_le z257 (Nat.le_succ _)
  have t294 := kS_t t275 s290
  have e295 : gD Γ288 138 = a := (s290.2.2.1 138 (by rw [n274]; exact (by decide))).trans e276
  have f296 := s290.2.2.2 _ _ f278
  have f297 := s290.2.2.2 _ _ f279
  have f298 := s290.2.2.2 _ _ f280
  have f299 := s290.2.2.2 _ _ f281
  have f300 := s290.2.2.2 _ _ f282
  have f301 := s290.2.2.2 _ _ f283
  have f302 := s290.2.2.2 _ _ f284
  have f303 := s290.2.2.2 _ _ f285
  have f304 := s290.2.2.2 _ _ f286
  have f305 := s290.2.2.2 _ _ f287
  have f306 := s290.2.2.2 _ _ f272
  refine kg_putR C (by rw [n291]; exact (by decide)) (by decide +kernel) e295 fl_X12_133 klk_X12_133 rfl kfin_12_28 (by rw [(by decide +kernel : sRf 138 28 = 150), n291]; decide) (by rw [(by decide +kernel : sRf 138 28 = 150)]; exact e292) dX12_init_105 (fun Γ310 s307 n308 f309 C => ?_)
  have n311 : gN Γ310 = 151 := n308.trans n291
  have t312 := kS_t t294 s307
  have e313 : gD Γ310 138 = a := (s307.2.2.1 138 (by rw [n291]; exact (by decide))).trans e295
  have e314 : gD Γ310 150 = a289 := (s307.2.2.1 150 (by rw [n291]; exact (by decide))).trans e292
  have f315 := s307.2.2.2 _ _ f296
  have f316 := s307.2.2.2 _ _ f297
  have f317 := s307.2.2.2 _ _ f298
  have f318 := s307.2.2.2 _ _ f299
  have f319 := s307.2.2.2 _ _ f300
  have f320 := s307.2.2.2 _ _ f301
  have f321 := s307.2.2.2 _ _ f302
  have f322 := s307.2.2.2 _ _ f303
  have f323 := s307.2.2.2 _ _ f304
  have f324 := s307.2.2.2 _ _ f305
  have f325 := s307.2.2.2 _ _ f306
  refine zg_j (zj_aload_n (j := 0) (i := 0) C.1 rfl 0 rfl dX12_init_108 (j_zg ?_))
  refine zg_j (zj_bipush C.1 64 rfl dX12_init_109 (j_zg ?_))
  refine kg_newI C n311 (by decide +kernel) (L := 64) (by decide +kernel) (by decide) (by decide) (fun j => z293 _ j (Nat.le_refl _)) (by rw [hR]; exact ⟨by decide, by decide⟩) arc_int dX12_init_111 (fun Γ326 a327 s328 n329 e330 C => ?_)
  have z331 : kZ (zup mem 138 26 (-1)) 152 := kZ_le z293 (Nat.le_succ _)
  have t332 := kS_t t312 s328
  have e333 : gD Γ326 138 = a := (s328.2.2.1 138 (by rw [n311]; exact (by decide))).trans e313
  have f334 := s328.2.2.2 _ _ f315
  have f335 := s328.2.2.2 _ _ f316
  have f336 := s328.2.2.2 _ _ f317
  have f337 := s328.2.2.2 _ _ f318
  have f338 := s328.2.2.2 _ _ f319
  have f339 := s328.2.2.2 _ _ f320
  have f340 := s328.2.2.2 _ _ f321
  have f341 := s328.2.2.2 _ _ f322
  have f342 := s328.2.2.2 _ _ f323
  have f343 := s328.2.2.2 _ _ f324
  have f344 := s328.2.2.2 _ _ f325
  have f345 := s328.2.2.2 _ _ f309
  refine kg_putR C (by rw [n329]; exact (by decide)) (by decide +kernel) e333 fl_X12_136 klk_X12_136 rfl kfin_12_29 (by rw [(by decide +kernel : sRf 138 29 = 151), n329]; decide) (by rw [(by decide +kernel : sRf 138 29 = 151)]; exact e330) dX12_init_113 (fun Γ349 s346 n347 f348 C => ?_)
  have n350 : gN Γ349 = 152 := n347.trans n329
  have t351 := kS_t t332 s346
  have e352 : gD Γ349 138 = a := (s346.2.2.1 138 (by rw [n329]; exact (by decide))).trans e333
  have e353 : gD Γ349 151 = a327 := (s346.2.2.1 151 (by rw [n329]; exact (by decide))).trans e330
  have f354 := s346.2.2.2 _ _ f334
  have f355 := s346.2.2.2 _ _ f335
  have f356 := s346.2.2.2 _ _ f336
  have f357 := s346.2.2.2 _ _ f337
  have f358 := s346.2.2.2 _ _ f338
  have f359 := s346.2.2.2 _ _ f339
  have f360 := s346.2.2.2 _ _ f340
  have f361 := s346.2.2.2 _ _ f341
  have f362 := s346.2.2.2 _ _ f342
  have f363 := s346.2.2.2 _ _ f343
  have f364 := s346.2.2.2 _ _ f344
  have f365 := s346.2.2.2 _ _ f345
  refine zg_j (zj_aload_n (j := 0) (i := 0) C.1 rfl 0 rfl dX12_init_116 (j_zg ?_))
  refine zg_j (zj_bipush C.1 6 rfl dX12_init_117 (j_zg ?_))
  refine kg_newL C n350 (by decide +kernel) (L := 6) (by decide +kernel) (by decide) (by decide) (fun j => z331 _ j (Nat.le_refl _)) (by rw [hR]; exact ⟨by decide, by decide⟩) arc_long dX12_init_119 (fun Γ366 a367 s368 n369 e370 C => ?_)
  have z371 : kZ (zup mem 138 26 (-1)) 153 := kZ_le z331 (Nat.le_succ _)
  have t372 := kS_t t351 s368
  have e373 : gD Γ366 138 = a := (s368.2.2.1 138 (by rw [n350]; exact (by decide))).trans e352
  have f374 := s368.2.2.2 _ _ f354
  have f375 := s368.2.2.2 _ _ f355
  have f376 := s368.2.2.2 _ _ f356
  have f377 := s368.2.2.2 _ _ f357
  have f378 := s368.2.2.2 _ _ f358
  have f379 := s368.2.2.2 _ _ f359
  have f380 := s368.2.2.2 _ _ f360
  have f381 := s368.2.2.2 _ _ f361
  have f382 := s368.2.2.2 _ _ f362
  have f383 := s368.2.2.2 _ _ f363
  have f384 := s368.2.2.2 _ _ f364
  have f385 := s368.2.2.2 _ _ f365
  have f386 := s368.2.2.2 _ _ f348
  refine kg_putR C (by rw [n369]; exact (by decide)) (by decide +kernel) e373 fl_X12_139 klk_X12_139 rfl kfin_12_30 (by rw [(by decide +kernel : sRf 138 30 = 152), n369]; decide) (by rw [(by decide +kernel : sRf 138 30 = 152)]; exact e370) dX12_init_121 (fun Γ390 s387 n388 f389 C => ?_)
  have n391 : gN Γ390 = 153 := n388.trans n369
  have t392 := kS_t t372 s387
  have e393 : gD Γ390 138 = a := (s387.2.2.1 138 (by rw [n369]; exact (by decide))).trans e373
  have e394 : gD Γ390 152 = a367 := (s387.2.2.1 152 (by rw [n369]; exact (by decide))).trans e370
  have f395 := s387.2.2.2 _ _ f374
  have f396 := s387.2.2.2 _ _ f375
  have f397 := s387.2.2.2 _ _ f376
  have f398 := s387.2.2.2 _ _ f377
  have f399 := s387.2.2.2 _ _ f378
  have f400 := s387.2.2.2 _ _ f379
  have f401 := s387.2.2.2 _ _ f380
  have f402 := s387.2.2.2 _ _ f381
  have f403 := s387.2.2.2 _ _ f382
  have f404 := s387.2.2.2 _ _ f383
  have f405 := s387.2.2.2 _ _ f384
  have f406 := s387.2.2.2 _ _ f385
  have f407 := s387.2.2.2 _ _ f386
  refine zg_j (zj_aload_n (j := 0) (i := 0) C.1 rfl 0 rfl dX12_init_124 (j_zg ?_))
  refine zg_j (zj_iconst C.1 (-1) dX12_init_125 (j_zg ?_))
  refine kg_putI (k := 32) C 32 rfl (by rw [n391]; exact (by decide)) (by decide +kernel) e393 fl_X12_142 rfl fp_12_32 (by decide) dX12_init_126 ?_
  have z408 : kZ (zup (zup mem 138 26 (-1)) 138 32 (-1)) 153 := kZ_up z371 (by decide)
  refine zg_j (zj_aload_n (j := 0) (i := 0) C.1 rfl 0 rfl dX12_init_129 (j_zg ?_))
  refine zg_j (zj_iconst C.1 (-1) dX12_init_130 (j_zg ?_))
  refine kg_putI (k := 33) C 33 rfl (by rw [n391]; exact (by decide)) (by decide +kernel) e393 fl_X12_145 rfl fp_12_33 (by decide) dX12_init_131 ?_
  have z409 : kZ (zup (zup (zup mem 138 26 (-1)) 138 32 (-1)) 138 33 (-1)) 153 := kZ_up z408 (by decide)
  refine zg_j (zj_aload_n (j := 0) (i := 0) C.1 rfl 0 rfl dX12_init_134 (j_zg ?_))
  refine zg_j (zj_iconst C.1 (-1) dX12_init_135 (j_zg ?_))
  refine kg_putI (k := 34) C 34 rfl (by rw [n391]; exact (by decide)) (by decide +kernel) e393 fl_X12_148 rfl fp_12_34 (by decide) dX12_init_136 ?_
  have z410 : kZ (zup (zup (zup (zup mem 138 26 (-1)) 138 32 (-1)) 138 33 (-1)) 138 34 (-1)) 153 := kZ_up z409 (by decide)
  refine zg_j (zj_aload_n (j := 0) (i := 0) C.1 rfl 0 rfl dX12_init_139 (j_zg ?_))
  refine zg_j (zj_bipush C.1 64 rfl dX12_init_140 (j_zg ?_))
  refine kg_newI C n391 (by decide +kernel) (L := 64) (by decide +kernel) (by decide) (by decide) (fun j => z410 _ j (Nat.le_refl _)) (by rw [hR]; exact ⟨by decide, by decide⟩) arc_int dX12_init_142 (fun Γ411 a412 s413 n414 e415 C => ?_)
  have z416 : kZ (zup (zup (zup (zup mem 138 26 (-1)) 138 32 (-1)) 138 33 (-1)) 138 34 (-1)) 154 := kZ_le z410 (Nat.le_succ _)
  have t417 := kS_t t392 s413
  have e418 : gD Γ411 138 = a := (s413.2.2.1 138 (by rw [n391]; exact (by decide))).trans e393
  have f419 := s413.2.2.2 _ _ f395
  have f420 := s413.2.2.2 _ _ f396
  have f421 := s413.2.2.2 _ _ f397
  have f422 := s413.2.2.2 _ _ f398
  have f423 := s413.2.2.2 _ _ f399
  have f424 := s413.2.2.2 _ _ f400
  have f425 := s413.2.2.2 _ _ f401
  have f426 := s413.2.2.2 _ _ f402
  have f427 := s413.2.2.2 _ _ f403
  have f428 := s413.2.2.2 _ _ f404
  have f429 := s413.2.2.2 _ _ f405
  have f430 := s413.2.2.2 _ _ f406
  have f431 := s413.2.2.2 _ _ f407
  have f432 := s413.2.2.2 _ _ f389
  refine kg_putR C (by rw [n414]; exact (by decide)) (by decide +kernel) e418 fl_X12_151 klk_X12_151 rfl kfin_12_35 (by rw [(by decide +kernel : sRf 138 35 = 153), n414]; decide) (by rw [(by decide +kernel : sRf 138 35 = 153)]; exact e415) dX12_init_144 (fun Γ436 s433 n434 f435 C => ?_)
  have n437 : gN Γ436 = 154 := n434.trans n414
  have t438 := kS_t t417 s433
  have e439 : gD Γ436 138 = a := (s433.2.2.1 138 (by rw [n414]; exact (by decide))).trans e418
  have e440 : gD Γ436 153 = a412 := (s433.2.2.1 153 (by rw [n414]; exact (by decide))).trans e415
  have f441 := s433.2.2.2 _ _ f419
  have f442 := s433.2.2.2 _ _ f420
  have f443 := s433.2.2.2 _ _ f421
  have f444 := s433.2.2.2 _ _ f422
  have f445 := s433.2.2.2 _ _ f423
  have f446 := s433.2.2.2 _ _ f424
  have f447 := s433.2.2.2 _ _ f425
  have f448 := s433.2.2.2 _ _ f426
  have f449 := s433.2.2.2 _ _ f427
  have f450 := s433.2.2.2 _ _ f428
  have f451 := s433.2.2.2 _ _ f429
  have f452 := s433.2.2.2 _ _ f430
  have f453 := s433.2.2.2 _ _ f431
  have f454 := s433.2.2.2 _ _ f432
  refine zg_j (zj_aload_n (j := 0) (i := 0) C.1 rfl 0 rfl dX12_init_147 (j_zg ?_))
  refine zg_j (zj_bipush C.1 120 rfl dX12_init_148 (j_zg ?_))
  refine kg_newI C n437 (by decide +kernel) (L := 120) (by decide +kernel) (by decide) (by decide) (fun j => z416 _ j (Nat.le_refl _)) (by rw [hR]; exact ⟨by decide, by decide⟩) arc_int dX12_init_150 (fun Γ455 a456 s457 n458 e459 C => ?_)
  have z460 : kZ (zup (zup (zup (zup mem 138 26 (-1)) 138 32 (-1)) 138 33 (-1)) 138 34 (-1)) 155 := kZ_le z416 (Nat.le_succ _)
  have t461 := kS_t t438 s457
  have e462 : gD Γ455 138 = a := (s457.2.2.1 138 (by rw [n437]; exact (by decide))).trans e439
  have f463 := s457.2.2.2 _ _ f441
  have f464 := s457.2.2.2 _ _ f442
  have f465 := s457.2.2.2 _ _ f443
  have f466 := s457.2.2.2 _ _ f444
  have f467 := s457.2.2.2 _ _ f445
  have f468 := s457.2.2.2 _ _ f446
  have f469 := s457.2.2.2 _ _ f447
  have f470 := s457.2.2.2 _ _ f448
  have f471 := s457.2.2.2 _ _ f449
  have f472 := s457.2.2.2 _ _ f450
  have f473 := s457.2.2.2 _ _ f451
  have f474 := s457.2.2.2 _ _ f452
  have f475 := s457.2.2.2 _ _ f453
  have f476 := s457.2.2.2 _ _ f454
  have f477 := s457.2.2.2 _ _ f435
  refine kg_putR C (by rw [n458]; exact (by decide)) (by decide +kernel) e462 fl_X12_154 klk_X12_154 rfl kfin_12_38 (by rw [(by decide +kernel : sRf 138 38 = 154), n458]; decide) (by rw [(by decide +kernel : sRf 138 38 = 154)]; exact e459) dX12_init_152 (fun Γ481 s478 n479 f480 C => ?_)
  have n482 : gN Γ481 = 155 := n479.trans n458
  have t483 := kS_t t461 s478
  have e484 : gD Γ481 138 = a := (s478.2.2.1 138 (by rw [n458]; exact (by decide))).trans e462
  have e485 : gD Γ481 154 = a456 := (s478.2.2.1 154 (by rw [n458]; exact (by decide))).trans e459
  have f486 := s478.2.2.2 _ _ f463
  have f487 := s478.2.2.2 _ _ f464
  have f488 := s478.2.2.2 _ _ f465
  have f489 := s478.2.2.2 _ _ f466
  have f490 := s478.2.2.2 _ _ f467
  have f491 := s478.2.2.2 _ _ f468
  have f492 := s478.2.2.2 _ _ f469
  have f493 := s478.2.2.2 _ _ f470
  have f494 := s478.2.2.2 _ _ f471
  have f495 := s478.2.2.2 _ _ f472
  have f496 := s478.2.2.2 _ _ f473
  have f497 := s478.2.2.2 _ _ f474
  have f498 := s478.2.2.2 _ _ f475
  have f499 := s478.2.2.2 _ _ f476
  have f500 := s478.2.2.2 _ _ f477
  refine zg_j (zj_aload_n (j := 0) (i := 0) C.1 rfl 0 rfl dX12_init_155 (j_zg ?_))
  refine zg_j (zj_iconst C.1 4 dX12_init_156 (j_zg ?_))
  refine kg_newI C n482 (by decide +kernel) (L := 4) (by decide +kernel) (by decide) (by decide) (fun j => z460 _ j (Nat.le_refl _)) (by rw [hR]; exact ⟨by decide, by decide⟩) arc_int dX12_init_157 (fun Γ501 a502 s503 n504 e505 C => ?_)
  have z506 : kZ (zup (zup (zup (zup mem 138 26 (-1)) 138 32 (-1)) 138 33 (-1)) 138 34 (-1)) 156 := kZ_le z460 (Nat.le_succ _)
  have t507 := kS_t t483 s503
  have e508 : gD Γ501 138 = a := (s503.2.2.1 138 (by rw [n482]; exact (by decide))).trans e484
  have f509 := s503.2.2.2 _ _ f486
  have f510 := s503.2.2.2 _ _ f487
  have f511 := s503.2.2.2 _ _ f488
  have f512 := s503.2.2.2 _ _ f489
  have f513 := s503.2.2.2 _ _ f490
  have f514 := s503.2.2.2 _ _ f491
  have f515 := s503.2.2.2 _ _ f492
  have f516 := s503.2.2.2 _ _ f493
  have f517 := s503.2.2.2 _ _ f494
  have f518 := s503.2.2.2 _ _ f495
  have f519 := s503.2.2.2 _ _ f496
  have f520 := s503.2.2.2 _ _ f497
  have f521 := s503.2.2.2 _ _ f498
  have f522 := s503.2.2.2 _ _ f499
  have f523 := s503.2.2.2 _ _ f500
  have f524 := s503.2.2.2 _ _ f480
  refine kg_putR C (by rw [n504]; exact (by decide)) (by decide +kernel) e508 fl_X12_157 klk_X12_157 rfl kfin_12_39 (by rw [(by decide +kernel : sRf 138 39 = 155), n504]; decide) (by rw [(by decide +kernel : sRf 138 39 = 155)]; exact e505) dX12_init_159 (fun Γ528 s525 n526 f527 C => ?_)
  have n529 : gN Γ528 = 156 := n526.trans n504
  have t530 := kS_t t507 s525
  have e531 : gD Γ528 138 = a := (s525.2.2.1 138 (by rw [n504]; exact (by decide))).trans e508
  have e532 : gD Γ528 155 = a502 := (s525.2.2.1 155 (by rw [n504]; exact (by decide))).trans e505
  have f533 := s525.2.2.2 _ _ f509
  have f534 := s525.2.2.2 _ _ f510
  have f535 := s525.2.2.2 _ _ f511
  have f536 := s525.2.2.2 _ _ f512
  have f537 := s525.2.2.2 _ _ f513
  have f538 := s525.2.2.2 _ _ f514
  have f539 := s525.2.2.2 _ _ f515
  have f540 := s525.2.2.2 _ _ f516
  have f541 := s525.2.2.2 _ _ f517
  have f542 := s525.2.2.2 _ _ f518
  have f543 := s525.2.2.2 _ _ f519
  have f544 := s525.2.2.2 _ _ f520
  have f545 := s525.2.2.2 _ _ f521
  have f546 := s525.2.2.2 _ _ f522
  have f547 := s525.2.2.2 _ _ f523
  have f548 := s525.2.2.2 _ _ f524
  refine zg_j (zj_aload_n (j := 0) (i := 0) C.1 rfl 0 rfl dX12_init_162 (j_zg ?_))
  refine zg_j (zj_sipush C.1 240 rfl dX12_init_163 (j_zg ?_))
  refine kg_newI C n529 (by decide +kernel) (L := 240) (by decide +kernel) (by decide) (by decide) (fun j => z506 _ j (Nat.le_refl _)) (by rw [hR]; exact ⟨by decide, by decide⟩) arc_int dX12_init_166 (fun Γ549 a550 s551 n552 e553 C => ?_)
  have z554 : kZ (zup (zup (zup (zup mem 138 26 (-1)) 138 32 (-1)) 138 33 (-1)) 138 34 (-1)) 157 := kZ_le z506 (Nat.le_succ _)
  have t555 := kS_t t530 s551
  have e556 : gD Γ549 138 = a := (s551.2.2.1 138 (by rw [n529]; exact (by decide))).trans e531
  have f557 := s551.2.2.2 _ _ f533
  have f558 := s551.2.2.2 _ _ f534
  have f559 := s551.2.2.2 _ _ f535
  have f560 := s551.2.2.2 _ _ f536
  have f561 := s551.2.2.2 _ _ f537
  have f562 := s551.2.2.2 _ _ f538
  have f563 := s551.2.2.2 _ _ f539
  have f564 := s551.2.2.2 _ _ f540
  have f565 := s551.2.2.2 _ _ f541
  have f566 := s551.2.2.2 _ _ f542
  have f567 := s551.2.2.2 _ _ f543
  have f568 := s551.2.2.2 _ _ f544
  have f569 := s551.2.2.2 _ _ f545
  have f570 := s551.2.2.2 _ _ f546
  have f571 := s551.2.2.2 _ _ f547
  have f572 := s551.2.2.2 _ _ f548
  have f573 := s551.2.2.2 _ _ f527
  refine kg_putR C (by rw [n552]; exact (by decide)) (by decide +kernel) e556 fl_X12_160 klk_X12_160 rfl kfin_12_42 (by rw [(by decide +kernel : sRf 138 42 = 156), n552]; decide) (by rw [(by decide +kernel : sRf 138 42 = 156)]; exact e553) dX12_init_168 (fun Γ577 s574 n575 f576 C => ?_)
  have n578 : gN Γ577 = 157 := n575.trans n552
  have t579 := kS_t t555 s574
  have e580 : gD Γ577 138 = a := (s574.2.2.1 138 (by rw [n552]; exact (by decide))).trans e556
  have e581 : gD Γ577 156 = a550 := (s574.2.2.1 156 (by rw [n552]; exact (by decide))).trans e553
  have f582 := s574.2.2.2 _ _ f557
  have f583 := s574.2.2.2 _ _ f558
  have f584 := s574.2.2.2 _ _ f559
  have f585 := s574.2.2.2 _ _ f560
  have f586 := s574.2.2.2 _ _ f561
  have f587 := s574.2.2.2 _ _ f562
  have f588 := s574.2.2.2 _ _ f563
  have f589 := s574.2.2.2 _ _ f564
  have f590 := s574.2.2.2 _ _ f565
  have f591 := s574.2.2.2 _ _ f566
  have f592 := s574.2.2.2 _ _ f567
  have f593 := s574.2.2.2 _ _ f568
  have f594 := s574.2.2.2 _ _ f569
  have f595 := s574.2.2.2 _ _ f570
  have f596 := s574.2.2.2 _ _ f571
  have f597 := s574.2.2.2 _ _ f572
  have f598 := s574.2.2.2 _ _ f573
  refine zg_j (zj_aload_n (j := 0) (i := 0) C.1 rfl 0 rfl dX12_init_171 (j_zg ?_))
  obtain ⟨b599, hb600⟩ : ∃ b, gD Γ577 140 = b := ⟨_, rfl⟩
  refine kg_getR (q := 138) (b := b599) C (by rw [n578]; exact (by decide)) (by decide +kernel) e580 fl_X12_98 rfl f583 (by rw [(by decide +kernel : sRf 138 14 = 140)]; exact hb600) dX12_init_172 ?_
  refine zg_j (zj_iconst C.1 0 dX12_init_175 (j_zg ?_))
  refine zg_j (zj_iconst C.1 5 dX12_init_176 (j_zg ?_))
  refine kg_iast (q := 140) (i := 0) C (by rw [n578]; exact (by decide)) (by decide +kernel) hb600 rfl (by decide +kernel) (by decide) (by decide) dX12_init_177 ?_
  have z601 : kZ (zup (zup (zup (zup (zup mem 138 26 (-1)) 138 32 (-1)) 138 33 (-1)) 138 34 (-1)) 140 0 5) 157 := kZ_up z554 (by decide)
  refine zg_j (zj_aload_n (j := 0) (i := 0) C.1 rfl 0 rfl dX12_init_178 (j_zg ?_))
  obtain ⟨b602, hb603⟩ : ∃ b, gD Γ577 140 = b := ⟨_, rfl⟩
  refine kg_getR (q := 138) (b := b602) C (by rw [n578]; exact (by decide)) (by decide +kernel) e580 fl_X12_98 rfl f583 (by rw [(by decide +kernel : sRf 138 14 = 140)]; exact hb603) dX12_init_179 ?_
  refine zg_j (zj_iconst C.1 1 dX12_init_182 (j_zg ?_))
  refine zg_j (zj_iconst C.1 5 dX12_init_183 (j_zg ?_))
  refine kg_iast (q := 140) (i := 1) C (by rw [n578]; exact (by decide)) (by decide +kernel) hb603 rfl (by decide +kernel) (by decide) (by decide) dX12_init_184 ?_
  have z604 : kZ (zup (zup (zup (zup (zup (zup mem 138 26 (-1)) 138 32 (-1)) 138 33 (-1)) 138 34 (-1)) 140 0 5) 140 1 5) 157 := kZ_up z601 (by decide)
  refine zg_j (zj_aload_n (j := 0) (i := 0) C.1 rfl 0 rfl dX12_init_185 (j_zg ?_))
  have hfl : ∀ p k, p < gN Γ577 → isR p k = true → gF Γ577 p k = true := by
    intro p k hp hr
    rw [n578] at hp
    by_cases h9 : p < 138
    · exact t579.2.2.2 _ _ (hf0 p k h9 hr)
    · have hp : p = 138 ∨ 139 ≤ p ∧ p < 157 := by omega
      rcases (by omega : (p = 138) ∨ (p = 139) ∨ (p = 140) ∨ (p = 141) ∨ (p = 142) ∨ (p = 143) ∨ (p = 144) ∨ (p = 145) ∨ (p = 146) ∨ (p = 147) ∨ (p = 148) ∨ (p = 149) ∨ (p = 150) ∨ (p = 151) ∨ (p = 152) ∨ (p = 153) ∨ (p = 154) ∨ (p = 155) ∨ (p = 156)) with hp | hp | hp | hp | hp | hp | hp | hp | hp | hp | hp | hp | hp | hp | hp | hp | hp | hp | hp
      · subst hp
        obtain ⟨h1, h2⟩ := isR_o (ci := 12) (by decide +kernel) (by decide) hr
        have h3 : ∀ k, k < sNf 12 → sFk 12 k = 2 → k ∈ [1, 14, 15, 16, 17, 18, 19, 20, 21, 22, 27, 28, 29, 30, 35, 38, 39, 42] := by decide +kernel
        have h4 := h3 k h1 h2
        simp only [List.mem_cons, List.not_mem_nil, or_false] at h4
        rcases h4 with rfl | rfl | rfl | rfl | rfl | rfl | rfl | rfl | rfl | rfl | rfl | rfl | rfl | rfl | rfl | rfl | rfl | rfl
        · exact f582
        · exact f583
        · exact f584
        · exact f585
        · exact f586
        · exact f587
        · exact f588
        · exact f589
        · exact f590
        · exact f591
        · exact f592
        · exact f593
        · exact f594
        · exact f595
        · exact f596
        · exact f597
        · exact f598
        · exact f576
      · subst hp
        exact absurd hr (fun h => isR_a (ci := 13) (by decide +kernel) (by decide) h)
      · subst hp
        exact absurd hr (fun h => isR_a (ci := 13) (by decide +kernel) (by decide) h)
      · subst hp
        exact absurd hr (fun h => isR_a (ci := 13) (by decide +kernel) (by decide) h)
      · subst hp
        exact absurd hr (fun h => isR_a (ci := 13) (by decide +kernel) (by decide) h)
      · subst hp
        exact absurd hr (fun h => isR_a (ci := 13) (by decide +kernel) (by decide) h)
      · subst hp
        exact absurd hr (fun h => isR_a (ci := 13) (by decide +kernel) (by decide) h)
      · subst hp
        exact absurd hr (fun h => isR_a (ci := 14) (by decide +kernel) (by decide) h)
      · subst hp
        exact absurd hr (fun h => isR_a (ci := 14) (by decide +kernel) (by decide) h)
      · subst hp
        exact absurd hr (fun h => isR_a (ci := 14) (by decide +kernel) (by decide) h)
      · subst hp
        exact absurd hr (fun h => isR_a (ci := 15) (by decide +kernel) (by decide) h)
      · subst hp
        exact absurd hr (fun h => isR_a (ci := 13) (by decide +kernel) (by decide) h)
      · subst hp
        exact absurd hr (fun h => isR_a (ci := 13) (by decide +kernel) (by decide) h)
      · subst hp
        exact absurd hr (fun h => isR_a (ci := 13) (by decide +kernel) (by decide) h)
      · subst hp
        exact absurd hr (fun h => isR_a (ci := 14) (by decide +kernel) (by decide) h)
      · subst hp
        exact absurd hr (fun h => isR_a (ci := 13) (by decide +kernel) (by decide) h)
      · subst hp
        exact absurd hr (fun h => isR_a (ci := 13) (by decide +kernel) (by decide) h)
      · subst hp
        exact absurd hr (fun h => isR_a (ci := 13) (by decide +kernel) (by decide) h)
      · subst hp
        exact absurd hr (fun h => isR_a (ci := 13) (by decide +kernel) (by decide) h)
  refine (zg_full (by rw [n578]; decide) hfl).mpr ?_
  refine yg_callV (Γ := gFull Γ577) (b := 138) (ci := 12) (k := 0) (zC_full C.1) hl0 (As := []) (rest := []) (q := (0, mem1)) cal_X12_startSo calv_X12_startSo ml_X12_163 ⟨by show 138 < gN Γ577; rw [n578]; decide, by decide +kernel⟩ rfl rfl (by rw [hR]; exact ⟨by decide, by decide, by decide, by decide⟩) (Nat.le_of_ble_eq_true rfl) dX12_init_186 (M_X12_startSo l _ (gFull_ok n578 (by decide)) _ _ hs1) (by show _ = [Value.ref (gD Γ577 138)]; rw [e580]) (fun _ => ?_)
  show zg (kX X ((((((((((((((((((0 + 1) + 1) + 1) + 1) + 1) + 1) + 1) + 1) + 1) + 1) + 1) + 1) + 1) + 1) + 1) + 1) + 1) + 1) ((((((((((((((((((0 + 940) + 434) + 106) + 868) + 688) + 86) + 11) + 11) + 22) + 2) + 64) + 64) + 64) + 6) + 64) + 120) + 4) + 240)) (gFull Γ577) 1 189 [(0, .ref a)] [] mem1
  refine (zg_full (by rw [n578]; decide) hfl).mp ?_
  refine kg_ret C Z t579 n578 (fun p k hr hp => ?_) ⟨by decide, by decide⟩ dX12_init_189
  rw [hN] at hp
  rcases (by omega : (p = 138) ∨ (p = 139) ∨ (p = 140) ∨ (p = 141) ∨ (p = 142) ∨ (p = 143) ∨ (p = 144) ∨ (p = 145) ∨ (p = 146) ∨ (p = 147) ∨ (p = 148) ∨ (p = 149) ∨ (p = 150) ∨ (p = 151) ∨ (p = 152) ∨ (p = 153) ∨ (p = 154) ∨ (p = 155) ∨ (p = 156)) with hp | hp | hp | hp | hp | hp | hp | hp | hp | hp | hp | hp | hp | hp | hp | hp | hp | hp | hp
  · subst hp
    obtain ⟨h1, h2⟩ := isR_o (ci := 12) (by decide +kernel) (by decide) hr
    have h3 : ∀ k, k < sNf 12 → sFk 12 k = 2 → k ∈ [1, 14, 15, 16, 17, 18, 19, 20, 21, 22, 27, 28, 29, 30, 35, 38, 39, 42] := by decide +kernel
    have h4 := h3 k h1 h2
    simp only [List.mem_cons, List.not_mem_nil, or_false] at h4
    rcases h4 with rfl | rfl | rfl | rfl | rfl | rfl | rfl | rfl | rfl | rfl | rfl | rfl | rfl | rfl | rfl | rfl | rfl | rfl
    · exact f582
    · exact f583
    · exact f584
    · exact f585
    · exact f586
    · exact f587
    · exact f588
    · exact f589
    · exact f590
    · exact f591
    · exact f592
    · exact f593
    · exact f594
    · exact f595
    · exact f596
    · exact f597
    · exact f598
    · exact f576
  · subst hp
    exact absurd hr (fun h => isR_a (ci := 13) (by decide +kernel) (by decide) h)
  · subst hp
    exact absurd hr (fun h => isR_a (ci := 13) (by decide +kernel) (by decide) h)
  · subst hp
    exact absurd hr (fun h => isR_a (ci := 13) (by decide +kernel) (by decide) h)
  · subst hp
    exact absurd hr (fun h => isR_a (ci := 13) (by decide +kernel) (by decide) h)
  · subst hp
    exact absurd hr (fun h => isR_a (ci := 13) (by decide +kernel) (by decide) h)
  · subst hp
    exact absurd hr (fun h => isR_a (ci := 13) (by decide +kernel) (by decide) h)
  · subst hp
    exact absurd hr (fun h => isR_a (ci := 14) (by decide +kernel) (by decide) h)
  · subst hp
    exact absurd hr (fun h => isR_a (ci := 14) (by decide +kernel) (by decide) h)
  · subst hp
    exact absurd hr (fun h => isR_a (ci := 14) (by decide +kernel) (by decide) h)
  · subst hp
    exact absurd hr (fun h => isR_a (ci := 15) (by decide +kernel) (by decide) h)
  · subst hp
    exact absurd hr (fun h => isR_a (ci := 13) (by decide +kernel) (by decide) h)
  · subst hp
    exact absurd hr (fun h => isR_a (ci := 13) (by decide +kernel) (by decide) h)
  · subst hp
    exact absurd hr (fun h => isR_a (ci := 13) (by decide +kernel) (by decide) h)
  · subst hp
    exact absurd hr (fun h => isR_a (ci := 14) (by decide +kernel) (by decide) h)
  · subst hp
    exact absurd hr (fun h => isR_a (ci := 13) (by decide +kernel) (by decide) h)
  · subst hp
    exact absurd hr (fun h => isR_a (ci := 13) (by decide +kernel) (by decide) h)
  · subst hp
    exact absurd hr (fun h => isR_a (ci := 13) (by decide +kernel) (by decide) h)
  · subst hp
    exact absurd hr (fun h => isR_a (ci := 13) (by decide +kernel) (by decide) h)
