theorem fX7_42 : gFd RX7 42 7 13 true := ⟨by decide, RX7, TX7, 28, tyX7, rfl, rfl, gX7, by decide, gT_in (by decide +kernel) rfl, tyX7_ok, nmX7, rfl, fun _ => rfl⟩
theorem fX7_45 : gFd RX7 45 7 14 true := ⟨by decide, RX7, TX7, 28, tyX7, rfl, rfl, gX7, by decide, gT_in (by decide +kernel) rfl, tyX7_ok, nmX7, rfl, fun _ => rfl⟩
theorem fX7_48 : gFd RX7 48 7 15 true := ⟨by decide, RX7, TX7, 28, tyX7, rfl, rfl, gX7, by decide, gT_in (by decide +kernel) rfl, tyX7_ok, nmX7, rfl, fun _ => rfl⟩
theorem fX7_51 : gFd RX7 51 7 16 true := ⟨by decide, RX7, TX7, 28, tyX7, rfl, rfl, gX7, by decide, gT_in (by decide +kernel) rfl, tyX7_ok, nmX7, rfl, fun _ => rfl⟩
theorem fX7_54 : gFd RX7 54 7 17 true := ⟨by decide, RX7, TX7, 28, tyX7, rfl, rfl, gX7, by decide, gT_in (by decide +kernel) rfl, tyX7_ok, nmX7, rfl, fun _ => rfl⟩
theorem fX7_57 : gFd RX7 57 7 18 true := ⟨by decide, RX7, TX7, 28, tyX7, rfl, rfl, gX7, by decide, gT_in (by decide +kernel) rfl, tyX7_ok, nmX7, rfl, fun _ => rfl⟩
theorem fX7_60 : gFd RX7 60 7 19 true := ⟨by decide, RX7, TX7, 28, tyX7, rfl, rfl, gX7, by decide, gT_in (by decide +kernel) rfl, tyX7_ok, nmX7, rfl, fun _ => rfl⟩
theorem fX7_104 : gFd RX7 104 7 12 false := ⟨by decide, RX7, TX7, 28, tyX7, rfl, rfl, gX7, by decide, gT_in (by decide +kernel) rfl, tyX7_ok, nmX7, rfl, fun q => by cases q⟩
theorem fX7_13 : gFd RX7 13 7 2 false := ⟨by decide, RX7, TX7, 28, tyX7, rfl, rfl, gX7, by decide, gT_in (by decide +kernel) rfl, tyX7_ok, nmX7, rfl, fun q => by cases q⟩
theorem fX7_21 : gFd RX7 21 7 4 true := ⟨by decide, RX7, TX7, 28, tyX7, rfl, rfl, gX7, by decide, gT_in (by decide +kernel) rfl, tyX7_ok, nmX7, rfl, fun _ => rfl⟩
theorem nX7_118 : Cond.constant RX7 118 (524288) ∈ gT := gT_in (by decide +kernel) rfl
theorem vX7_119 : gCV RX7 119 yX7_key 4 := ⟨gT_in (by decide +kernel) rfl, gT_in (by decide +kernel) rfl, gT_in (by decide +kernel) rfl, gT_in (by decide +kernel) rfl, by decide, by decide, by decide +kernel⟩
theorem kX7_key : Cond.code yX7_key cX7_key 5 (some .int) ∈ gT := gT_in (List.mem_append_right _ (by decide +kernel)) rfl
theorem vX7_123 : gCV RX7 123 yX7_distanceOf 5 := ⟨gT_in (by decide +kernel) rfl, gT_in (by decide +kernel) rfl, gT_in (by decide +kernel) rfl, gT_in (by decide +kernel) rfl, by decide, by decide, by decide +kernel⟩
theorem kX7_distanceOf : Cond.code yX7_distanceOf cX7_distanceOf 6 (some .int) ∈ gT := gT_in (List.mem_append_right _ (by decide +kernel)) rfl
theorem fX7_7 : gFd RX7 7 7 1 false := ⟨by decide, RX7, TX7, 28, tyX7, rfl, rfl, gX7, by decide, gT_in (by decide +kernel) rfl, tyX7_ok, nmX7, rfl, fun q => by cases q⟩
theorem vX7_84 : gCS RX7 84 yX7_in 3 := ⟨gT_in (by decide +kernel) rfl, gT_in (by decide +kernel) rfl, gT_in (by decide +kernel) rfl, by decide, by decide, by decide +kernel⟩
theorem kX7_in : Cond.code yX7_in cX7_in 3 (some .boolean) ∈ gT := gT_in (List.mem_append_right _ (by decide +kernel)) rfl
theorem vX7_88 : gCS RX7 88 yX7_sign 1 := ⟨gT_in (by decide +kernel) rfl, gT_in (by decide +kernel) rfl, gT_in (by decide +kernel) rfl, by decide, by decide, by decide +kernel⟩
theorem vX7_92 : gCV RX7 92 yX7_off 3 := ⟨gT_in (by decide +kernel) rfl, gT_in (by decide +kernel) rfl, gT_in (by decide +kernel) rfl, gT_in (by decide +kernel) rfl, by decide, by decide, by decide +kernel⟩
theorem kX7_off : Cond.code yX7_off cX7_off 6 (some .int) ∈ gT := gT_in (List.mem_append_right _ (by decide +kernel)) rfl
theorem kX7_sign : Cond.code yX7_sign cX7_sign 1 (some .int) ∈ gT := gT_in (List.mem_append_right _ (by decide +kernel)) rfl
theorem vX7_96 : gCV RX7 96 yX7_isNext 2 := ⟨gT_in (by decide +kernel) rfl, gT_in (by decide +kernel) rfl, gT_in (by decide +kernel) rfl, gT_in (by decide +kernel) rfl, by decide, by decide, by decide +kernel⟩
theorem vX7_100 : gCV RX7 100 yX7_attacks 5 := ⟨gT_in (by decide +kernel) rfl, gT_in (by decide +kernel) rfl, gT_in (by decide +kernel) rfl, gT_in (by decide +kernel) rfl, by decide, by decide, by decide +kernel⟩
theorem kX7_attacks : Cond.code yX7_attacks cX7_attacks 9 (some .boolean) ∈ gT := gT_in (List.mem_append_right _ (by decide +kernel)) rfl
theorem kX7_isNext : Cond.code yX7_isNext cX7_isNext 5 (some .boolean) ∈ gT := gT_in (List.mem_append_right _ (by decide +kernel)) rfl
theorem vX7_110 : gCV RX7 110 yX7_add 7 := ⟨gT_in (by decide +kernel) rfl, gT_in (by decide +kernel) rfl, gT_in (by decide +kernel) rfl, gT_in (by decide +kernel) rfl, by decide, by decide, by decide +kernel⟩
theorem kX7_add : Cond.code yX7_add cX7_add 9 none ∈ gT := gT_in (List.mem_append_right _ (by decide +kernel)) rfl
theorem vX7_107 : gCV RX7 107 yX7_legal 5 := ⟨gT_in (by decide +kernel) rfl, gT_in (by decide +kernel) rfl, gT_in (by decide +kernel) rfl, gT_in (by decide +kernel) rfl, by decide, by decide, by decide +kernel⟩
theorem vX7_114 : gCV RX7 114 yX7_pawnMoves 3 := ⟨gT_in (by decide +kernel) rfl, gT_in (by decide +kernel) rfl, gT_in (by decide +kernel) rfl, gT_in (by decide +kernel) rfl, by decide, by decide, by decide +kernel⟩
theorem kX7_legal : Cond.code yX7_legal cX7_legal 6 (some .boolean) ∈ gT := gT_in (List.mem_append_right _ (by decide +kernel)) rfl
theorem kX7_pawnMoves : Cond.code yX7_pawnMoves cX7_pawnMoves 6 none ∈ gT := gT_in (List.mem_append_right _ (by decide +kernel)) rfl
theorem vX7_138 : gCV RX7 138 yX7_find 5 := ⟨gT_in (by decide +kernel) rfl, gT_in (by decide +kernel) rfl, gT_in (by decide +kernel) rfl, gT_in (by decide +kernel) rfl, by decide, by decide, by decide +kernel⟩
theorem vX7_166 : gCV RX7 166 yX7_after 2 := ⟨gT_in (by decide +kernel) rfl, gT_in (by decide +kernel) rfl, gT_in (by decide +kernel) rfl, gT_in (by decide +kernel) rfl, by decide, by decide, by decide +kernel⟩
theorem kX7_after : Cond.code yX7_after cX7_after 3 (some .int) ∈ gT := gT_in (List.mem_append_right _ (by decide +kernel)) rfl
theorem kX7_find : Cond.code yX7_find cX7_find 10 none ∈ gT := gT_in (List.mem_append_right _ (by decide +kernel)) rfl
theorem fX7_134 : gFd RX7 134 7 20 false := ⟨by decide, RX7, TX7, 28, tyX7, rfl, rfl, gX7, by decide, gT_in (by decide +kernel) rfl, tyX7_ok, nmX7, rfl, fun q => by cases q⟩
theorem vX7_142 : gCV RX7 142 yX7_decide 6 := ⟨gT_in (by decide +kernel) rfl, gT_in (by decide +kernel) rfl, gT_in (by decide +kernel) rfl, gT_in (by decide +kernel) rfl, by decide, by decide, by decide +kernel⟩
theorem vX7_159 : gCV RX7 159 yX7_isOpen 5 := ⟨gT_in (by decide +kernel) rfl, gT_in (by decide +kernel) rfl, gT_in (by decide +kernel) rfl, gT_in (by decide +kernel) rfl, by decide, by decide, by decide +kernel⟩
theorem vX7_162 : gCV RX7 162 yX7_allDecided 4 := ⟨gT_in (by decide +kernel) rfl, gT_in (by decide +kernel) rfl, gT_in (by decide +kernel) rfl, gT_in (by decide +kernel) rfl, by decide, by decide, by decide +kernel⟩
theorem kX7_allDecided : Cond.code yX7_allDecided cX7_allDecided 6 (some .boolean) ∈ gT := gT_in (List.mem_append_right _ (by decide +kernel)) rfl
theorem kX7_decide : Cond.code yX7_decide cX7_decide 7 none ∈ gT := gT_in (List.mem_append_right _ (by decide +kernel)) rfl
theorem kX7_isOpen : Cond.code yX7_isOpen cX7_isOpen 6 (some .boolean) ∈ gT := gT_in (List.mem_append_right _ (by decide +kernel)) rfl
theorem fX7_16 : gFd RX7 16 7 3 true := ⟨by decide, RX7, TX7, 28, tyX7, rfl, rfl, gX7, by decide, gT_in (by decide +kernel) rfl, tyX7_ok, nmX7, rfl, fun _ => rfl⟩
theorem fX7_81 : gFd RX7 81 7 0 false := ⟨by decide, RX7, TX7, 28, tyX7, rfl, rfl, gX7, by decide, gT_in (by decide +kernel) rfl, tyX7_ok, nmX7, rfl, fun q => by cases q⟩
theorem vX7_179 : gCV RX7 179 yX7_isMade 1 := ⟨gT_in (by decide +kernel) rfl, gT_in (by decide +kernel) rfl, gT_in (by decide +kernel) rfl, gT_in (by decide +kernel) rfl, by decide, by decide, by decide +kernel⟩
theorem vX7_183 : gCV RX7 183 yX7_areNumbers 5 := ⟨gT_in (by decide +kernel) rfl, gT_in (by decide +kernel) rfl, gT_in (by decide +kernel) rfl, gT_in (by decide +kernel) rfl, by decide, by decide, by decide +kernel⟩
theorem vX7_186 : gCV RX7 186 yX7_may 1 := ⟨gT_in (by decide +kernel) rfl, gT_in (by decide +kernel) rfl, gT_in (by decide +kernel) rfl, gT_in (by decide +kernel) rfl, by decide, by decide, by decide +kernel⟩
theorem kX7_areNumbers : Cond.code yX7_areNumbers cX7_areNumbers 6 (some .boolean) ∈ gT := gT_in (List.mem_append_right _ (by decide +kernel)) rfl
theorem kX7_isMade : Cond.code yX7_isMade cX7_isMade 2 (some .boolean) ∈ gT := gT_in (List.mem_append_right _ (by decide +kernel)) rfl
theorem kX7_may : Cond.code yX7_may cX7_may 2 (some .boolean) ∈ gT := gT_in (List.mem_append_right _ (by decide +kernel)) rfl
theorem fX7_63 : gFd RX7 63 7 22 true := ⟨by decide, RX7, TX7, 28, tyX7, rfl, rfl, gX7, by decide, gT_in (by decide +kernel) rfl, tyX7_ok, nmX7, rfl, fun _ => rfl⟩
theorem fX7_66 : gFd RX7 66 7 23 true := ⟨by decide, RX7, TX7, 28, tyX7, rfl, rfl, gX7, by decide, gT_in (by decide +kernel) rfl, tyX7_ok, nmX7, rfl, fun _ => rfl⟩
theorem fX7_69 : gFd RX7 69 7 24 true := ⟨by decide, RX7, TX7, 28, tyX7, rfl, rfl, gX7, by decide, gT_in (by decide +kernel) rfl, tyX7_ok, nmX7, rfl, fun _ => rfl⟩
theorem fX7_72 : gFd RX7 72 7 25 true := ⟨by decide, RX7, TX7, 28, tyX7, rfl, rfl, gX7, by decide, gT_in (by decide +kernel) rfl, tyX7_ok, nmX7, rfl, fun _ => rfl⟩
theorem fX7_193 : gFd RX7 193 7 21 false := ⟨by decide, RX7, TX7, 28, tyX7, rfl, rfl, gX7, by decide, gT_in (by decide +kernel) rfl, tyX7_ok, nmX7, rfl, fun q => by cases q⟩
theorem vX7_190 : gCV RX7 190 yX7_mayAsk 5 := ⟨gT_in (by decide +kernel) rfl, gT_in (by decide +kernel) rfl, gT_in (by decide +kernel) rfl, gT_in (by decide +kernel) rfl, by decide, by decide, by decide +kernel⟩
theorem vX7_196 : gCV RX7 196 yX7_isBest 3 := ⟨gT_in (by decide +kernel) rfl, gT_in (by decide +kernel) rfl, gT_in (by decide +kernel) rfl, gT_in (by decide +kernel) rfl, by decide, by decide, by decide +kernel⟩
theorem kX7_isBest : Cond.code yX7_isBest cX7_isBest 5 (some .boolean) ∈ gT := gT_in (List.mem_append_right _ (by decide +kernel)) rfl
theorem kX7_mayAsk : Cond.code yX7_mayAsk cX7_mayAsk 6 (some .boolean) ∈ gT := gT_in (List.mem_append_right _ (by decide +kernel)) rfl
theorem fX7_75 : gFd RX7 75 7 26 false := ⟨by decide, RX7, TX7, 28, tyX7, rfl, rfl, gX7, by decide, gT_in (by decide +kernel) rfl, tyX7_ok, nmX7, rfl, fun q => by cases q⟩
theorem fX7_26 : gFd RX7 26 7 5 true := ⟨by decide, RX7, TX7, 28, tyX7, rfl, rfl, gX7, by decide, gT_in (by decide +kernel) rfl, tyX7_ok, nmX7, rfl, fun _ => rfl⟩
theorem vX7_176 : gCV RX7 176 yX7_isCanon 2 := ⟨gT_in (by decide +kernel) rfl, gT_in (by decide +kernel) rfl, gT_in (by decide +kernel) rfl, gT_in (by decide +kernel) rfl, by decide, by decide, by decide +kernel⟩
theorem vX7_205 : gCV RX7 205 yX7_isSqueezed 2 := ⟨gT_in (by decide +kernel) rfl, gT_in (by decide +kernel) rfl, gT_in (by decide +kernel) rfl, gT_in (by decide +kernel) rfl, by decide, by decide, by decide +kernel⟩
theorem kX7_isCanon : Cond.code yX7_isCanon cX7_isCanon 3 (some .boolean) ∈ gT := gT_in (List.mem_append_right _ (by decide +kernel)) rfl
theorem kX7_isSqueezed : Cond.code yX7_isSqueezed cX7_isSqueezed 9 (some .boolean) ∈ gT := gT_in (List.mem_append_right _ (by decide +kernel)) rfl
theorem fX7_36 : gFd RX7 36 7 8 true := ⟨by decide, RX7, TX7, 28, tyX7, rfl, rfl, gX7, by decide, gT_in (by decide +kernel) rfl, tyX7_ok, nmX7, rfl, fun _ => rfl⟩
theorem fX7_208 : gFd RX7 208 7 9 false := ⟨by decide, RX7, TX7, 28, tyX7, rfl, rfl, gX7, by decide, gT_in (by decide +kernel) rfl, tyX7_ok, nmX7, rfl, fun q => by cases q⟩
theorem vX7_211 : gCV RX7 211 yX7_four 1 := ⟨gT_in (by decide +kernel) rfl, gT_in (by decide +kernel) rfl, gT_in (by decide +kernel) rfl, gT_in (by decide +kernel) rfl, by decide, by decide, by decide +kernel⟩
theorem kX7_four : Cond.code yX7_four cX7_four 3 none ∈ gT := gT_in (List.mem_append_right _ (by decide +kernel)) rfl
theorem fX7_78 : gFd RX7 78 7 27 true := ⟨by decide, RX7, TX7, 28, tyX7, rfl, rfl, gX7, by decide, gT_in (by decide +kernel) rfl, tyX7_ok, nmX7, rfl, fun _ => rfl⟩
theorem vX7_153 : gCV RX7 153 yX7_backWhite 5 := ⟨gT_in (by decide +kernel) rfl, gT_in (by decide +kernel) rfl, gT_in (by decide +kernel) rfl, gT_in (by decide +kernel) rfl, by decide, by decide, by decide +kernel⟩
theorem vX7_156 : gCV RX7 156 yX7_backBlack 5 := ⟨gT_in (by decide +kernel) rfl, gT_in (by decide +kernel) rfl, gT_in (by decide +kernel) rfl, gT_in (by decide +kernel) rfl, by decide, by decide, by decide +kernel⟩
theorem kX7_backBlack : Cond.code yX7_backBlack cX7_backBlack 9 none ∈ gT := gT_in (List.mem_append_right _ (by decide +kernel)) rfl
theorem kX7_backWhite : Cond.code yX7_backWhite cX7_backWhite 10 none ∈ gT := gT_in (List.mem_append_right _ (by decide +kernel)) rfl
theorem vX7_146 : gCV RX7 146 yX7_layer 2 := ⟨gT_in (by decide +kernel) rfl, gT_in (by decide +kernel) rfl, gT_in (by decide +kernel) rfl, gT_in (by decide +kernel) rfl, by decide, by decide, by decide +kernel⟩
theorem vX7_150 : gCV RX7 150 yX7_promotions 1 := ⟨gT_in (by decide +kernel) rfl, gT_in (by decide +kernel) rfl, gT_in (by decide +kernel) rfl, gT_in (by decide +kernel) rfl, by decide, by decide, by decide +kernel⟩
theorem kX7_layer : Cond.code yX7_layer cX7_layer 7 none ∈ gT := gT_in (List.mem_append_right _ (by decide +kernel)) rfl
theorem kX7_promotions : Cond.code yX7_promotions cX7_promotions 6 none ∈ gT := gT_in (List.mem_append_right _ (by decide +kernel)) rfl
theorem vX7_170 : gCV RX7 170 yX7_image 2 := ⟨gT_in (by decide +kernel) rfl, gT_in (by decide +kernel) rfl, gT_in (by decide +kernel) rfl, gT_in (by decide +kernel) rfl, by decide, by decide, by decide +kernel⟩
theorem kX7_image : Cond.code yX7_image cX7_image 6 (some .int) ∈ gT := gT_in (List.mem_append_right _ (by decide +kernel)) rfl
theorem vX7_199 : gCV RX7 199 yX7_keep 6 := ⟨gT_in (by decide +kernel) rfl, gT_in (by decide +kernel) rfl, gT_in (by decide +kernel) rfl, gT_in (by decide +kernel) rfl, by decide, by decide, by decide +kernel⟩
theorem kX7_keep : Cond.code yX7_keep cX7_keep 7 none ∈ gT := gT_in (List.mem_append_right _ (by decide +kernel)) rfl
theorem fX7_30 : gFd RX7 30 7 6 true := ⟨by decide, RX7, TX7, 28, tyX7, rfl, rfl, gX7, by decide, gT_in (by decide +kernel) rfl, tyX7_ok, nmX7, rfl, fun _ => rfl⟩
theorem vX7_202 : gCV RX7 202 yX7_numberOf 2 := ⟨gT_in (by decide +kernel) rfl, gT_in (by decide +kernel) rfl, gT_in (by decide +kernel) rfl, gT_in (by decide +kernel) rfl, by decide, by decide, by decide +kernel⟩
theorem kX7_numberOf : Cond.code yX7_numberOf cX7_numberOf 5 (some .int) ∈ gT := gT_in (List.mem_append_right _ (by decide +kernel)) rfl
theorem fX7_33 : gFd RX7 33 7 7 true := ⟨by decide, RX7, TX7, 28, tyX7, rfl, rfl, gX7, by decide, gT_in (by decide +kernel) rfl, tyX7_ok, nmX7, rfl, fun _ => rfl⟩
theorem vX7_173 : gCV RX7 173 yX7_least 5 := ⟨gT_in (by decide +kernel) rfl, gT_in (by decide +kernel) rfl, gT_in (by decide +kernel) rfl, gT_in (by decide +kernel) rfl, by decide, by decide, by decide +kernel⟩
theorem kX7_least : Cond.code yX7_least cX7_least 9 (some .int) ∈ gT := gT_in (List.mem_append_right _ (by decide +kernel)) rfl
theorem vX7_127 : gCV RX7 127 yX7_layers 1 := ⟨gT_in (by decide +kernel) rfl, gT_in (by decide +kernel) rfl, gT_in (by decide +kernel) rfl, gT_in (by decide +kernel) rfl, by decide, by decide, by decide +kernel⟩
theorem vX7_131 : gCV RX7 131 yX7_numbers 1 := ⟨gT_in (by decide +kernel) rfl, gT_in (by decide +kernel) rfl, gT_in (by decide +kernel) rfl, gT_in (by decide +kernel) rfl, by decide, by decide, by decide +kernel⟩
theorem kX7_layers : Cond.code yX7_layers cX7_layers 6 none ∈ gT := gT_in (List.mem_append_right _ (by decide +kernel)) rfl
theorem kX7_numbers : Cond.code yX7_numbers cX7_numbers 9 none ∈ gT := gT_in (List.mem_append_right _ (by decide +kernel)) rfl
theorem fX7_39 : gFd RX7 39 7 10 true := ⟨by decide, RX7, TX7, 28, tyX7, rfl, rfl, gX7, by decide, gT_in (by decide +kernel) rfl, tyX7_ok, nmX7, rfl, fun _ => rfl⟩
theorem fX7_217 : gFd RX7 217 7 11 false := ⟨by decide, RX7, TX7, 28, tyX7, rfl, rfl, gX7, by decide, gT_in (by decide +kernel) rfl, tyX7_ok, nmX7, rfl, fun q => by cases q⟩
theorem vX7_214 : gCV RX7 214 yX7_squareAt 1 := ⟨gT_in (by decide +kernel) rfl, gT_in (by decide +kernel) rfl, gT_in (by decide +kernel) rfl, gT_in (by decide +kernel) rfl, by decide, by decide, by decide +kernel⟩
theorem kX7_squareAt : Cond.code yX7_squareAt cX7_squareAt 4 (some .int) ∈ gT := gT_in (List.mem_append_right _ (by decide +kernel)) rfl
theorem vX7_220 : gCV RX7 220 yX7_tell 1 := ⟨gT_in (by decide +kernel) rfl, gT_in (by decide +kernel) rfl, gT_in (by decide +kernel) rfl, gT_in (by decide +kernel) rfl, by decide, by decide, by decide +kernel⟩
theorem kX7_tell : Cond.code yX7_tell cX7_tell 2 none ∈ gT := gT_in (List.mem_append_right _ (by decide +kernel)) rfl
theorem vX7_223 : gCV RX7 223 yX7_tellSquare 1 := ⟨gT_in (by decide +kernel) rfl, gT_in (by decide +kernel) rfl, gT_in (by decide +kernel) rfl, gT_in (by decide +kernel) rfl, by decide, by decide, by decide +kernel⟩
theorem kX7_tellSquare : Cond.code yX7_tellSquare cX7_tellSquare 2 none ∈ gT := gT_in (List.mem_append_right _ (by decide +kernel)) rfl
